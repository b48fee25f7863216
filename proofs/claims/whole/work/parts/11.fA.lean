def fA_Tape_size (g : G) : Option (Int32) := some (g.1 101)
set_option maxRecDepth 20000 in
set_option maxHeartbeats 4000000 in
theorem ok_fA_Tape_size (E : Ev)  (g : G)  : Ct (wCA E) yX8_size mi_X8_size [.ref (E.1 1)] (fun r => (some (.int r), g)) g (fA_Tape_size g) := by
  refine go_enter rfl rfl (Nat.le_of_ble_eq_true rfl) (lv := [(0, .ref (E.1 1))]) rfl ?_
  unfold fA_Tape_size
  refine go_aload_n td_X8_size 0 rfl (q := 1) rfl 0 rfl ?_
  refine go_get td_X8_size 1 rfl (q := 4) rfl fl_X8_15 (Ac_1 E g) rfl ?_
  exact go_iret td_X8_size 2 rfl rfl rfl
def fA_Tape_add (a1 : Int32) (g : G) : Option (G) := Lp (α := Int32 × G) (fun rec1 s1 => (if s1.1 < 0 then some s1.2 else (if 1600 ≤ (s1.2.1 101) then some s1.2 else ck 1600 (s1.2.1 101) (bv (sA s1.2 2 (s1.2.1 101 : Int32).toNatClampNeg ((((a1 : Int32).toUInt32 >>> ((s1.1 : Int32).toUInt32 &&& Int32.toUInt32 31)).toInt32) &&& 255)) fun g2 => bv (sS g2 101 ((g2.1 101) + 1)) fun g3 => rec1 (s1.1 + (-8), g3))))) FU (24, g)
set_option maxRecDepth 20000 in
set_option maxHeartbeats 4000000 in
theorem ok_fA_Tape_add (E : Ev) (a1 : Int32) (g : G)  : Ct (wCA E) yX8_add mi_X8_add [.ref (E.1 1), .int a1] (fun r => (none, r)) g (fA_Tape_add a1 g) := by
  refine go_enter rfl rfl (Nat.le_of_ble_eq_true rfl) (lv := [(0, .ref (E.1 1)), (1, .int a1)]) rfl ?_
  unfold fA_Tape_add
  refine go_bipush td_X8_add 0 rfl (q := 2) rfl kb_24 ?_
  refine go_istore_n [(2, .int 24), (0, .ref (E.1 1)), (1, .int a1)] td_X8_add 1 rfl (q := 3) rfl (Nat.le_of_ble_eq_true rfl) rfl ?_
  refine go_pick [1, 2, 0] (lv' := [(0, .ref (E.1 1)), (1, .int a1), (2, .int 24)]) rfl ?_
  refine (show ∀ (u1_0 : Int32) (u1_1 : G), Go (wCA E) _ _ u1_1 3 [(0, .ref (E.1 1)), (1, .int a1), (2, .int u1_0)] [] (Lp (α := Int32 × G) _ FU (u1_0, u1_1)) from ?_) 24 g
  intro u1_0 u1_1
  refine go_Lp (α := Int32 × G) (fun s1 => s1.2) (fun s1 => [(0, .ref (E.1 1)), (1, .int a1), (2, .int s1.1)]) ?_ FU (u1_0, u1_1)
  intro rec1 hrec1 s1
  have krec1 : ∀ (u1_0 : Int32) (u1_1 : G), Go (wCA E) _ _ u1_1 3 [(0, .ref (E.1 1)), (1, .int a1), (2, .int u1_0)] [] (rec1 (u1_0, u1_1)) := fun u1_0 u1_1 => hrec1 (u1_0, u1_1)
  refine go_iload_n td_X8_add 2 rfl (q := 4) rfl 2 rfl ?_
  refine go_if_lt 49 td_X8_add 3 rfl rfl (q := 7) rfl (fun _ => ?_) (fun _ => ?_)
  · exact go_vret td_X8_add 26 rfl rfl rfl
  · refine go_aload_n td_X8_add 4 rfl (q := 8) rfl 0 rfl ?_
    refine go_get td_X8_add 5 rfl (q := 11) rfl fl_X8_15 (Ac_1 E s1.2) rfl ?_
    refine go_sipush td_X8_add 6 rfl (q := 14) rfl ks_1600 ?_
    refine go_icmp_ge 49 td_X8_add 7 rfl rfl (q := 17) rfl (fun _ => ?_) (fun _ => ?_)
    · exact go_vret td_X8_add 26 rfl rfl rfl
    · refine go_aload_n td_X8_add 8 rfl (q := 18) rfl 0 rfl ?_
      refine go_get td_X8_add 9 rfl (q := 21) rfl fl_X8_9 (Ac_1 E s1.2) rfl ?_
      refine go_aload_n td_X8_add 10 rfl (q := 22) rfl 0 rfl ?_
      refine go_get td_X8_add 11 rfl (q := 25) rfl fl_X8_15 (Ac_1 E s1.2) rfl ?_
      refine go_iload_n td_X8_add 12 rfl (q := 26) rfl 1 rfl ?_
      refine go_iload_n td_X8_add 13 rfl (q := 27) rfl 2 rfl ?_
      refine go_iushr td_X8_add 14 rfl (q := 28) rfl ?_
      refine go_sipush td_X8_add 15 rfl (q := 31) rfl ks_255 ?_
      refine go_iand td_X8_add 16 rfl (q := 32) rfl ?_
      refine go_ast td_X8_add 17 rfl (q := 33) rfl (Ac_2 E s1.2) (t0 := 0) rfl (Aas_2 E s1.2 _) ?_
      refine go_bvg (fun g2 => ?_)
      refine go_aload_n td_X8_add 18 rfl (q := 34) rfl 0 rfl ?_
      refine go_dup td_X8_add 19 rfl (q := 35) rfl rfl ?_
      refine go_get td_X8_add 20 rfl (q := 38) rfl fl_X8_15 (Ac_1 E g2) rfl ?_
      refine go_iconst td_X8_add 21 rfl (q := 39) rfl kc_1 ?_
      refine go_iadd td_X8_add 22 rfl (q := 40) rfl ?_
      refine go_put td_X8_add 23 rfl (q := 43) rfl flp_X8_15 (Ac_1 E g2) rfl rfl (Nat.le_of_ble_eq_true rfl) (Aps_101 E g2 ((g2.1 101) + 1)) ?_
      refine go_bvg (fun g3 => ?_)
      refine go_iinc [(2, .int (s1.1 + (-8))), (0, .ref (E.1 1)), (1, .int a1)] td_X8_add 24 rfl (q := 46) rfl 2 rfl kc_m8 (Nat.le_of_ble_eq_true rfl) rfl ?_
      refine go_goto td_X8_add 25 rfl (q := 3) rfl ?_
      refine go_pick [1, 2, 0] (lv' := [(0, .ref (E.1 1)), (1, .int a1), (2, .int (s1.1 + (-8)))]) rfl ?_
      exact krec1 (s1.1 + (-8)) g3
def fA_D_refuse (a1 : Int32) (g : G) : Option (Int32 × G) := ag 6 (g.2.1 145) a1 fun x1 => ck 6 a1 (bv (sA g 145 (a1 : Int32).toNatClampNeg (x1 + 1)) fun g2 => some ((-1), g2))
set_option maxRecDepth 20000 in
set_option maxHeartbeats 4000000 in
theorem ok_fA_D_refuse (E : Ev) (a1 : Int32) (g : G)  : Ct (wCA E) yX11_refuse mi_X11_refuse [.ref (E.1 0), .int a1] (fun r => (some (.int r.1), r.2)) g (fA_D_refuse a1 g) := by
  refine go_enter rfl rfl (Nat.le_of_ble_eq_true rfl) (lv := [(0, .ref (E.1 0)), (1, .int a1)]) rfl ?_
  unfold fA_D_refuse
  refine go_aload_n td_X11_refuse 0 rfl (q := 1) rfl 0 rfl ?_
  refine go_get td_X11_refuse 1 rfl (q := 4) rfl fl_X11_97 (Ac_0 E g) rfl ?_
  refine go_iload_n td_X11_refuse 2 rfl (q := 5) rfl 1 rfl ?_
  refine go_dup2 td_X11_refuse 3 rfl (q := 6) rfl rfl rfl ?_
  refine go_ald td_X11_refuse 4 rfl (q := 7) rfl (Ac_145 E g) (t0 := 0) rfl (fun x1 => ?_)
  refine go_iconst td_X11_refuse 5 rfl (q := 8) rfl kc_1 ?_
  refine go_iadd td_X11_refuse 6 rfl (q := 9) rfl ?_
  refine go_ast td_X11_refuse 7 rfl (q := 10) rfl (Ac_145 E g) (t0 := 0) rfl (Aas_145 E g _) ?_
  refine go_bvg (fun g2 => ?_)
  refine go_iconst td_X11_refuse 8 rfl (q := 11) rfl kc_m1 ?_
  exact go_iret td_X11_refuse 9 rfl rfl rfl
def fA_D_feed (a1 : Int32) (a2 : Int32) (a3 : Int32) (a4 : Int32) (a5 : Int32) (g : G) : Option (Int32 × G) := Option.bind (fA_Tape_size g) fun x1 => (if (x1 + 20) ≤ 1600 then Option.bind (fA_Tape_add a1 g) fun x2 => Option.bind (fA_Tape_add a2 x2) fun x3 => Option.bind (fA_Tape_add a3 x3) fun x4 => Option.bind (fA_Tape_add a4 x4) fun x5 => Option.bind (fA_Tape_add a5 x5) fun x6 => Option.bind (fA_Tape_size x6) fun x7 => some (x7, x6) else Option.bind (fA_D_refuse 0 g) fun x8 => some (x8.1, x8.2))
set_option maxRecDepth 20000 in
set_option maxHeartbeats 4000000 in
theorem ok_fA_D_feed (E : Ev) (a1 : Int32) (a2 : Int32) (a3 : Int32) (a4 : Int32) (a5 : Int32) (g : G)  : Ct (wCA E) yX11_feed mi_X11_feed [.ref (E.1 0), .int a1, .int a2, .int a3, .int a4, .int a5] (fun r => (some (.int r.1), r.2)) g (fA_D_feed a1 a2 a3 a4 a5 g) := by
  refine go_enter rfl rfl (Nat.le_of_ble_eq_true rfl) (lv := [(0, .ref (E.1 0)), (1, .int a1), (2, .int a2), (3, .int a3), (4, .int a4), (5, .int a5)]) rfl ?_
  unfold fA_D_feed
  refine go_aload_n td_X11_feed 0 rfl (q := 1) rfl 0 rfl ?_
  refine go_get td_X11_feed 1 rfl (q := 4) rfl fl_X11_12 (Ac_0 E g) rfl ?_
  refine go_callV td_X11_feed 2 rfl (q := 7) rfl (XkA E) lk_X11_118 (ok_fA_Tape_size E g) ⟨rfl, rfl, Nat.le_of_ble_eq_true rfl, Nat.le_of_ble_eq_true rfl⟩ rfl rfl (Nat.le_of_ble_eq_true rfl) (Ac_1 E g) rfl (fun x1 => ?_)
  show Go (wCA E) _ _ g 7 _ [.int x1] _
  refine go_bipush td_X11_feed 3 rfl (q := 9) rfl kb_20 ?_
  refine go_iadd td_X11_feed 4 rfl (q := 10) rfl ?_
  refine go_sipush td_X11_feed 5 rfl (q := 13) rfl ks_1600 ?_
  refine go_icmp_le 22 td_X11_feed 6 rfl rfl (q := 16) rfl (fun _ => ?_) (fun _ => ?_)
  · refine go_aload_n td_X11_feed 11 rfl (q := 23) rfl 0 rfl ?_
    refine go_get td_X11_feed 12 rfl (q := 26) rfl fl_X11_12 (Ac_0 E g) rfl ?_
    refine go_iload_n td_X11_feed 13 rfl (q := 27) rfl 1 rfl ?_
    refine go_callV td_X11_feed 14 rfl (q := 30) rfl (XkA E) lk_X11_126 (ok_fA_Tape_add E a1 g) ⟨rfl, rfl, Nat.le_of_ble_eq_true rfl, Nat.le_of_ble_eq_true rfl⟩ rfl rfl (Nat.le_of_ble_eq_true rfl) (Ac_1 E g) rfl (fun x2 => ?_)
    show Go (wCA E) _ _ x2 30 _ [] _
    refine go_aload_n td_X11_feed 15 rfl (q := 31) rfl 0 rfl ?_
    refine go_get td_X11_feed 16 rfl (q := 34) rfl fl_X11_12 (Ac_0 E x2) rfl ?_
    refine go_iload_n td_X11_feed 17 rfl (q := 35) rfl 2 rfl ?_
    refine go_callV td_X11_feed 18 rfl (q := 38) rfl (XkA E) lk_X11_126 (ok_fA_Tape_add E a2 x2) ⟨rfl, rfl, Nat.le_of_ble_eq_true rfl, Nat.le_of_ble_eq_true rfl⟩ rfl rfl (Nat.le_of_ble_eq_true rfl) (Ac_1 E x2) rfl (fun x3 => ?_)
    show Go (wCA E) _ _ x3 38 _ [] _
    refine go_aload_n td_X11_feed 19 rfl (q := 39) rfl 0 rfl ?_
    refine go_get td_X11_feed 20 rfl (q := 42) rfl fl_X11_12 (Ac_0 E x3) rfl ?_
    refine go_iload_n td_X11_feed 21 rfl (q := 43) rfl 3 rfl ?_
    refine go_callV td_X11_feed 22 rfl (q := 46) rfl (XkA E) lk_X11_126 (ok_fA_Tape_add E a3 x3) ⟨rfl, rfl, Nat.le_of_ble_eq_true rfl, Nat.le_of_ble_eq_true rfl⟩ rfl rfl (Nat.le_of_ble_eq_true rfl) (Ac_1 E x3) rfl (fun x4 => ?_)
    show Go (wCA E) _ _ x4 46 _ [] _
    refine go_aload_n td_X11_feed 23 rfl (q := 47) rfl 0 rfl ?_
    refine go_get td_X11_feed 24 rfl (q := 50) rfl fl_X11_12 (Ac_0 E x4) rfl ?_
    refine go_iload td_X11_feed 25 rfl (q := 52) rfl 4 rfl ?_
    refine go_callV td_X11_feed 26 rfl (q := 55) rfl (XkA E) lk_X11_126 (ok_fA_Tape_add E a4 x4) ⟨rfl, rfl, Nat.le_of_ble_eq_true rfl, Nat.le_of_ble_eq_true rfl⟩ rfl rfl (Nat.le_of_ble_eq_true rfl) (Ac_1 E x4) rfl (fun x5 => ?_)
    show Go (wCA E) _ _ x5 55 _ [] _
    refine go_aload_n td_X11_feed 27 rfl (q := 56) rfl 0 rfl ?_
    refine go_get td_X11_feed 28 rfl (q := 59) rfl fl_X11_12 (Ac_0 E x5) rfl ?_
    refine go_iload td_X11_feed 29 rfl (q := 61) rfl 5 rfl ?_
    refine go_callV td_X11_feed 30 rfl (q := 64) rfl (XkA E) lk_X11_126 (ok_fA_Tape_add E a5 x5) ⟨rfl, rfl, Nat.le_of_ble_eq_true rfl, Nat.le_of_ble_eq_true rfl⟩ rfl rfl (Nat.le_of_ble_eq_true rfl) (Ac_1 E x5) rfl (fun x6 => ?_)
    show Go (wCA E) _ _ x6 64 _ [] _
    refine go_aload_n td_X11_feed 31 rfl (q := 65) rfl 0 rfl ?_
    refine go_get td_X11_feed 32 rfl (q := 68) rfl fl_X11_12 (Ac_0 E x6) rfl ?_
    refine go_callV td_X11_feed 33 rfl (q := 71) rfl (XkA E) lk_X11_118 (ok_fA_Tape_size E x6) ⟨rfl, rfl, Nat.le_of_ble_eq_true rfl, Nat.le_of_ble_eq_true rfl⟩ rfl rfl (Nat.le_of_ble_eq_true rfl) (Ac_1 E x6) rfl (fun x7 => ?_)
    show Go (wCA E) _ _ x6 71 _ [.int x7] _
    exact go_iret td_X11_feed 34 rfl rfl rfl
  · refine go_aload_n td_X11_feed 7 rfl (q := 17) rfl 0 rfl ?_
    refine go_iconst td_X11_feed 8 rfl (q := 18) rfl kc_0 ?_
    refine go_callV td_X11_feed 9 rfl (q := 21) rfl (XkA E) lk_X11_122 (ok_fA_D_refuse E 0 g) ⟨rfl, rfl, Nat.le_of_ble_eq_true rfl, Nat.le_of_ble_eq_true rfl⟩ rfl rfl (Nat.le_of_ble_eq_true rfl) (Ac_0 E g) rfl (fun x8 => ?_)
    show Go (wCA E) _ _ x8.2 21 _ [.int x8.1] _
    exact go_iret td_X11_feed 10 rfl rfl rfl
def fA_D_refused (a1 : Int32) (g : G) : Option (Int32 × G) := ag 6 (g.2.1 145) a1 fun x1 => ck 6 a1 (bv (sA g 145 (a1 : Int32).toNatClampNeg (x1 + 1)) fun g2 => some (0, g2))
set_option maxRecDepth 20000 in
set_option maxHeartbeats 4000000 in
theorem ok_fA_D_refused (E : Ev) (a1 : Int32) (g : G)  : Ct (wCA E) yX11_refused mi_X11_refused [.ref (E.1 0), .int a1] (fun r => (some (.int r.1), r.2)) g (fA_D_refused a1 g) := by
  refine go_enter rfl rfl (Nat.le_of_ble_eq_true rfl) (lv := [(0, .ref (E.1 0)), (1, .int a1)]) rfl ?_
  unfold fA_D_refused
  refine go_aload_n td_X11_refused 0 rfl (q := 1) rfl 0 rfl ?_
  refine go_get td_X11_refused 1 rfl (q := 4) rfl fl_X11_97 (Ac_0 E g) rfl ?_
  refine go_iload_n td_X11_refused 2 rfl (q := 5) rfl 1 rfl ?_
  refine go_dup2 td_X11_refused 3 rfl (q := 6) rfl rfl rfl ?_
  refine go_ald td_X11_refused 4 rfl (q := 7) rfl (Ac_145 E g) (t0 := 0) rfl (fun x1 => ?_)
  refine go_iconst td_X11_refused 5 rfl (q := 8) rfl kc_1 ?_
  refine go_iadd td_X11_refused 6 rfl (q := 9) rfl ?_
  refine go_ast td_X11_refused 7 rfl (q := 10) rfl (Ac_145 E g) (t0 := 0) rfl (Aas_145 E g _) ?_
  refine go_bvg (fun g2 => ?_)
  refine go_iconst td_X11_refused 8 rfl (q := 11) rfl kc_0 ?_
  exact go_zret td_X11_refused 9 rfl rfl rfl rfl
def fA_Tape_cutTo (a1 : Int32) (g : G) : Option (G) := (if a1 < 0 then some g else (if (g.1 101) < a1 then some g else bv (sS g 101 a1) fun g1 => some g1))
set_option maxRecDepth 20000 in
set_option maxHeartbeats 4000000 in
theorem ok_fA_Tape_cutTo (E : Ev) (a1 : Int32) (g : G)  : Ct (wCA E) yX8_cutTo mi_X8_cutTo [.ref (E.1 1), .int a1] (fun r => (none, r)) g (fA_Tape_cutTo a1 g) := by
  refine go_enter rfl rfl (Nat.le_of_ble_eq_true rfl) (lv := [(0, .ref (E.1 1)), (1, .int a1)]) rfl ?_
  unfold fA_Tape_cutTo
  refine go_iload_n td_X8_cutTo 0 rfl (q := 1) rfl 1 rfl ?_
  refine go_if_lt 17 td_X8_cutTo 1 rfl rfl (q := 4) rfl (fun _ => ?_) (fun _ => ?_)
  · exact go_vret td_X8_cutTo 9 rfl rfl rfl
  · refine go_iload_n td_X8_cutTo 2 rfl (q := 5) rfl 1 rfl ?_
    refine go_aload_n td_X8_cutTo 3 rfl (q := 6) rfl 0 rfl ?_
    refine go_get td_X8_cutTo 4 rfl (q := 9) rfl fl_X8_15 (Ac_1 E g) rfl ?_
    refine go_icmp_gt 17 td_X8_cutTo 5 rfl rfl (q := 12) rfl (fun _ => ?_) (fun _ => ?_)
    · exact go_vret td_X8_cutTo 9 rfl rfl rfl
    · refine go_aload_n td_X8_cutTo 6 rfl (q := 13) rfl 0 rfl ?_
      refine go_iload_n td_X8_cutTo 7 rfl (q := 14) rfl 1 rfl ?_
      refine go_put td_X8_cutTo 8 rfl (q := 17) rfl flp_X8_15 (Ac_1 E g) rfl rfl (Nat.le_of_ble_eq_true rfl) (Aps_101 E g a1) ?_
      refine go_bvg (fun g1 => ?_)
      exact go_vret td_X8_cutTo 9 rfl rfl rfl
def fA_D_end (a1 : Int32) (g : G) : Option (Int32 × G) := lj (α := Unit) (fun b1 => Option.bind (fA_D_refused 0 g) fun x2 => bt x2.1 (some (x2.1, x2.2))) fun J1 => (if a1 < 0 then J1 () else Option.bind (fA_Tape_size g) fun x3 => (if a1 ≤ x3 then Option.bind (fA_Tape_cutTo a1 g) fun x4 => some (1, x4) else J1 ()))
set_option maxRecDepth 20000 in
set_option maxHeartbeats 4000000 in
theorem ok_fA_D_end (E : Ev) (a1 : Int32) (g : G)  : Ct (wCA E) yX11_end mi_X11_end [.ref (E.1 0), .int a1] (fun r => (some (.int r.1), r.2)) g (fA_D_end a1 g) := by
  refine go_enter rfl rfl (Nat.le_of_ble_eq_true rfl) (lv := [(0, .ref (E.1 0)), (1, .int a1)]) rfl ?_
  unfold fA_D_end
  refine go_iload_n td_X11_end 0 rfl (q := 1) rfl 1 rfl ?_
  refine go_ljX (α := Unit) (fun b1 => [(0, .ref (E.1 0))]) (fun b1 => []) (fun b1 => g) 15 ?_ ?_
  · intro b1
    refine go_aload_n td_X11_end 7 rfl (q := 16) rfl 0 rfl ?_
    refine go_iconst td_X11_end 8 rfl (q := 17) rfl kc_0 ?_
    refine go_callV td_X11_end 9 rfl (q := 20) rfl (XkA E) lk_X11_130 (ok_fA_D_refused E 0 g) ⟨rfl, rfl, Nat.le_of_ble_eq_true rfl, Nat.le_of_ble_eq_true rfl⟩ rfl rfl (Nat.le_of_ble_eq_true rfl) (Ac_0 E g) rfl (fun x2 => ?_)
    show Go (wCA E) _ _ x2.2 20 _ [.int x2.1] _
    exact go_zretb td_X11_end 10 rfl rfl rfl
  intro J1 hJ1
  have kJ1 : Go (wCA E) _ _ g 15 [(0, .ref (E.1 0))] [] (J1 ()) := hJ1 ()
  refine go_if_lt 15 td_X11_end 1 rfl rfl (q := 4) rfl (fun _ => ?_) (fun _ => ?_)
  · refine go_pick [0] (lv' := [(0, .ref (E.1 0))]) rfl ?_
    exact kJ1 
  · refine go_iload_n td_X11_end 2 rfl (q := 5) rfl 1 rfl ?_
    refine go_aload_n td_X11_end 3 rfl (q := 6) rfl 0 rfl ?_
    refine go_get td_X11_end 4 rfl (q := 9) rfl fl_X11_12 (Ac_0 E g) rfl ?_
    refine go_callV td_X11_end 5 rfl (q := 12) rfl (XkA E) lk_X11_118 (ok_fA_Tape_size E g) ⟨rfl, rfl, Nat.le_of_ble_eq_true rfl, Nat.le_of_ble_eq_true rfl⟩ rfl rfl (Nat.le_of_ble_eq_true rfl) (Ac_1 E g) rfl (fun x3 => ?_)
    show Go (wCA E) _ _ g 12 _ [.int x3, .int a1] _
    refine go_icmp_le 21 td_X11_end 6 rfl rfl (q := 15) rfl (fun _ => ?_) (fun _ => ?_)
    · refine go_aload_n td_X11_end 11 rfl (q := 22) rfl 0 rfl ?_
      refine go_get td_X11_end 12 rfl (q := 25) rfl fl_X11_12 (Ac_0 E g) rfl ?_
      refine go_iload_n td_X11_end 13 rfl (q := 26) rfl 1 rfl ?_
      refine go_callV td_X11_end 14 rfl (q := 29) rfl (XkA E) lk_X11_134 (ok_fA_Tape_cutTo E a1 g) ⟨rfl, rfl, Nat.le_of_ble_eq_true rfl, Nat.le_of_ble_eq_true rfl⟩ rfl rfl (Nat.le_of_ble_eq_true rfl) (Ac_1 E g) rfl (fun x4 => ?_)
      show Go (wCA E) _ _ x4 29 _ [] _
      refine go_iconst td_X11_end 15 rfl (q := 30) rfl kc_1 ?_
      exact go_zret td_X11_end 16 rfl rfl rfl rfl
    · refine go_pick [0] (lv' := [(0, .ref (E.1 0))]) rfl ?_
      exact kJ1 
def fA_Plan_clear (g : G) : Option (G) := bv (sS g 1500 0) fun g1 => bv (sS g1 1501 0) fun g2 => bv (sS g2 1502 0) fun g3 => bv (sS g3 1503 0) fun g4 => bv (sS g4 1504 0) fun g5 => bv (sS g5 1505 0) fun g6 => bv (sS g6 1506 0) fun g7 => bv (sS g7 1507 0) fun g8 => some g8
set_option maxRecDepth 20000 in
set_option maxHeartbeats 4000000 in
theorem ok_fA_Plan_clear (E : Ev)  (g : G)  : Ct (wCA E) yX4_clear mi_X4_clear [.ref (E.1 15)] (fun r => (none, r)) g (fA_Plan_clear g) := by
  refine go_enter rfl rfl (Nat.le_of_ble_eq_true rfl) (lv := [(0, .ref (E.1 15))]) rfl ?_
  unfold fA_Plan_clear
  refine go_aload_n td_X4_clear 0 rfl (q := 1) rfl 0 rfl ?_
  refine go_iconst td_X4_clear 1 rfl (q := 2) rfl kc_0 ?_
  refine go_put td_X4_clear 2 rfl (q := 5) rfl flp_X4_9 (Ac_15 E g) rfl rfl (Nat.le_of_ble_eq_true rfl) (Aps_1500 E g 0) ?_
  refine go_bvg (fun g1 => ?_)
  refine go_aload_n td_X4_clear 3 rfl (q := 6) rfl 0 rfl ?_
  refine go_iconst td_X4_clear 4 rfl (q := 7) rfl kc_0 ?_
  refine go_put td_X4_clear 5 rfl (q := 10) rfl flp_X4_15 (Ac_15 E g1) rfl rfl (Nat.le_of_ble_eq_true rfl) (Aps_1501 E g1 0) ?_
  refine go_bvg (fun g2 => ?_)
  refine go_aload_n td_X4_clear 6 rfl (q := 11) rfl 0 rfl ?_
  refine go_iconst td_X4_clear 7 rfl (q := 12) rfl kc_0 ?_
  refine go_put td_X4_clear 8 rfl (q := 15) rfl flp_X4_18 (Ac_15 E g2) rfl rfl (Nat.le_of_ble_eq_true rfl) (Aps_1502 E g2 0) ?_
  refine go_bvg (fun g3 => ?_)
  refine go_aload_n td_X4_clear 9 rfl (q := 16) rfl 0 rfl ?_
  refine go_iconst td_X4_clear 10 rfl (q := 17) rfl kc_0 ?_
  refine go_put td_X4_clear 11 rfl (q := 20) rfl flp_X4_21 (Ac_15 E g3) rfl rfl (Nat.le_of_ble_eq_true rfl) (Aps_1503 E g3 0) ?_
  refine go_bvg (fun g4 => ?_)
  refine go_aload_n td_X4_clear 12 rfl (q := 21) rfl 0 rfl ?_
  refine go_iconst td_X4_clear 13 rfl (q := 22) rfl kc_0 ?_
  refine go_put td_X4_clear 14 rfl (q := 25) rfl flp_X4_24 (Ac_15 E g4) rfl rfl (Nat.le_of_ble_eq_true rfl) (Aps_1504 E g4 0) ?_
  refine go_bvg (fun g5 => ?_)
  refine go_aload_n td_X4_clear 15 rfl (q := 26) rfl 0 rfl ?_
  refine go_iconst td_X4_clear 16 rfl (q := 27) rfl kc_0 ?_
  refine go_put td_X4_clear 17 rfl (q := 30) rfl flp_X4_27 (Ac_15 E g5) rfl rfl (Nat.le_of_ble_eq_true rfl) (Aps_1505 E g5 0) ?_
  refine go_bvg (fun g6 => ?_)
  refine go_aload_n td_X4_clear 18 rfl (q := 31) rfl 0 rfl ?_
  refine go_iconst td_X4_clear 19 rfl (q := 32) rfl kc_0 ?_
  refine go_put td_X4_clear 20 rfl (q := 35) rfl flp_X4_30 (Ac_15 E g6) rfl rfl (Nat.le_of_ble_eq_true rfl) (Aps_1506 E g6 0) ?_
  refine go_bvg (fun g7 => ?_)
  refine go_aload_n td_X4_clear 21 rfl (q := 36) rfl 0 rfl ?_
  refine go_iconst td_X4_clear 22 rfl (q := 37) rfl kc_0 ?_
  refine go_put td_X4_clear 23 rfl (q := 40) rfl flp_X4_33 (Ac_15 E g7) rfl rfl (Nat.le_of_ble_eq_true rfl) (Aps_1507 E g7 0) ?_
  refine go_bvg (fun g8 => ?_)
  exact go_vret td_X4_clear 24 rfl rfl rfl
def fA_Fleet_clear (g : G) : Option (G) := bv (sS g 3100 0) fun g1 => some g1
set_option maxRecDepth 20000 in
set_option maxHeartbeats 4000000 in
theorem ok_fA_Fleet_clear (E : Ev)  (g : G)  : Ct (wCA E) yX1_clear mi_X1_clear [.ref (E.1 31)] (fun r => (none, r)) g (fA_Fleet_clear g) := by
  refine go_enter rfl rfl (Nat.le_of_ble_eq_true rfl) (lv := [(0, .ref (E.1 31))]) rfl ?_
  unfold fA_Fleet_clear
  refine go_aload_n td_X1_clear 0 rfl (q := 1) rfl 0 rfl ?_
  refine go_iconst td_X1_clear 1 rfl (q := 2) rfl kc_0 ?_
  refine go_put td_X1_clear 2 rfl (q := 5) rfl flp_X1_9 (Ac_31 E g) rfl rfl (Nat.le_of_ble_eq_true rfl) (Aps_3100 E g 0) ?_
  refine go_bvg (fun g1 => ?_)
  exact go_vret td_X1_clear 3 rfl rfl rfl
def fA_Tape_byteAt (a1 : Int32) (g : G) : Option (Int32) := (if a1 < 0 then some (-1) else (if (g.1 101) ≤ a1 then some (-1) else ag 1600 (g.2.1 2) a1 fun x1 => some x1))
set_option maxRecDepth 20000 in
set_option maxHeartbeats 4000000 in
theorem ok_fA_Tape_byteAt (E : Ev) (a1 : Int32) (g : G)  : Ct (wCA E) yX8_byteAt mi_X8_byteAt [.ref (E.1 1), .int a1] (fun r => (some (.int r), g)) g (fA_Tape_byteAt a1 g) := by
  refine go_enter rfl rfl (Nat.le_of_ble_eq_true rfl) (lv := [(0, .ref (E.1 1)), (1, .int a1)]) rfl ?_
  unfold fA_Tape_byteAt
  refine go_iload_n td_X8_byteAt 0 rfl (q := 1) rfl 1 rfl ?_
  refine go_if_lt 21 td_X8_byteAt 1 rfl rfl (q := 4) rfl (fun _ => ?_) (fun _ => ?_)
  · refine go_iconst td_X8_byteAt 11 rfl (q := 22) rfl kc_m1 ?_
    exact go_iret td_X8_byteAt 12 rfl rfl rfl
  · refine go_iload_n td_X8_byteAt 2 rfl (q := 5) rfl 1 rfl ?_
    refine go_aload_n td_X8_byteAt 3 rfl (q := 6) rfl 0 rfl ?_
    refine go_get td_X8_byteAt 4 rfl (q := 9) rfl fl_X8_15 (Ac_1 E g) rfl ?_
    refine go_icmp_ge 21 td_X8_byteAt 5 rfl rfl (q := 12) rfl (fun _ => ?_) (fun _ => ?_)
    · refine go_iconst td_X8_byteAt 11 rfl (q := 22) rfl kc_m1 ?_
      exact go_iret td_X8_byteAt 12 rfl rfl rfl
    · refine go_aload_n td_X8_byteAt 6 rfl (q := 13) rfl 0 rfl ?_
      refine go_get td_X8_byteAt 7 rfl (q := 16) rfl fl_X8_9 (Ac_1 E g) rfl ?_
      refine go_iload_n td_X8_byteAt 8 rfl (q := 17) rfl 1 rfl ?_
      refine go_ald td_X8_byteAt 9 rfl (q := 18) rfl (Ac_2 E g) (t0 := 0) rfl (fun x1 => ?_)
      refine go_goto td_X8_byteAt 10 rfl (q := 22) rfl ?_
      exact go_iret td_X8_byteAt 12 rfl rfl rfl
def fA_Reader_isBlank (a1 : Int32) (g : G) : Option (Int32) := lj (α := Unit) (fun b1 => some 1) fun J1 => (if a1 = 10 then J1 () else (if a1 = 32 then J1 () else some 0))
set_option maxRecDepth 20000 in
set_option maxHeartbeats 4000000 in
theorem ok_fA_Reader_isBlank (E : Ev) (a1 : Int32) (g : G)  : Ct (wCA E) yX5_isBlank mi_X5_isBlank [.int a1] (fun r => (some (.int r), g)) g (fA_Reader_isBlank a1 g) := by
  refine go_enter rfl rfl (Nat.le_of_ble_eq_true rfl) (lv := [(0, .int a1)]) rfl ?_
  unfold fA_Reader_isBlank
  refine go_iload_n td_X5_isBlank 0 rfl (q := 1) rfl 0 rfl ?_
  refine go_bipush td_X5_isBlank 1 rfl (q := 3) rfl kb_10 ?_
  refine go_ljX (α := Unit) (fun b1 => []) (fun b1 => []) (fun b1 => g) 12 ?_ ?_
  · intro b1
    refine go_iconst td_X5_isBlank 6 rfl (q := 13) rfl kc_1 ?_
    refine go_goto td_X5_isBlank 7 rfl (q := 17) rfl ?_
    exact go_zret td_X5_isBlank 9 rfl rfl rfl rfl
  intro J1 hJ1
  have kJ1 : Go (wCA E) _ _ g 12 [] [] (J1 ()) := hJ1 ()
  refine go_icmp_eq 12 td_X5_isBlank 2 rfl rfl (q := 6) rfl (fun _ => ?_) (fun _ => ?_)
  · refine go_pick [] (lv' := []) rfl ?_
    exact kJ1 
  · refine go_iload_n td_X5_isBlank 3 rfl (q := 7) rfl 0 rfl ?_
    refine go_bipush td_X5_isBlank 4 rfl (q := 9) rfl kb_32 ?_
    refine go_icmp_ne 16 td_X5_isBlank 5 rfl rfl (q := 12) rfl (fun _ => ?_) (fun _ => ?_)
    · refine go_iconst td_X5_isBlank 8 rfl (q := 17) rfl kc_0 ?_
      exact go_zret td_X5_isBlank 9 rfl rfl rfl rfl
    · refine go_pick [] (lv' := []) rfl ?_
      exact kJ1 
def fA_Reader_skipBlanks (g : G) : Option (G) := Lp (α := G) (fun rec1 s1 => Option.bind (fA_Tape_size s1) fun x2 => (if x2 ≤ (s1.1 3506) then some s1 else Option.bind (fA_Tape_byteAt (s1.1 3506) s1) fun x3 => Option.bind (fA_Reader_isBlank x3 s1) fun x4 => (if x4 = 0 then some s1 else bv (sS s1 3511 0) fun g5 => bv (sS g5 3506 ((g5.1 3506) + 1)) fun g6 => rec1 g6))) FU g
set_option maxRecDepth 20000 in
set_option maxHeartbeats 4000000 in
theorem ok_fA_Reader_skipBlanks (E : Ev)  (g : G)  : Ct (wCA E) yX5_skipBlanks mi_X5_skipBlanks [.ref (E.1 35)] (fun r => (none, r)) g (fA_Reader_skipBlanks g) := by
  refine go_enter rfl rfl (Nat.le_of_ble_eq_true rfl) (lv := [(0, .ref (E.1 35))]) rfl ?_
  unfold fA_Reader_skipBlanks
  refine go_pick [0] (lv' := [(0, .ref (E.1 35))]) rfl ?_
  refine (show ∀ (u1_0 : G), Go (wCA E) _ _ u1_0 0 [(0, .ref (E.1 35))] [] (Lp (α := G) _ FU u1_0) from ?_) g
  intro u1_0
  refine go_Lp (α := G) (fun s1 => s1) (fun s1 => [(0, .ref (E.1 35))]) ?_ FU u1_0
  intro rec1 hrec1 s1
  have krec1 : ∀ (u1_0 : G), Go (wCA E) _ _ u1_0 0 [(0, .ref (E.1 35))] [] (rec1 u1_0) := fun u1_0 => hrec1 u1_0
  refine go_aload_n td_X5_skipBlanks 0 rfl (q := 1) rfl 0 rfl ?_
  refine go_get td_X5_skipBlanks 1 rfl (q := 4) rfl fl_X5_21 (Ac_35 E s1) rfl ?_
  refine go_aload_n td_X5_skipBlanks 2 rfl (q := 5) rfl 0 rfl ?_
  refine go_get td_X5_skipBlanks 3 rfl (q := 8) rfl fl_X5_40 (Ac_35 E s1) rfl ?_
  refine go_callV td_X5_skipBlanks 4 rfl (q := 11) rfl (XkA E) lk_X5_67 (ok_fA_Tape_size E s1) ⟨rfl, rfl, Nat.le_of_ble_eq_true rfl, Nat.le_of_ble_eq_true rfl⟩ rfl rfl (Nat.le_of_ble_eq_true rfl) (Ac_1 E s1) rfl (fun x2 => ?_)
  show Go (wCA E) _ _ s1 11 _ [.int x2, .int (s1.1 3506)] _
  refine go_icmp_ge 49 td_X5_skipBlanks 5 rfl rfl (q := 14) rfl (fun _ => ?_) (fun _ => ?_)
  · exact go_vret td_X5_skipBlanks 23 rfl rfl rfl
  · refine go_aload_n td_X5_skipBlanks 6 rfl (q := 15) rfl 0 rfl ?_
    refine go_get td_X5_skipBlanks 7 rfl (q := 18) rfl fl_X5_40 (Ac_35 E s1) rfl ?_
    refine go_aload_n td_X5_skipBlanks 8 rfl (q := 19) rfl 0 rfl ?_
    refine go_get td_X5_skipBlanks 9 rfl (q := 22) rfl fl_X5_21 (Ac_35 E s1) rfl ?_
    refine go_callV td_X5_skipBlanks 10 rfl (q := 25) rfl (XkA E) lk_X5_214 (ok_fA_Tape_byteAt E (s1.1 3506) s1) ⟨rfl, rfl, Nat.le_of_ble_eq_true rfl, Nat.le_of_ble_eq_true rfl⟩ rfl rfl (Nat.le_of_ble_eq_true rfl) (Ac_1 E s1) rfl (fun x3 => ?_)
    show Go (wCA E) _ _ s1 25 _ [.int x3] _
    refine go_callS td_X5_skipBlanks 11 rfl (q := 28) rfl (XkA E) lk_X5_237 (ok_fA_Reader_isBlank E x3 s1) ⟨rfl, rfl, Nat.le_of_ble_eq_true rfl, Nat.le_of_ble_eq_true rfl⟩ rfl rfl (Nat.le_of_ble_eq_true rfl) (fun x4 => ?_)
    show Go (wCA E) _ _ s1 28 _ [.int x4] _
    refine go_if_eq 49 td_X5_skipBlanks 12 rfl rfl (q := 31) rfl (fun _ => ?_) (fun _ => ?_)
    · exact go_vret td_X5_skipBlanks 23 rfl rfl rfl
    · refine go_aload_n td_X5_skipBlanks 13 rfl (q := 32) rfl 0 rfl ?_
      refine go_iconst td_X5_skipBlanks 14 rfl (q := 33) rfl kc_0 ?_
      refine go_put td_X5_skipBlanks 15 rfl (q := 36) rfl flp_X5_36 (Ac_35 E s1) rfl rfl (Nat.le_of_ble_eq_true rfl) (Aps_3511 E s1 0) ?_
      refine go_bvg (fun g5 => ?_)
      refine go_aload_n td_X5_skipBlanks 16 rfl (q := 37) rfl 0 rfl ?_
      refine go_dup td_X5_skipBlanks 17 rfl (q := 38) rfl rfl ?_
      refine go_get td_X5_skipBlanks 18 rfl (q := 41) rfl fl_X5_21 (Ac_35 E g5) rfl ?_
      refine go_iconst td_X5_skipBlanks 19 rfl (q := 42) rfl kc_1 ?_
      refine go_iadd td_X5_skipBlanks 20 rfl (q := 43) rfl ?_
      refine go_put td_X5_skipBlanks 21 rfl (q := 46) rfl flp_X5_21 (Ac_35 E g5) rfl rfl (Nat.le_of_ble_eq_true rfl) (Aps_3506 E g5 ((g5.1 3506) + 1)) ?_
      refine go_bvg (fun g6 => ?_)
      refine go_goto td_X5_skipBlanks 22 rfl (q := 0) rfl ?_
      refine go_pick [0] (lv' := [(0, .ref (E.1 35))]) rfl ?_
      exact krec1 g6
def fA_Reader_fail (a1 : Int32) (a2 : Int32) (g : G) : Option (Int32 × G) := bv (sS g 3500 a1) fun g1 => bv (sS g1 3501 a2) fun g2 => some (0, g2)
set_option maxRecDepth 20000 in
set_option maxHeartbeats 4000000 in
theorem ok_fA_Reader_fail (E : Ev) (a1 : Int32) (a2 : Int32) (g : G)  : Ct (wCA E) yX5_fail mi_X5_fail [.ref (E.1 35), .int a1, .int a2] (fun r => (some (.int r.1), r.2)) g (fA_Reader_fail a1 a2 g) := by
  refine go_enter rfl rfl (Nat.le_of_ble_eq_true rfl) (lv := [(0, .ref (E.1 35)), (1, .int a1), (2, .int a2)]) rfl ?_
  unfold fA_Reader_fail
  refine go_aload_n td_X5_fail 0 rfl (q := 1) rfl 0 rfl ?_
  refine go_iload_n td_X5_fail 1 rfl (q := 2) rfl 1 rfl ?_
  refine go_put td_X5_fail 2 rfl (q := 5) rfl flp_X5_9 (Ac_35 E g) rfl rfl (Nat.le_of_ble_eq_true rfl) (Aps_3500 E g a1) ?_
  refine go_bvg (fun g1 => ?_)
  refine go_aload_n td_X5_fail 3 rfl (q := 6) rfl 0 rfl ?_
  refine go_iload_n td_X5_fail 4 rfl (q := 7) rfl 2 rfl ?_
  refine go_put td_X5_fail 5 rfl (q := 10) rfl flp_X5_15 (Ac_35 E g1) rfl rfl (Nat.le_of_ble_eq_true rfl) (Aps_3501 E g1 a2) ?_
  refine go_bvg (fun g2 => ?_)
  refine go_iconst td_X5_fail 6 rfl (q := 11) rfl kc_0 ?_
  exact go_zret td_X5_fail 7 rfl rfl rfl rfl
def fA_Reader_isLetter (a1 : Int32) (g : G) : Option (Int32) := (if a1 < 97 then some 0 else (if 122 < a1 then some 0 else some 1))
set_option maxRecDepth 20000 in
set_option maxHeartbeats 4000000 in
theorem ok_fA_Reader_isLetter (E : Ev) (a1 : Int32) (g : G)  : Ct (wCA E) yX5_isLetter mi_X5_isLetter [.int a1] (fun r => (some (.int r), g)) g (fA_Reader_isLetter a1 g) := by
  refine go_enter rfl rfl (Nat.le_of_ble_eq_true rfl) (lv := [(0, .int a1)]) rfl ?_
  unfold fA_Reader_isLetter
  refine go_iload_n td_X5_isLetter 0 rfl (q := 1) rfl 0 rfl ?_
  refine go_bipush td_X5_isLetter 1 rfl (q := 3) rfl kb_97 ?_
  refine go_icmp_lt 16 td_X5_isLetter 2 rfl rfl (q := 6) rfl (fun _ => ?_) (fun _ => ?_)
  · refine go_iconst td_X5_isLetter 8 rfl (q := 17) rfl kc_0 ?_
    exact go_zret td_X5_isLetter 9 rfl rfl rfl rfl
  · refine go_iload_n td_X5_isLetter 3 rfl (q := 7) rfl 0 rfl ?_
    refine go_bipush td_X5_isLetter 4 rfl (q := 9) rfl kb_122 ?_
    refine go_icmp_gt 16 td_X5_isLetter 5 rfl rfl (q := 12) rfl (fun _ => ?_) (fun _ => ?_)
    · refine go_iconst td_X5_isLetter 8 rfl (q := 17) rfl kc_0 ?_
      exact go_zret td_X5_isLetter 9 rfl rfl rfl rfl
    · refine go_iconst td_X5_isLetter 6 rfl (q := 13) rfl kc_1 ?_
      refine go_goto td_X5_isLetter 7 rfl (q := 17) rfl ?_
      exact go_zret td_X5_isLetter 9 rfl rfl rfl rfl
def fA_Words_withLetter (a1 : Int32) (a2 : Int32) (a3 : Int32) (g : G) : Option (Int32) := (if 6 ≤ a2 then some a1 else some (a1 ||| (((a3 - 97) + 1) <<< ((25 - (5 * a2)) &&& 31))))
set_option maxRecDepth 20000 in
set_option maxHeartbeats 4000000 in
theorem ok_fA_Words_withLetter (E : Ev) (a1 : Int32) (a2 : Int32) (a3 : Int32) (g : G)  : Ct (wCA E) yX10_withLetter mi_X10_withLetter [.int a1, .int a2, .int a3] (fun r => (some (.int r), g)) g (fA_Words_withLetter a1 a2 a3 g) := by
  refine go_enter rfl rfl (Nat.le_of_ble_eq_true rfl) (lv := [(0, .int a1), (1, .int a2), (2, .int a3)]) rfl ?_
  unfold fA_Words_withLetter
  refine go_iload_n td_X10_withLetter 0 rfl (q := 1) rfl 1 rfl ?_
  refine go_bipush td_X10_withLetter 1 rfl (q := 3) rfl kb_6 ?_
  refine go_icmp_ge 24 td_X10_withLetter 2 rfl rfl (q := 6) rfl (fun _ => ?_) (fun _ => ?_)
  · refine go_iload_n td_X10_withLetter 17 rfl (q := 25) rfl 0 rfl ?_
    exact go_iret td_X10_withLetter 18 rfl rfl rfl
  · refine go_iload_n td_X10_withLetter 3 rfl (q := 7) rfl 0 rfl ?_
    refine go_iload_n td_X10_withLetter 4 rfl (q := 8) rfl 2 rfl ?_
    refine go_bipush td_X10_withLetter 5 rfl (q := 10) rfl kb_97 ?_
    refine go_isub td_X10_withLetter 6 rfl (q := 11) rfl ?_
    refine go_iconst td_X10_withLetter 7 rfl (q := 12) rfl kc_1 ?_
    refine go_iadd td_X10_withLetter 8 rfl (q := 13) rfl ?_
    refine go_bipush td_X10_withLetter 9 rfl (q := 15) rfl kb_25 ?_
    refine go_iconst td_X10_withLetter 10 rfl (q := 16) rfl kc_5 ?_
    refine go_iload_n td_X10_withLetter 11 rfl (q := 17) rfl 1 rfl ?_
    refine go_imul td_X10_withLetter 12 rfl (q := 18) rfl ?_
    refine go_isub td_X10_withLetter 13 rfl (q := 19) rfl ?_
    refine go_ishl td_X10_withLetter 14 rfl (q := 20) rfl ?_
    refine go_ior td_X10_withLetter 15 rfl (q := 21) rfl ?_
    refine go_goto td_X10_withLetter 16 rfl (q := 25) rfl ?_
    exact go_iret td_X10_withLetter 18 rfl rfl rfl
def fA_Reader_takeLetters (g : G) : Option (Int32 × G) := Option.bind (fA_Reader_skipBlanks g) fun x1 => lj (α := Unit) (fun b2 => Option.bind (fA_Reader_fail 1 (x1.1 3506) x1) fun x3 => bt x3.1 (some (x3.1, x3.2))) fun J2 => (if (x1.1 3511) = 0 then Option.bind (fA_Tape_byteAt (x1.1 3506) x1) fun x4 => Option.bind (fA_Reader_isLetter x4 x1) fun x5 => (if x5 = 0 then J2 () else bv (sS x1 3507 (x1.1 3506)) fun g6 => bv (sS g6 3508 0) fun g7 => bv (sS g7 3509 0) fun g8 => Lp (α := G) (fun rec9 s9 => Option.bind (fA_Tape_size s9) fun x10 => lj (α := Unit) (fun b11 => bv (sS s9 3511 1) fun g12 => some (1, g12)) fun J11 => (if x10 ≤ (s9.1 3506) then J11 () else Option.bind (fA_Tape_byteAt (s9.1 3506) s9) fun x13 => Option.bind (fA_Reader_isLetter x13 s9) fun x14 => (if x14 = 0 then J11 () else Option.bind (fA_Tape_byteAt (s9.1 3506) s9) fun x15 => Option.bind (fA_Words_withLetter (s9.1 3508) (s9.1 3509) x15 s9) fun x16 => bv (sS s9 3508 x16) fun g17 => bv (sS g17 3509 ((g17.1 3509) + 1)) fun g18 => bv (sS g18 3506 ((g18.1 3506) + 1)) fun g19 => rec9 g19))) FU g8) else J2 ())
set_option maxRecDepth 20000 in
set_option maxHeartbeats 4000000 in
theorem ok_fA_Reader_takeLetters (E : Ev)  (g : G)  : Ct (wCA E) yX5_takeLetters mi_X5_takeLetters [.ref (E.1 35)] (fun r => (some (.int r.1), r.2)) g (fA_Reader_takeLetters g) := by
  refine go_enter rfl rfl (Nat.le_of_ble_eq_true rfl) (lv := [(0, .ref (E.1 35))]) rfl ?_
  unfold fA_Reader_takeLetters
  refine go_aload_n td_X5_takeLetters 0 rfl (q := 1) rfl 0 rfl ?_
  refine go_callV td_X5_takeLetters 1 rfl (q := 4) rfl (XkA E) lk_X5_64 (ok_fA_Reader_skipBlanks E g) ⟨rfl, rfl, Nat.le_of_ble_eq_true rfl, Nat.le_of_ble_eq_true rfl⟩ rfl rfl (Nat.le_of_ble_eq_true rfl) (Ac_35 E g) rfl (fun x1 => ?_)
  show Go (wCA E) _ _ x1 4 _ [] _
  refine go_aload_n td_X5_takeLetters 2 rfl (q := 5) rfl 0 rfl ?_
  refine go_get td_X5_takeLetters 3 rfl (q := 8) rfl fl_X5_36 (Ac_35 E x1) rfl ?_
  refine go_ljX (α := Unit) (fun b2 => [(0, .ref (E.1 35))]) (fun b2 => []) (fun b2 => x1) 28 ?_ ?_
  · intro b2
    refine go_aload_n td_X5_takeLetters 12 rfl (q := 29) rfl 0 rfl ?_
    refine go_iconst td_X5_takeLetters 13 rfl (q := 30) rfl kc_1 ?_
    refine go_aload_n td_X5_takeLetters 14 rfl (q := 31) rfl 0 rfl ?_
    refine go_get td_X5_takeLetters 15 rfl (q := 34) rfl fl_X5_21 (Ac_35 E x1) rfl ?_
    refine go_callV td_X5_takeLetters 16 rfl (q := 37) rfl (XkA E) lk_X5_97 (ok_fA_Reader_fail E 1 (x1.1 3506) x1) ⟨rfl, rfl, Nat.le_of_ble_eq_true rfl, Nat.le_of_ble_eq_true rfl⟩ rfl rfl (Nat.le_of_ble_eq_true rfl) (Ac_35 E x1) rfl (fun x3 => ?_)
    show Go (wCA E) _ _ x3.2 37 _ [.int x3.1] _
    exact go_zretb td_X5_takeLetters 17 rfl rfl rfl
  intro J2 hJ2
  have kJ2 : Go (wCA E) _ _ x1 28 [(0, .ref (E.1 35))] [] (J2 ()) := hJ2 ()
  refine go_if_ne 28 td_X5_takeLetters 4 rfl rfl (q := 11) rfl (fun _ => ?_) (fun _ => ?_)
  · refine go_pick [0] (lv' := [(0, .ref (E.1 35))]) rfl ?_
    exact kJ2 
  · refine go_aload_n td_X5_takeLetters 5 rfl (q := 12) rfl 0 rfl ?_
    refine go_get td_X5_takeLetters 6 rfl (q := 15) rfl fl_X5_40 (Ac_35 E x1) rfl ?_
    refine go_aload_n td_X5_takeLetters 7 rfl (q := 16) rfl 0 rfl ?_
    refine go_get td_X5_takeLetters 8 rfl (q := 19) rfl fl_X5_21 (Ac_35 E x1) rfl ?_
    refine go_callV td_X5_takeLetters 9 rfl (q := 22) rfl (XkA E) lk_X5_214 (ok_fA_Tape_byteAt E (x1.1 3506) x1) ⟨rfl, rfl, Nat.le_of_ble_eq_true rfl, Nat.le_of_ble_eq_true rfl⟩ rfl rfl (Nat.le_of_ble_eq_true rfl) (Ac_1 E x1) rfl (fun x4 => ?_)
    show Go (wCA E) _ _ x1 22 _ [.int x4] _
    refine go_callS td_X5_takeLetters 10 rfl (q := 25) rfl (XkA E) lk_X5_227 (ok_fA_Reader_isLetter E x4 x1) ⟨rfl, rfl, Nat.le_of_ble_eq_true rfl, Nat.le_of_ble_eq_true rfl⟩ rfl rfl (Nat.le_of_ble_eq_true rfl) (fun x5 => ?_)
    show Go (wCA E) _ _ x1 25 _ [.int x5] _
    refine go_if_ne 38 td_X5_takeLetters 11 rfl rfl (q := 28) rfl (fun _ => ?_) (fun _ => ?_)
    · refine go_aload_n td_X5_takeLetters 18 rfl (q := 39) rfl 0 rfl ?_
      refine go_aload_n td_X5_takeLetters 19 rfl (q := 40) rfl 0 rfl ?_
      refine go_get td_X5_takeLetters 20 rfl (q := 43) rfl fl_X5_21 (Ac_35 E x1) rfl ?_
      refine go_put td_X5_takeLetters 21 rfl (q := 46) rfl flp_X5_24 (Ac_35 E x1) rfl rfl (Nat.le_of_ble_eq_true rfl) (Aps_3507 E x1 (x1.1 3506)) ?_
      refine go_bvg (fun g6 => ?_)
      refine go_aload_n td_X5_takeLetters 22 rfl (q := 47) rfl 0 rfl ?_
      refine go_iconst td_X5_takeLetters 23 rfl (q := 48) rfl kc_0 ?_
      refine go_put td_X5_takeLetters 24 rfl (q := 51) rfl flp_X5_27 (Ac_35 E g6) rfl rfl (Nat.le_of_ble_eq_true rfl) (Aps_3508 E g6 0) ?_
      refine go_bvg (fun g7 => ?_)
      refine go_aload_n td_X5_takeLetters 25 rfl (q := 52) rfl 0 rfl ?_
      refine go_iconst td_X5_takeLetters 26 rfl (q := 53) rfl kc_0 ?_
      refine go_put td_X5_takeLetters 27 rfl (q := 56) rfl flp_X5_30 (Ac_35 E g7) rfl rfl (Nat.le_of_ble_eq_true rfl) (Aps_3509 E g7 0) ?_
      refine go_bvg (fun g8 => ?_)
      refine go_pick [0] (lv' := [(0, .ref (E.1 35))]) rfl ?_
      refine (show ∀ (u9_0 : G), Go (wCA E) _ _ u9_0 56 [(0, .ref (E.1 35))] [] (Lp (α := G) _ FU u9_0) from ?_) g8
      intro u9_0
      refine go_Lp (α := G) (fun s9 => s9) (fun s9 => [(0, .ref (E.1 35))]) ?_ FU u9_0
      intro rec9 hrec9 s9
      have krec9 : ∀ (u9_0 : G), Go (wCA E) _ _ u9_0 56 [(0, .ref (E.1 35))] [] (rec9 u9_0) := fun u9_0 => hrec9 u9_0
      refine go_aload_n td_X5_takeLetters 28 rfl (q := 57) rfl 0 rfl ?_
      refine go_get td_X5_takeLetters 29 rfl (q := 60) rfl fl_X5_21 (Ac_35 E s9) rfl ?_
      refine go_aload_n td_X5_takeLetters 30 rfl (q := 61) rfl 0 rfl ?_
      refine go_get td_X5_takeLetters 31 rfl (q := 64) rfl fl_X5_40 (Ac_35 E s9) rfl ?_
      refine go_callV td_X5_takeLetters 32 rfl (q := 67) rfl (XkA E) lk_X5_67 (ok_fA_Tape_size E s9) ⟨rfl, rfl, Nat.le_of_ble_eq_true rfl, Nat.le_of_ble_eq_true rfl⟩ rfl rfl (Nat.le_of_ble_eq_true rfl) (Ac_1 E s9) rfl (fun x10 => ?_)
      show Go (wCA E) _ _ s9 67 _ [.int x10, .int (s9.1 3506)] _
      refine go_ljX (α := Unit) (fun b11 => [(0, .ref (E.1 35))]) (fun b11 => []) (fun b11 => s9) 136 ?_ ?_
      · intro b11
        refine go_aload_n td_X5_takeLetters 66 rfl (q := 137) rfl 0 rfl ?_
        refine go_iconst td_X5_takeLetters 67 rfl (q := 138) rfl kc_1 ?_
        refine go_put td_X5_takeLetters 68 rfl (q := 141) rfl flp_X5_36 (Ac_35 E s9) rfl rfl (Nat.le_of_ble_eq_true rfl) (Aps_3511 E s9 1) ?_
        refine go_bvg (fun g12 => ?_)
        refine go_iconst td_X5_takeLetters 69 rfl (q := 142) rfl kc_1 ?_
        exact go_zret td_X5_takeLetters 70 rfl rfl rfl rfl
      intro J11 hJ11
      have kJ11 : Go (wCA E) _ _ s9 136 [(0, .ref (E.1 35))] [] (J11 ()) := hJ11 ()
      refine go_icmp_ge 136 td_X5_takeLetters 33 rfl rfl (q := 70) rfl (fun _ => ?_) (fun _ => ?_)
      · refine go_pick [0] (lv' := [(0, .ref (E.1 35))]) rfl ?_
        exact kJ11 
      · refine go_aload_n td_X5_takeLetters 34 rfl (q := 71) rfl 0 rfl ?_
        refine go_get td_X5_takeLetters 35 rfl (q := 74) rfl fl_X5_40 (Ac_35 E s9) rfl ?_
        refine go_aload_n td_X5_takeLetters 36 rfl (q := 75) rfl 0 rfl ?_
        refine go_get td_X5_takeLetters 37 rfl (q := 78) rfl fl_X5_21 (Ac_35 E s9) rfl ?_
        refine go_callV td_X5_takeLetters 38 rfl (q := 81) rfl (XkA E) lk_X5_214 (ok_fA_Tape_byteAt E (s9.1 3506) s9) ⟨rfl, rfl, Nat.le_of_ble_eq_true rfl, Nat.le_of_ble_eq_true rfl⟩ rfl rfl (Nat.le_of_ble_eq_true rfl) (Ac_1 E s9) rfl (fun x13 => ?_)
        show Go (wCA E) _ _ s9 81 _ [.int x13] _
        refine go_callS td_X5_takeLetters 39 rfl (q := 84) rfl (XkA E) lk_X5_227 (ok_fA_Reader_isLetter E x13 s9) ⟨rfl, rfl, Nat.le_of_ble_eq_true rfl, Nat.le_of_ble_eq_true rfl⟩ rfl rfl (Nat.le_of_ble_eq_true rfl) (fun x14 => ?_)
        show Go (wCA E) _ _ s9 84 _ [.int x14] _
        refine go_if_eq 136 td_X5_takeLetters 40 rfl rfl (q := 87) rfl (fun _ => ?_) (fun _ => ?_)
        · refine go_pick [0] (lv' := [(0, .ref (E.1 35))]) rfl ?_
          exact kJ11 
        · refine go_aload_n td_X5_takeLetters 41 rfl (q := 88) rfl 0 rfl ?_
          refine go_aload_n td_X5_takeLetters 42 rfl (q := 89) rfl 0 rfl ?_
          refine go_get td_X5_takeLetters 43 rfl (q := 92) rfl fl_X5_27 (Ac_35 E s9) rfl ?_
          refine go_aload_n td_X5_takeLetters 44 rfl (q := 93) rfl 0 rfl ?_
          refine go_get td_X5_takeLetters 45 rfl (q := 96) rfl fl_X5_30 (Ac_35 E s9) rfl ?_
          refine go_aload_n td_X5_takeLetters 46 rfl (q := 97) rfl 0 rfl ?_
          refine go_get td_X5_takeLetters 47 rfl (q := 100) rfl fl_X5_40 (Ac_35 E s9) rfl ?_
          refine go_aload_n td_X5_takeLetters 48 rfl (q := 101) rfl 0 rfl ?_
          refine go_get td_X5_takeLetters 49 rfl (q := 104) rfl fl_X5_21 (Ac_35 E s9) rfl ?_
          refine go_callV td_X5_takeLetters 50 rfl (q := 107) rfl (XkA E) lk_X5_214 (ok_fA_Tape_byteAt E (s9.1 3506) s9) ⟨rfl, rfl, Nat.le_of_ble_eq_true rfl, Nat.le_of_ble_eq_true rfl⟩ rfl rfl (Nat.le_of_ble_eq_true rfl) (Ac_1 E s9) rfl (fun x15 => ?_)
          show Go (wCA E) _ _ s9 107 _ [.int x15, .int (s9.1 3509), .int (s9.1 3508), .ref (E.1 35)] _
          refine go_callS td_X5_takeLetters 51 rfl (q := 110) rfl (XkA E) lk_X5_230 (ok_fA_Words_withLetter E (s9.1 3508) (s9.1 3509) x15 s9) ⟨rfl, rfl, Nat.le_of_ble_eq_true rfl, Nat.le_of_ble_eq_true rfl⟩ rfl rfl (Nat.le_of_ble_eq_true rfl) (fun x16 => ?_)
          show Go (wCA E) _ _ s9 110 _ [.int x16, .ref (E.1 35)] _
          refine go_put td_X5_takeLetters 52 rfl (q := 113) rfl flp_X5_27 (Ac_35 E s9) rfl rfl (Nat.le_of_ble_eq_true rfl) (Aps_3508 E s9 x16) ?_
          refine go_bvg (fun g17 => ?_)
          refine go_aload_n td_X5_takeLetters 53 rfl (q := 114) rfl 0 rfl ?_
          refine go_dup td_X5_takeLetters 54 rfl (q := 115) rfl rfl ?_
          refine go_get td_X5_takeLetters 55 rfl (q := 118) rfl fl_X5_30 (Ac_35 E g17) rfl ?_
          refine go_iconst td_X5_takeLetters 56 rfl (q := 119) rfl kc_1 ?_
          refine go_iadd td_X5_takeLetters 57 rfl (q := 120) rfl ?_
          refine go_put td_X5_takeLetters 58 rfl (q := 123) rfl flp_X5_30 (Ac_35 E g17) rfl rfl (Nat.le_of_ble_eq_true rfl) (Aps_3509 E g17 ((g17.1 3509) + 1)) ?_
          refine go_bvg (fun g18 => ?_)
          refine go_aload_n td_X5_takeLetters 59 rfl (q := 124) rfl 0 rfl ?_
          refine go_dup td_X5_takeLetters 60 rfl (q := 125) rfl rfl ?_
          refine go_get td_X5_takeLetters 61 rfl (q := 128) rfl fl_X5_21 (Ac_35 E g18) rfl ?_
          refine go_iconst td_X5_takeLetters 62 rfl (q := 129) rfl kc_1 ?_
          refine go_iadd td_X5_takeLetters 63 rfl (q := 130) rfl ?_
          refine go_put td_X5_takeLetters 64 rfl (q := 133) rfl flp_X5_21 (Ac_35 E g18) rfl rfl (Nat.le_of_ble_eq_true rfl) (Aps_3506 E g18 ((g18.1 3506) + 1)) ?_
          refine go_bvg (fun g19 => ?_)
          refine go_goto td_X5_takeLetters 65 rfl (q := 56) rfl ?_
          refine go_pick [0] (lv' := [(0, .ref (E.1 35))]) rfl ?_
          exact krec9 g19
    · refine go_pick [0] (lv' := [(0, .ref (E.1 35))]) rfl ?_
      exact kJ2 
def fA_Words_of (a1 : Nat) (g : G) : Option (Int32) := Lp (α := Int32 × Int32) (fun rec1 s1 => (if (slen a1) ≤ s1.2 then some s1.1 else sch a1 s1.2 fun x3 => Option.bind (fA_Words_withLetter s1.1 s1.2 x3 g) fun x4 => rec1 (x4, s1.2 + 1))) FU (0, 0)
set_option maxRecDepth 20000 in
set_option maxHeartbeats 4000000 in
theorem ok_fA_Words_of (E : Ev) (a1 : Nat) (g : G) (ha1 : a1 < nST) : Ct (wCA E) yX10_of mi_X10_of [.ref (E.2.1 a1)] (fun r => (some (.int r), g)) g (fA_Words_of a1 g) := by
  refine go_enter rfl rfl (Nat.le_of_ble_eq_true rfl) (lv := [(0, .ref (E.2.1 a1))]) rfl ?_
  unfold fA_Words_of
  refine go_iconst td_X10_of 0 rfl (q := 1) rfl kc_0 ?_
  refine go_istore_n [(1, .int 0), (0, .ref (E.2.1 a1))] td_X10_of 1 rfl (q := 2) rfl (Nat.le_of_ble_eq_true rfl) rfl ?_
  refine go_iconst td_X10_of 2 rfl (q := 3) rfl kc_0 ?_
  refine go_istore_n [(2, .int 0), (1, .int 0), (0, .ref (E.2.1 a1))] td_X10_of 3 rfl (q := 4) rfl (Nat.le_of_ble_eq_true rfl) rfl ?_
  refine go_pick [2, 1, 0] (lv' := [(0, .ref (E.2.1 a1)), (1, .int 0), (2, .int 0)]) rfl ?_
  refine (show ∀ (u1_0 : Int32) (u1_1 : Int32), Go (wCA E) _ _ g 4 [(0, .ref (E.2.1 a1)), (1, .int u1_0), (2, .int u1_1)] [] (Lp (α := Int32 × Int32) _ FU (u1_0, u1_1)) from ?_) 0 0
  intro u1_0 u1_1
  refine go_Lp (α := Int32 × Int32) (fun s1 => g) (fun s1 => [(0, .ref (E.2.1 a1)), (1, .int s1.1), (2, .int s1.2)]) ?_ FU (u1_0, u1_1)
  intro rec1 hrec1 s1
  have krec1 : ∀ (u1_0 : Int32) (u1_1 : Int32), Go (wCA E) _ _ g 4 [(0, .ref (E.2.1 a1)), (1, .int u1_0), (2, .int u1_1)] [] (rec1 (u1_0, u1_1)) := fun u1_0 u1_1 => hrec1 (u1_0, u1_1)
  refine go_iload_n td_X10_of 4 rfl (q := 5) rfl 2 rfl ?_
  refine go_aload_n td_X10_of 5 rfl (q := 6) rfl 0 rfl ?_
  refine go_slen td_X10_of 6 rfl (q := 9) rfl lk_X10_9 ha1 ⟨Nat.le_of_ble_eq_true rfl, Nat.le_of_ble_eq_true rfl, Nat.le_of_ble_eq_true rfl⟩ ?_
  refine go_icmp_ge 29 td_X10_of 7 rfl rfl (q := 12) rfl (fun _ => ?_) (fun _ => ?_)
  · refine go_iload_n td_X10_of 17 rfl (q := 30) rfl 1 rfl ?_
    exact go_iret td_X10_of 18 rfl rfl rfl
  · refine go_iload_n td_X10_of 8 rfl (q := 13) rfl 1 rfl ?_
    refine go_iload_n td_X10_of 9 rfl (q := 14) rfl 2 rfl ?_
    refine go_aload_n td_X10_of 10 rfl (q := 15) rfl 0 rfl ?_
    refine go_iload_n td_X10_of 11 rfl (q := 16) rfl 2 rfl ?_
    refine go_schar td_X10_of 12 rfl (q := 19) rfl lk_X10_15 ha1 ⟨Nat.le_of_ble_eq_true rfl, Nat.le_of_ble_eq_true rfl, Nat.le_of_ble_eq_true rfl⟩ (fun x3 => ?_)
    refine go_callS td_X10_of 13 rfl (q := 22) rfl (XkA E) lk_X10_19 (ok_fA_Words_withLetter E s1.1 s1.2 x3 g) ⟨rfl, rfl, Nat.le_of_ble_eq_true rfl, Nat.le_of_ble_eq_true rfl⟩ rfl rfl (Nat.le_of_ble_eq_true rfl) (fun x4 => ?_)
    show Go (wCA E) _ _ g 22 _ [.int x4] _
    refine go_istore_n [(1, .int x4), (0, .ref (E.2.1 a1)), (2, .int s1.2)] td_X10_of 14 rfl (q := 23) rfl (Nat.le_of_ble_eq_true rfl) rfl ?_
    refine go_iinc [(2, .int (s1.2 + 1)), (1, .int x4), (0, .ref (E.2.1 a1))] td_X10_of 15 rfl (q := 26) rfl 2 rfl kc_1 (Nat.le_of_ble_eq_true rfl) rfl ?_
    refine go_goto td_X10_of 16 rfl (q := 4) rfl ?_
    refine go_pick [2, 1, 0] (lv' := [(0, .ref (E.2.1 a1)), (1, .int x4), (2, .int (s1.2 + 1))]) rfl ?_
    exact krec1 x4 (s1.2 + 1)
def fA_Reader_takeWord (a1 : Nat) (g : G) : Option (Int32 × G) := Option.bind (fA_Reader_takeLetters g) fun x1 => (if x1.1 = 0 then some (0, x1.2) else Option.bind (fA_Words_of a1 x1.2) fun x2 => lj (α := G) (fun b3 => some (1, b3)) fun J3 => (if (x1.2.1 3508) = x2 then J3 x1.2 else Option.bind (fA_Reader_fail 1 (x1.2.1 3507) x1.2) fun x4 => (if x4.1 = 0 then some (0, x4.2) else J3 x4.2)))
set_option maxRecDepth 20000 in
set_option maxHeartbeats 4000000 in
theorem ok_fA_Reader_takeWord (E : Ev) (a1 : Nat) (g : G) (ha1 : a1 < nST) : Ct (wCA E) yX5_takeWord mi_X5_takeWord [.ref (E.1 35), .ref (E.2.1 a1)] (fun r => (some (.int r.1), r.2)) g (fA_Reader_takeWord a1 g) := by
  refine go_enter rfl rfl (Nat.le_of_ble_eq_true rfl) (lv := [(0, .ref (E.1 35)), (1, .ref (E.2.1 a1))]) rfl ?_
  unfold fA_Reader_takeWord
  refine go_aload_n td_X5_takeWord 0 rfl (q := 1) rfl 0 rfl ?_
  refine go_callV td_X5_takeWord 1 rfl (q := 4) rfl (XkA E) lk_X5_73 (ok_fA_Reader_takeLetters E g) ⟨rfl, rfl, Nat.le_of_ble_eq_true rfl, Nat.le_of_ble_eq_true rfl⟩ rfl rfl (Nat.le_of_ble_eq_true rfl) (Ac_35 E g) rfl (fun x1 => ?_)
  show Go (wCA E) _ _ x1.2 4 _ [.int x1.1] _
  refine go_if_ne 9 td_X5_takeWord 2 rfl rfl (q := 7) rfl (fun _ => ?_) (fun _ => ?_)
  · refine go_aload_n td_X5_takeWord 5 rfl (q := 10) rfl 0 rfl ?_
    refine go_get td_X5_takeWord 6 rfl (q := 13) rfl fl_X5_27 (Ac_35 E x1.2) rfl ?_
    refine go_aload_n td_X5_takeWord 7 rfl (q := 14) rfl 1 rfl ?_
    refine go_callS td_X5_takeWord 8 rfl (q := 17) rfl (XkA E) lk_X5_78 (ok_fA_Words_of E a1 x1.2 ha1) ⟨rfl, rfl, Nat.le_of_ble_eq_true rfl, Nat.le_of_ble_eq_true rfl⟩ rfl rfl (Nat.le_of_ble_eq_true rfl) (fun x2 => ?_)
    show Go (wCA E) _ _ x1.2 17 _ [.int x2, .int (x1.2.1 3508)] _
    refine go_ljX (α := G) (fun b3 => []) (fun b3 => []) (fun b3 => b3) 32 ?_ ?_
    · intro b3
      refine go_iconst td_X5_takeWord 16 rfl (q := 33) rfl kc_1 ?_
      refine go_goto td_X5_takeWord 17 rfl (q := 37) rfl ?_
      exact go_zret td_X5_takeWord 19 rfl rfl rfl rfl
    intro J3 hJ3
    have kJ3 : ∀ (u3_0 : G), Go (wCA E) _ _ u3_0 32 [] [] (J3 u3_0) := fun u3_0 => hJ3 u3_0
    refine go_icmp_eq 32 td_X5_takeWord 9 rfl rfl (q := 20) rfl (fun _ => ?_) (fun _ => ?_)
    · refine go_pick [] (lv' := []) rfl ?_
      exact kJ3 x1.2
    · refine go_aload_n td_X5_takeWord 10 rfl (q := 21) rfl 0 rfl ?_
      refine go_iconst td_X5_takeWord 11 rfl (q := 22) rfl kc_1 ?_
      refine go_aload_n td_X5_takeWord 12 rfl (q := 23) rfl 0 rfl ?_
      refine go_get td_X5_takeWord 13 rfl (q := 26) rfl fl_X5_24 (Ac_35 E x1.2) rfl ?_
      refine go_callV td_X5_takeWord 14 rfl (q := 29) rfl (XkA E) lk_X5_97 (ok_fA_Reader_fail E 1 (x1.2.1 3507) x1.2) ⟨rfl, rfl, Nat.le_of_ble_eq_true rfl, Nat.le_of_ble_eq_true rfl⟩ rfl rfl (Nat.le_of_ble_eq_true rfl) (Ac_35 E x1.2) rfl (fun x4 => ?_)
      show Go (wCA E) _ _ x4.2 29 _ [.int x4.1] _
      refine go_if_eq 36 td_X5_takeWord 15 rfl rfl (q := 32) rfl (fun _ => ?_) (fun _ => ?_)
      · refine go_iconst td_X5_takeWord 18 rfl (q := 37) rfl kc_0 ?_
        exact go_zret td_X5_takeWord 19 rfl rfl rfl rfl
      · refine go_pick [] (lv' := []) rfl ?_
        exact kJ3 x4.2
  · refine go_iconst td_X5_takeWord 3 rfl (q := 8) rfl kc_0 ?_
    exact go_zret td_X5_takeWord 4 rfl rfl rfl rfl
def fA_Reader_isDigit (a1 : Int32) (g : G) : Option (Int32) := (if a1 < 48 then some 0 else (if 57 < a1 then some 0 else some 1))
set_option maxRecDepth 20000 in
set_option maxHeartbeats 4000000 in
theorem ok_fA_Reader_isDigit (E : Ev) (a1 : Int32) (g : G)  : Ct (wCA E) yX5_isDigit mi_X5_isDigit [.int a1] (fun r => (some (.int r), g)) g (fA_Reader_isDigit a1 g) := by
  refine go_enter rfl rfl (Nat.le_of_ble_eq_true rfl) (lv := [(0, .int a1)]) rfl ?_
  unfold fA_Reader_isDigit
  refine go_iload_n td_X5_isDigit 0 rfl (q := 1) rfl 0 rfl ?_
  refine go_bipush td_X5_isDigit 1 rfl (q := 3) rfl kb_48 ?_
  refine go_icmp_lt 16 td_X5_isDigit 2 rfl rfl (q := 6) rfl (fun _ => ?_) (fun _ => ?_)
  · refine go_iconst td_X5_isDigit 8 rfl (q := 17) rfl kc_0 ?_
    exact go_zret td_X5_isDigit 9 rfl rfl rfl rfl
  · refine go_iload_n td_X5_isDigit 3 rfl (q := 7) rfl 0 rfl ?_
    refine go_bipush td_X5_isDigit 4 rfl (q := 9) rfl kb_57 ?_
    refine go_icmp_gt 16 td_X5_isDigit 5 rfl rfl (q := 12) rfl (fun _ => ?_) (fun _ => ?_)
    · refine go_iconst td_X5_isDigit 8 rfl (q := 17) rfl kc_0 ?_
      exact go_zret td_X5_isDigit 9 rfl rfl rfl rfl
    · refine go_iconst td_X5_isDigit 6 rfl (q := 13) rfl kc_1 ?_
      refine go_goto td_X5_isDigit 7 rfl (q := 17) rfl ?_
      exact go_zret td_X5_isDigit 9 rfl rfl rfl rfl
def fA_Reader_takeNumber (a1 : Int32) (a2 : Int32) (g : G) : Option (Int32 × G) := Option.bind (fA_Reader_skipBlanks g) fun x1 => lj (α := Unit) (fun b2 => Option.bind (fA_Reader_fail 1 (x1.1 3506) x1) fun x3 => bt x3.1 (some (x3.1, x3.2))) fun J2 => (if (x1.1 3511) = 0 then Option.bind (fA_Tape_byteAt (x1.1 3506) x1) fun x4 => Option.bind (fA_Reader_isDigit x4 x1) fun x5 => (if x5 = 0 then J2 () else bv (sS x1 3507 (x1.1 3506)) fun g6 => bv (sS g6 3510 0) fun g7 => Lp (α := G) (fun rec8 s8 => lj (α := Unit) (fun b9 => bv (sS s8 3511 1) fun g10 => Option.bind (fA_Tape_byteAt (g10.1 3506) g10) fun x11 => Option.bind (fA_Reader_isDigit x11 g10) fun x12 => (if x12 = 0 then lj (α := G) (fun b13 => some (1, b13)) fun J13 => lj (α := Unit) (fun b14 => Option.bind (fA_Reader_fail 2 (g10.1 3507) g10) fun x15 => (if x15.1 = 0 then some (0, x15.2) else J13 x15.2)) fun J14 => (if (g10.1 3510) < a1 then J14 () else (if (g10.1 3510) ≤ a2 then J13 g10 else J14 ())) else Option.bind (fA_Reader_fail 1 (g10.1 3506) g10) fun x16 => bt x16.1 (some (x16.1, x16.2)))) fun J9 => (if ((s8.1 3507) + 2) ≤ (s8.1 3506) then J9 () else Option.bind (fA_Tape_byteAt (s8.1 3506) s8) fun x17 => Option.bind (fA_Reader_isDigit x17 s8) fun x18 => (if x18 = 0 then J9 () else Option.bind (fA_Tape_byteAt (s8.1 3506) s8) fun x19 => bv (sS s8 3510 (((10 * (s8.1 3510)) + x19) - 48)) fun g20 => bv (sS g20 3506 ((g20.1 3506) + 1)) fun g21 => rec8 g21))) FU g7) else J2 ())
set_option maxRecDepth 20000 in
set_option maxHeartbeats 4000000 in
theorem ok_fA_Reader_takeNumber (E : Ev) (a1 : Int32) (a2 : Int32) (g : G)  : Ct (wCA E) yX5_takeNumber mi_X5_takeNumber [.ref (E.1 35), .int a1, .int a2] (fun r => (some (.int r.1), r.2)) g (fA_Reader_takeNumber a1 a2 g) := by
  refine go_enter rfl rfl (Nat.le_of_ble_eq_true rfl) (lv := [(0, .ref (E.1 35)), (1, .int a1), (2, .int a2)]) rfl ?_
  unfold fA_Reader_takeNumber
  refine go_aload_n td_X5_takeNumber 0 rfl (q := 1) rfl 0 rfl ?_
  refine go_callV td_X5_takeNumber 1 rfl (q := 4) rfl (XkA E) lk_X5_64 (ok_fA_Reader_skipBlanks E g) ⟨rfl, rfl, Nat.le_of_ble_eq_true rfl, Nat.le_of_ble_eq_true rfl⟩ rfl rfl (Nat.le_of_ble_eq_true rfl) (Ac_35 E g) rfl (fun x1 => ?_)
  show Go (wCA E) _ _ x1 4 _ [] _
  refine go_aload_n td_X5_takeNumber 2 rfl (q := 5) rfl 0 rfl ?_
  refine go_get td_X5_takeNumber 3 rfl (q := 8) rfl fl_X5_36 (Ac_35 E x1) rfl ?_
  refine go_ljX (α := Unit) (fun b2 => [(0, .ref (E.1 35))]) (fun b2 => []) (fun b2 => x1) 28 ?_ ?_
  · intro b2
    refine go_aload_n td_X5_takeNumber 12 rfl (q := 29) rfl 0 rfl ?_
    refine go_iconst td_X5_takeNumber 13 rfl (q := 30) rfl kc_1 ?_
    refine go_aload_n td_X5_takeNumber 14 rfl (q := 31) rfl 0 rfl ?_
    refine go_get td_X5_takeNumber 15 rfl (q := 34) rfl fl_X5_21 (Ac_35 E x1) rfl ?_
    refine go_callV td_X5_takeNumber 16 rfl (q := 37) rfl (XkA E) lk_X5_97 (ok_fA_Reader_fail E 1 (x1.1 3506) x1) ⟨rfl, rfl, Nat.le_of_ble_eq_true rfl, Nat.le_of_ble_eq_true rfl⟩ rfl rfl (Nat.le_of_ble_eq_true rfl) (Ac_35 E x1) rfl (fun x3 => ?_)
    show Go (wCA E) _ _ x3.2 37 _ [.int x3.1] _
    exact go_zretb td_X5_takeNumber 17 rfl rfl rfl
  intro J2 hJ2
  have kJ2 : Go (wCA E) _ _ x1 28 [(0, .ref (E.1 35))] [] (J2 ()) := hJ2 ()
  refine go_if_ne 28 td_X5_takeNumber 4 rfl rfl (q := 11) rfl (fun _ => ?_) (fun _ => ?_)
  · refine go_pick [0] (lv' := [(0, .ref (E.1 35))]) rfl ?_
    exact kJ2 
  · refine go_aload_n td_X5_takeNumber 5 rfl (q := 12) rfl 0 rfl ?_
    refine go_get td_X5_takeNumber 6 rfl (q := 15) rfl fl_X5_40 (Ac_35 E x1) rfl ?_
    refine go_aload_n td_X5_takeNumber 7 rfl (q := 16) rfl 0 rfl ?_
    refine go_get td_X5_takeNumber 8 rfl (q := 19) rfl fl_X5_21 (Ac_35 E x1) rfl ?_
    refine go_callV td_X5_takeNumber 9 rfl (q := 22) rfl (XkA E) lk_X5_214 (ok_fA_Tape_byteAt E (x1.1 3506) x1) ⟨rfl, rfl, Nat.le_of_ble_eq_true rfl, Nat.le_of_ble_eq_true rfl⟩ rfl rfl (Nat.le_of_ble_eq_true rfl) (Ac_1 E x1) rfl (fun x4 => ?_)
    show Go (wCA E) _ _ x1 22 _ [.int x4] _
    refine go_callS td_X5_takeNumber 10 rfl (q := 25) rfl (XkA E) lk_X5_234 (ok_fA_Reader_isDigit E x4 x1) ⟨rfl, rfl, Nat.le_of_ble_eq_true rfl, Nat.le_of_ble_eq_true rfl⟩ rfl rfl (Nat.le_of_ble_eq_true rfl) (fun x5 => ?_)
    show Go (wCA E) _ _ x1 25 _ [.int x5] _
    refine go_if_ne 38 td_X5_takeNumber 11 rfl rfl (q := 28) rfl (fun _ => ?_) (fun _ => ?_)
    · refine go_aload_n td_X5_takeNumber 18 rfl (q := 39) rfl 0 rfl ?_
      refine go_aload_n td_X5_takeNumber 19 rfl (q := 40) rfl 0 rfl ?_
      refine go_get td_X5_takeNumber 20 rfl (q := 43) rfl fl_X5_21 (Ac_35 E x1) rfl ?_
      refine go_put td_X5_takeNumber 21 rfl (q := 46) rfl flp_X5_24 (Ac_35 E x1) rfl rfl (Nat.le_of_ble_eq_true rfl) (Aps_3507 E x1 (x1.1 3506)) ?_
      refine go_bvg (fun g6 => ?_)
      refine go_aload_n td_X5_takeNumber 22 rfl (q := 47) rfl 0 rfl ?_
      refine go_iconst td_X5_takeNumber 23 rfl (q := 48) rfl kc_0 ?_
      refine go_put td_X5_takeNumber 24 rfl (q := 51) rfl flp_X5_33 (Ac_35 E g6) rfl rfl (Nat.le_of_ble_eq_true rfl) (Aps_3510 E g6 0) ?_
      refine go_bvg (fun g7 => ?_)
      refine go_pick [0, 1, 2] (lv' := [(0, .ref (E.1 35)), (1, .int a1), (2, .int a2)]) rfl ?_
      refine (show ∀ (u8_0 : G), Go (wCA E) _ _ u8_0 51 [(0, .ref (E.1 35)), (1, .int a1), (2, .int a2)] [] (Lp (α := G) _ FU u8_0) from ?_) g7
      intro u8_0
      refine go_Lp (α := G) (fun s8 => s8) (fun s8 => [(0, .ref (E.1 35)), (1, .int a1), (2, .int a2)]) ?_ FU u8_0
      intro rec8 hrec8 s8
      have krec8 : ∀ (u8_0 : G), Go (wCA E) _ _ u8_0 51 [(0, .ref (E.1 35)), (1, .int a1), (2, .int a2)] [] (rec8 u8_0) := fun u8_0 => hrec8 u8_0
      refine go_aload_n td_X5_takeNumber 25 rfl (q := 52) rfl 0 rfl ?_
      refine go_get td_X5_takeNumber 26 rfl (q := 55) rfl fl_X5_21 (Ac_35 E s8) rfl ?_
      refine go_aload_n td_X5_takeNumber 27 rfl (q := 56) rfl 0 rfl ?_
      refine go_get td_X5_takeNumber 28 rfl (q := 59) rfl fl_X5_24 (Ac_35 E s8) rfl ?_
      refine go_iconst td_X5_takeNumber 29 rfl (q := 60) rfl kc_2 ?_
      refine go_iadd td_X5_takeNumber 30 rfl (q := 61) rfl ?_
      refine go_ljX (α := Unit) (fun b9 => [(0, .ref (E.1 35)), (1, .int a1), (2, .int a2)]) (fun b9 => []) (fun b9 => s8) 120 ?_ ?_
      · intro b9
        refine go_aload_n td_X5_takeNumber 60 rfl (q := 121) rfl 0 rfl ?_
        refine go_iconst td_X5_takeNumber 61 rfl (q := 122) rfl kc_1 ?_
        refine go_put td_X5_takeNumber 62 rfl (q := 125) rfl flp_X5_36 (Ac_35 E s8) rfl rfl (Nat.le_of_ble_eq_true rfl) (Aps_3511 E s8 1) ?_
        refine go_bvg (fun g10 => ?_)
        refine go_aload_n td_X5_takeNumber 63 rfl (q := 126) rfl 0 rfl ?_
        refine go_get td_X5_takeNumber 64 rfl (q := 129) rfl fl_X5_40 (Ac_35 E g10) rfl ?_
        refine go_aload_n td_X5_takeNumber 65 rfl (q := 130) rfl 0 rfl ?_
        refine go_get td_X5_takeNumber 66 rfl (q := 133) rfl fl_X5_21 (Ac_35 E g10) rfl ?_
        refine go_callV td_X5_takeNumber 67 rfl (q := 136) rfl (XkA E) lk_X5_214 (ok_fA_Tape_byteAt E (g10.1 3506) g10) ⟨rfl, rfl, Nat.le_of_ble_eq_true rfl, Nat.le_of_ble_eq_true rfl⟩ rfl rfl (Nat.le_of_ble_eq_true rfl) (Ac_1 E g10) rfl (fun x11 => ?_)
        show Go (wCA E) _ _ g10 136 _ [.int x11] _
        refine go_callS td_X5_takeNumber 68 rfl (q := 139) rfl (XkA E) lk_X5_234 (ok_fA_Reader_isDigit E x11 g10) ⟨rfl, rfl, Nat.le_of_ble_eq_true rfl, Nat.le_of_ble_eq_true rfl⟩ rfl rfl (Nat.le_of_ble_eq_true rfl) (fun x12 => ?_)
        show Go (wCA E) _ _ g10 139 _ [.int x12] _
        refine go_if_eq 152 td_X5_takeNumber 69 rfl rfl (q := 142) rfl (fun _ => ?_) (fun _ => ?_)
        · refine go_aload_n td_X5_takeNumber 76 rfl (q := 153) rfl 0 rfl ?_
          refine go_get td_X5_takeNumber 77 rfl (q := 156) rfl fl_X5_33 (Ac_35 E g10) rfl ?_
          refine go_iload_n td_X5_takeNumber 78 rfl (q := 157) rfl 1 rfl ?_
          refine go_ljX (α := G) (fun b13 => []) (fun b13 => []) (fun b13 => b13) 180 ?_ ?_
          · intro b13
            refine go_iconst td_X5_takeNumber 90 rfl (q := 181) rfl kc_1 ?_
            refine go_goto td_X5_takeNumber 91 rfl (q := 185) rfl ?_
            exact go_zret td_X5_takeNumber 93 rfl rfl rfl rfl
          intro J13 hJ13
          have kJ13 : ∀ (u13_0 : G), Go (wCA E) _ _ u13_0 180 [] [] (J13 u13_0) := fun u13_0 => hJ13 u13_0
          refine go_ljX (α := Unit) (fun b14 => [(0, .ref (E.1 35))]) (fun b14 => []) (fun b14 => g10) 168 ?_ ?_
          · intro b14
            refine go_aload_n td_X5_takeNumber 84 rfl (q := 169) rfl 0 rfl ?_
            refine go_iconst td_X5_takeNumber 85 rfl (q := 170) rfl kc_2 ?_
            refine go_aload_n td_X5_takeNumber 86 rfl (q := 171) rfl 0 rfl ?_
            refine go_get td_X5_takeNumber 87 rfl (q := 174) rfl fl_X5_24 (Ac_35 E g10) rfl ?_
            refine go_callV td_X5_takeNumber 88 rfl (q := 177) rfl (XkA E) lk_X5_97 (ok_fA_Reader_fail E 2 (g10.1 3507) g10) ⟨rfl, rfl, Nat.le_of_ble_eq_true rfl, Nat.le_of_ble_eq_true rfl⟩ rfl rfl (Nat.le_of_ble_eq_true rfl) (Ac_35 E g10) rfl (fun x15 => ?_)
            show Go (wCA E) _ _ x15.2 177 _ [.int x15.1] _
            refine go_if_eq 184 td_X5_takeNumber 89 rfl rfl (q := 180) rfl (fun _ => ?_) (fun _ => ?_)
            · refine go_iconst td_X5_takeNumber 92 rfl (q := 185) rfl kc_0 ?_
              exact go_zret td_X5_takeNumber 93 rfl rfl rfl rfl
            · refine go_pick [] (lv' := []) rfl ?_
              exact kJ13 x15.2
          intro J14 hJ14
          have kJ14 : Go (wCA E) _ _ g10 168 [(0, .ref (E.1 35))] [] (J14 ()) := hJ14 ()
          refine go_icmp_lt 168 td_X5_takeNumber 79 rfl rfl (q := 160) rfl (fun _ => ?_) (fun _ => ?_)
          · refine go_pick [0] (lv' := [(0, .ref (E.1 35))]) rfl ?_
            exact kJ14 
          · refine go_aload_n td_X5_takeNumber 80 rfl (q := 161) rfl 0 rfl ?_
            refine go_get td_X5_takeNumber 81 rfl (q := 164) rfl fl_X5_33 (Ac_35 E g10) rfl ?_
            refine go_iload_n td_X5_takeNumber 82 rfl (q := 165) rfl 2 rfl ?_
            refine go_icmp_le 180 td_X5_takeNumber 83 rfl rfl (q := 168) rfl (fun _ => ?_) (fun _ => ?_)
            · refine go_pick [] (lv' := []) rfl ?_
              exact kJ13 g10
            · refine go_pick [0] (lv' := [(0, .ref (E.1 35))]) rfl ?_
              exact kJ14 
        · refine go_aload_n td_X5_takeNumber 70 rfl (q := 143) rfl 0 rfl ?_
          refine go_iconst td_X5_takeNumber 71 rfl (q := 144) rfl kc_1 ?_
          refine go_aload_n td_X5_takeNumber 72 rfl (q := 145) rfl 0 rfl ?_
          refine go_get td_X5_takeNumber 73 rfl (q := 148) rfl fl_X5_21 (Ac_35 E g10) rfl ?_
          refine go_callV td_X5_takeNumber 74 rfl (q := 151) rfl (XkA E) lk_X5_97 (ok_fA_Reader_fail E 1 (g10.1 3506) g10) ⟨rfl, rfl, Nat.le_of_ble_eq_true rfl, Nat.le_of_ble_eq_true rfl⟩ rfl rfl (Nat.le_of_ble_eq_true rfl) (Ac_35 E g10) rfl (fun x16 => ?_)
          show Go (wCA E) _ _ x16.2 151 _ [.int x16.1] _
          exact go_zretb td_X5_takeNumber 75 rfl rfl rfl
      intro J9 hJ9
      have kJ9 : Go (wCA E) _ _ s8 120 [(0, .ref (E.1 35)), (1, .int a1), (2, .int a2)] [] (J9 ()) := hJ9 ()
      refine go_icmp_ge 120 td_X5_takeNumber 31 rfl rfl (q := 64) rfl (fun _ => ?_) (fun _ => ?_)
      · refine go_pick [0, 1, 2] (lv' := [(0, .ref (E.1 35)), (1, .int a1), (2, .int a2)]) rfl ?_
        exact kJ9 
      · refine go_aload_n td_X5_takeNumber 32 rfl (q := 65) rfl 0 rfl ?_
        refine go_get td_X5_takeNumber 33 rfl (q := 68) rfl fl_X5_40 (Ac_35 E s8) rfl ?_
        refine go_aload_n td_X5_takeNumber 34 rfl (q := 69) rfl 0 rfl ?_
        refine go_get td_X5_takeNumber 35 rfl (q := 72) rfl fl_X5_21 (Ac_35 E s8) rfl ?_
        refine go_callV td_X5_takeNumber 36 rfl (q := 75) rfl (XkA E) lk_X5_214 (ok_fA_Tape_byteAt E (s8.1 3506) s8) ⟨rfl, rfl, Nat.le_of_ble_eq_true rfl, Nat.le_of_ble_eq_true rfl⟩ rfl rfl (Nat.le_of_ble_eq_true rfl) (Ac_1 E s8) rfl (fun x17 => ?_)
        show Go (wCA E) _ _ s8 75 _ [.int x17] _
        refine go_callS td_X5_takeNumber 37 rfl (q := 78) rfl (XkA E) lk_X5_234 (ok_fA_Reader_isDigit E x17 s8) ⟨rfl, rfl, Nat.le_of_ble_eq_true rfl, Nat.le_of_ble_eq_true rfl⟩ rfl rfl (Nat.le_of_ble_eq_true rfl) (fun x18 => ?_)
        show Go (wCA E) _ _ s8 78 _ [.int x18] _
        refine go_if_eq 120 td_X5_takeNumber 38 rfl rfl (q := 81) rfl (fun _ => ?_) (fun _ => ?_)
        · refine go_pick [0, 1, 2] (lv' := [(0, .ref (E.1 35)), (1, .int a1), (2, .int a2)]) rfl ?_
          exact kJ9 
        · refine go_aload_n td_X5_takeNumber 39 rfl (q := 82) rfl 0 rfl ?_
          refine go_bipush td_X5_takeNumber 40 rfl (q := 84) rfl kb_10 ?_
          refine go_aload_n td_X5_takeNumber 41 rfl (q := 85) rfl 0 rfl ?_
          refine go_get td_X5_takeNumber 42 rfl (q := 88) rfl fl_X5_33 (Ac_35 E s8) rfl ?_
          refine go_imul td_X5_takeNumber 43 rfl (q := 89) rfl ?_
          refine go_aload_n td_X5_takeNumber 44 rfl (q := 90) rfl 0 rfl ?_
          refine go_get td_X5_takeNumber 45 rfl (q := 93) rfl fl_X5_40 (Ac_35 E s8) rfl ?_
          refine go_aload_n td_X5_takeNumber 46 rfl (q := 94) rfl 0 rfl ?_
          refine go_get td_X5_takeNumber 47 rfl (q := 97) rfl fl_X5_21 (Ac_35 E s8) rfl ?_
          refine go_callV td_X5_takeNumber 48 rfl (q := 100) rfl (XkA E) lk_X5_214 (ok_fA_Tape_byteAt E (s8.1 3506) s8) ⟨rfl, rfl, Nat.le_of_ble_eq_true rfl, Nat.le_of_ble_eq_true rfl⟩ rfl rfl (Nat.le_of_ble_eq_true rfl) (Ac_1 E s8) rfl (fun x19 => ?_)
          show Go (wCA E) _ _ s8 100 _ [.int x19, .int (10 * (s8.1 3510)), .ref (E.1 35)] _
          refine go_iadd td_X5_takeNumber 49 rfl (q := 101) rfl ?_
          refine go_bipush td_X5_takeNumber 50 rfl (q := 103) rfl kb_48 ?_
          refine go_isub td_X5_takeNumber 51 rfl (q := 104) rfl ?_
          refine go_put td_X5_takeNumber 52 rfl (q := 107) rfl flp_X5_33 (Ac_35 E s8) rfl rfl (Nat.le_of_ble_eq_true rfl) (Aps_3510 E s8 (((10 * (s8.1 3510)) + x19) - 48)) ?_
          refine go_bvg (fun g20 => ?_)
          refine go_aload_n td_X5_takeNumber 53 rfl (q := 108) rfl 0 rfl ?_
          refine go_dup td_X5_takeNumber 54 rfl (q := 109) rfl rfl ?_
          refine go_get td_X5_takeNumber 55 rfl (q := 112) rfl fl_X5_21 (Ac_35 E g20) rfl ?_
          refine go_iconst td_X5_takeNumber 56 rfl (q := 113) rfl kc_1 ?_
          refine go_iadd td_X5_takeNumber 57 rfl (q := 114) rfl ?_
          refine go_put td_X5_takeNumber 58 rfl (q := 117) rfl flp_X5_21 (Ac_35 E g20) rfl rfl (Nat.le_of_ble_eq_true rfl) (Aps_3506 E g20 ((g20.1 3506) + 1)) ?_
          refine go_bvg (fun g21 => ?_)
          refine go_goto td_X5_takeNumber 59 rfl (q := 51) rfl ?_
          refine go_pick [0, 1, 2] (lv' := [(0, .ref (E.1 35)), (1, .int a1), (2, .int a2)]) rfl ?_
          exact krec8 g21
    · refine go_pick [0] (lv' := [(0, .ref (E.1 35))]) rfl ?_
      exact kJ2 
def fA_Reader_endStatement (g : G) : Option (Int32 × G) := Option.bind (fA_Reader_skipBlanks g) fun x1 => Option.bind (fA_Tape_byteAt (x1.1 3506) x1) fun x2 => (if x2 = 59 then bv (sS x1 3506 ((x1.1 3506) + 1)) fun g3 => bv (sS g3 3511 0) fun g4 => bv (sS g4 3502 ((g4.1 3502) + 1)) fun g5 => some (1, g5) else Option.bind (fA_Reader_fail 1 (x1.1 3506) x1) fun x6 => bt x6.1 (some (x6.1, x6.2)))
set_option maxRecDepth 20000 in
set_option maxHeartbeats 4000000 in
theorem ok_fA_Reader_endStatement (E : Ev)  (g : G)  : Ct (wCA E) yX5_endStatement mi_X5_endStatement [.ref (E.1 35)] (fun r => (some (.int r.1), r.2)) g (fA_Reader_endStatement g) := by
  refine go_enter rfl rfl (Nat.le_of_ble_eq_true rfl) (lv := [(0, .ref (E.1 35))]) rfl ?_
  unfold fA_Reader_endStatement
  refine go_aload_n td_X5_endStatement 0 rfl (q := 1) rfl 0 rfl ?_
  refine go_callV td_X5_endStatement 1 rfl (q := 4) rfl (XkA E) lk_X5_64 (ok_fA_Reader_skipBlanks E g) ⟨rfl, rfl, Nat.le_of_ble_eq_true rfl, Nat.le_of_ble_eq_true rfl⟩ rfl rfl (Nat.le_of_ble_eq_true rfl) (Ac_35 E g) rfl (fun x1 => ?_)
  show Go (wCA E) _ _ x1 4 _ [] _
  refine go_aload_n td_X5_endStatement 2 rfl (q := 5) rfl 0 rfl ?_
  refine go_get td_X5_endStatement 3 rfl (q := 8) rfl fl_X5_40 (Ac_35 E x1) rfl ?_
  refine go_aload_n td_X5_endStatement 4 rfl (q := 9) rfl 0 rfl ?_
  refine go_get td_X5_endStatement 5 rfl (q := 12) rfl fl_X5_21 (Ac_35 E x1) rfl ?_
  refine go_callV td_X5_endStatement 6 rfl (q := 15) rfl (XkA E) lk_X5_214 (ok_fA_Tape_byteAt E (x1.1 3506) x1) ⟨rfl, rfl, Nat.le_of_ble_eq_true rfl, Nat.le_of_ble_eq_true rfl⟩ rfl rfl (Nat.le_of_ble_eq_true rfl) (Ac_1 E x1) rfl (fun x2 => ?_)
  show Go (wCA E) _ _ x1 15 _ [.int x2] _
  refine go_bipush td_X5_endStatement 7 rfl (q := 17) rfl kb_59 ?_
  refine go_icmp_eq 30 td_X5_endStatement 8 rfl rfl (q := 20) rfl (fun _ => ?_) (fun _ => ?_)
  · refine go_aload_n td_X5_endStatement 15 rfl (q := 31) rfl 0 rfl ?_
    refine go_dup td_X5_endStatement 16 rfl (q := 32) rfl rfl ?_
    refine go_get td_X5_endStatement 17 rfl (q := 35) rfl fl_X5_21 (Ac_35 E x1) rfl ?_
    refine go_iconst td_X5_endStatement 18 rfl (q := 36) rfl kc_1 ?_
    refine go_iadd td_X5_endStatement 19 rfl (q := 37) rfl ?_
    refine go_put td_X5_endStatement 20 rfl (q := 40) rfl flp_X5_21 (Ac_35 E x1) rfl rfl (Nat.le_of_ble_eq_true rfl) (Aps_3506 E x1 ((x1.1 3506) + 1)) ?_
    refine go_bvg (fun g3 => ?_)
    refine go_aload_n td_X5_endStatement 21 rfl (q := 41) rfl 0 rfl ?_
    refine go_iconst td_X5_endStatement 22 rfl (q := 42) rfl kc_0 ?_
    refine go_put td_X5_endStatement 23 rfl (q := 45) rfl flp_X5_36 (Ac_35 E g3) rfl rfl (Nat.le_of_ble_eq_true rfl) (Aps_3511 E g3 0) ?_
    refine go_bvg (fun g4 => ?_)
    refine go_aload_n td_X5_endStatement 24 rfl (q := 46) rfl 0 rfl ?_
    refine go_dup td_X5_endStatement 25 rfl (q := 47) rfl rfl ?_
    refine go_get td_X5_endStatement 26 rfl (q := 50) rfl fl_X5_18 (Ac_35 E g4) rfl ?_
    refine go_iconst td_X5_endStatement 27 rfl (q := 51) rfl kc_1 ?_
    refine go_iadd td_X5_endStatement 28 rfl (q := 52) rfl ?_
    refine go_put td_X5_endStatement 29 rfl (q := 55) rfl flp_X5_18 (Ac_35 E g4) rfl rfl (Nat.le_of_ble_eq_true rfl) (Aps_3502 E g4 ((g4.1 3502) + 1)) ?_
    refine go_bvg (fun g5 => ?_)
    refine go_iconst td_X5_endStatement 30 rfl (q := 56) rfl kc_1 ?_
    exact go_zret td_X5_endStatement 31 rfl rfl rfl rfl
  · refine go_aload_n td_X5_endStatement 9 rfl (q := 21) rfl 0 rfl ?_
    refine go_iconst td_X5_endStatement 10 rfl (q := 22) rfl kc_1 ?_
    refine go_aload_n td_X5_endStatement 11 rfl (q := 23) rfl 0 rfl ?_
    refine go_get td_X5_endStatement 12 rfl (q := 26) rfl fl_X5_21 (Ac_35 E x1) rfl ?_
    refine go_callV td_X5_endStatement 13 rfl (q := 29) rfl (XkA E) lk_X5_97 (ok_fA_Reader_fail E 1 (x1.1 3506) x1) ⟨rfl, rfl, Nat.le_of_ble_eq_true rfl, Nat.le_of_ble_eq_true rfl⟩ rfl rfl (Nat.le_of_ble_eq_true rfl) (Ac_35 E x1) rfl (fun x6 => ?_)
    show Go (wCA E) _ _ x6.2 29 _ [.int x6.1] _
    exact go_zretb td_X5_endStatement 14 rfl rfl rfl
def fA_Reader_readGrid (g : G) : Option (Int32 × G) := Option.bind (fA_Reader_takeWord 0 g) fun x1 => (if x1.1 = 0 then some (0, x1.2) else Option.bind (fA_Reader_takeNumber 4 24 x1.2) fun x2 => (if x2.1 = 0 then some (0, x2.2) else bv (sS x2.2 1500 (x2.2.1 3510)) fun g3 => Option.bind (fA_Reader_takeWord 1 g3) fun x4 => (if x4.1 = 0 then some (0, x4.2) else Option.bind (fA_Reader_takeNumber 3 12 x4.2) fun x5 => (if x5.1 = 0 then some (0, x5.2) else bv (sS x5.2 1501 (x5.2.1 3510)) fun g6 => Option.bind (fA_Reader_takeWord 2 g6) fun x7 => (if x7.1 = 0 then some (0, x7.2) else Option.bind (fA_Reader_takeNumber 2 96 x7.2) fun x8 => (if x8.1 = 0 then some (0, x8.2) else bv (sS x8.2 1502 (x8.2.1 3510)) fun g9 => Option.bind (fA_Reader_endStatement g9) fun x10 => bt x10.1 (some (x10.1, x10.2))))))))
set_option maxRecDepth 20000 in
set_option maxHeartbeats 4000000 in
theorem ok_fA_Reader_readGrid (E : Ev)  (g : G)  : Ct (wCA E) yX5_readGrid mi_X5_readGrid [.ref (E.1 35)] (fun r => (some (.int r.1), r.2)) g (fA_Reader_readGrid g) := by
  refine go_enter rfl rfl (Nat.le_of_ble_eq_true rfl) (lv := [(0, .ref (E.1 35))]) rfl ?_
  unfold fA_Reader_readGrid
  refine go_aload_n td_X5_readGrid 0 rfl (q := 1) rfl 0 rfl ?_
  refine go_ldcS td_X5_readGrid 1 rfl (q := 3) rfl (sr_X5_107 E) ?_
  refine go_callV td_X5_readGrid 2 rfl (q := 6) rfl (XkA E) lk_X5_109 (ok_fA_Reader_takeWord E 0 g (by decide)) ⟨rfl, rfl, Nat.le_of_ble_eq_true rfl, Nat.le_of_ble_eq_true rfl⟩ rfl rfl (Nat.le_of_ble_eq_true rfl) (Ac_35 E g) rfl (fun x1 => ?_)
  show Go (wCA E) _ _ x1.2 6 _ [.int x1.1] _
  refine go_if_eq 19 td_X5_readGrid 3 rfl rfl (q := 9) rfl (fun _ => ?_) (fun _ => ?_)
  · refine go_iconst td_X5_readGrid 9 rfl (q := 20) rfl kc_0 ?_
    exact go_zret td_X5_readGrid 10 rfl rfl rfl rfl
  · refine go_aload_n td_X5_readGrid 4 rfl (q := 10) rfl 0 rfl ?_
    refine go_iconst td_X5_readGrid 5 rfl (q := 11) rfl kc_4 ?_
    refine go_bipush td_X5_readGrid 6 rfl (q := 13) rfl kb_24 ?_
    refine go_callV td_X5_readGrid 7 rfl (q := 16) rfl (XkA E) lk_X5_113 (ok_fA_Reader_takeNumber E 4 24 x1.2) ⟨rfl, rfl, Nat.le_of_ble_eq_true rfl, Nat.le_of_ble_eq_true rfl⟩ rfl rfl (Nat.le_of_ble_eq_true rfl) (Ac_35 E x1.2) rfl (fun x2 => ?_)
    show Go (wCA E) _ _ x2.2 16 _ [.int x2.1] _
    refine go_if_ne 21 td_X5_readGrid 8 rfl rfl (q := 19) rfl (fun _ => ?_) (fun _ => ?_)
    · refine go_aload_n td_X5_readGrid 11 rfl (q := 22) rfl 0 rfl ?_
      refine go_get td_X5_readGrid 12 rfl (q := 25) rfl fl_X5_44 (Ac_35 E x2.2) rfl ?_
      refine go_aload_n td_X5_readGrid 13 rfl (q := 26) rfl 0 rfl ?_
      refine go_get td_X5_readGrid 14 rfl (q := 29) rfl fl_X5_33 (Ac_35 E x2.2) rfl ?_
      refine go_put td_X5_readGrid 15 rfl (q := 32) rfl flp_X5_116 (Ac_15 E x2.2) rfl rfl (Nat.le_of_ble_eq_true rfl) (Aps_1500 E x2.2 (x2.2.1 3510)) ?_
      refine go_bvg (fun g3 => ?_)
      refine go_aload_n td_X5_readGrid 16 rfl (q := 33) rfl 0 rfl ?_
      refine go_ldcS td_X5_readGrid 17 rfl (q := 35) rfl (sr_X5_119 E) ?_
      refine go_callV td_X5_readGrid 18 rfl (q := 38) rfl (XkA E) lk_X5_109 (ok_fA_Reader_takeWord E 1 g3 (by decide)) ⟨rfl, rfl, Nat.le_of_ble_eq_true rfl, Nat.le_of_ble_eq_true rfl⟩ rfl rfl (Nat.le_of_ble_eq_true rfl) (Ac_35 E g3) rfl (fun x4 => ?_)
      show Go (wCA E) _ _ x4.2 38 _ [.int x4.1] _
      refine go_if_eq 51 td_X5_readGrid 19 rfl rfl (q := 41) rfl (fun _ => ?_) (fun _ => ?_)
      · refine go_iconst td_X5_readGrid 25 rfl (q := 52) rfl kc_0 ?_
        exact go_zret td_X5_readGrid 26 rfl rfl rfl rfl
      · refine go_aload_n td_X5_readGrid 20 rfl (q := 42) rfl 0 rfl ?_
        refine go_iconst td_X5_readGrid 21 rfl (q := 43) rfl kc_3 ?_
        refine go_bipush td_X5_readGrid 22 rfl (q := 45) rfl kb_12 ?_
        refine go_callV td_X5_readGrid 23 rfl (q := 48) rfl (XkA E) lk_X5_113 (ok_fA_Reader_takeNumber E 3 12 x4.2) ⟨rfl, rfl, Nat.le_of_ble_eq_true rfl, Nat.le_of_ble_eq_true rfl⟩ rfl rfl (Nat.le_of_ble_eq_true rfl) (Ac_35 E x4.2) rfl (fun x5 => ?_)
        show Go (wCA E) _ _ x5.2 48 _ [.int x5.1] _
        refine go_if_ne 53 td_X5_readGrid 24 rfl rfl (q := 51) rfl (fun _ => ?_) (fun _ => ?_)
        · refine go_aload_n td_X5_readGrid 27 rfl (q := 54) rfl 0 rfl ?_
          refine go_get td_X5_readGrid 28 rfl (q := 57) rfl fl_X5_44 (Ac_35 E x5.2) rfl ?_
          refine go_aload_n td_X5_readGrid 29 rfl (q := 58) rfl 0 rfl ?_
          refine go_get td_X5_readGrid 30 rfl (q := 61) rfl fl_X5_33 (Ac_35 E x5.2) rfl ?_
          refine go_put td_X5_readGrid 31 rfl (q := 64) rfl flp_X5_121 (Ac_15 E x5.2) rfl rfl (Nat.le_of_ble_eq_true rfl) (Aps_1501 E x5.2 (x5.2.1 3510)) ?_
          refine go_bvg (fun g6 => ?_)
          refine go_aload_n td_X5_readGrid 32 rfl (q := 65) rfl 0 rfl ?_
          refine go_ldcS td_X5_readGrid 33 rfl (q := 67) rfl (sr_X5_124 E) ?_
          refine go_callV td_X5_readGrid 34 rfl (q := 70) rfl (XkA E) lk_X5_109 (ok_fA_Reader_takeWord E 2 g6 (by decide)) ⟨rfl, rfl, Nat.le_of_ble_eq_true rfl, Nat.le_of_ble_eq_true rfl⟩ rfl rfl (Nat.le_of_ble_eq_true rfl) (Ac_35 E g6) rfl (fun x7 => ?_)
          show Go (wCA E) _ _ x7.2 70 _ [.int x7.1] _
          refine go_if_eq 83 td_X5_readGrid 35 rfl rfl (q := 73) rfl (fun _ => ?_) (fun _ => ?_)
          · refine go_iconst td_X5_readGrid 41 rfl (q := 84) rfl kc_0 ?_
            exact go_zret td_X5_readGrid 42 rfl rfl rfl rfl
          · refine go_aload_n td_X5_readGrid 36 rfl (q := 74) rfl 0 rfl ?_
            refine go_iconst td_X5_readGrid 37 rfl (q := 75) rfl kc_2 ?_
            refine go_bipush td_X5_readGrid 38 rfl (q := 77) rfl kb_96 ?_
            refine go_callV td_X5_readGrid 39 rfl (q := 80) rfl (XkA E) lk_X5_113 (ok_fA_Reader_takeNumber E 2 96 x7.2) ⟨rfl, rfl, Nat.le_of_ble_eq_true rfl, Nat.le_of_ble_eq_true rfl⟩ rfl rfl (Nat.le_of_ble_eq_true rfl) (Ac_35 E x7.2) rfl (fun x8 => ?_)
            show Go (wCA E) _ _ x8.2 80 _ [.int x8.1] _
            refine go_if_ne 85 td_X5_readGrid 40 rfl rfl (q := 83) rfl (fun _ => ?_) (fun _ => ?_)
            · refine go_aload_n td_X5_readGrid 43 rfl (q := 86) rfl 0 rfl ?_
              refine go_get td_X5_readGrid 44 rfl (q := 89) rfl fl_X5_44 (Ac_35 E x8.2) rfl ?_
              refine go_aload_n td_X5_readGrid 45 rfl (q := 90) rfl 0 rfl ?_
              refine go_get td_X5_readGrid 46 rfl (q := 93) rfl fl_X5_33 (Ac_35 E x8.2) rfl ?_
              refine go_put td_X5_readGrid 47 rfl (q := 96) rfl flp_X5_126 (Ac_15 E x8.2) rfl rfl (Nat.le_of_ble_eq_true rfl) (Aps_1502 E x8.2 (x8.2.1 3510)) ?_
              refine go_bvg (fun g9 => ?_)
              refine go_aload_n td_X5_readGrid 48 rfl (q := 97) rfl 0 rfl ?_
              refine go_callV td_X5_readGrid 49 rfl (q := 100) rfl (XkA E) lk_X5_128 (ok_fA_Reader_endStatement E g9) ⟨rfl, rfl, Nat.le_of_ble_eq_true rfl, Nat.le_of_ble_eq_true rfl⟩ rfl rfl (Nat.le_of_ble_eq_true rfl) (Ac_35 E g9) rfl (fun x10 => ?_)
              show Go (wCA E) _ _ x10.2 100 _ [.int x10.1] _
              exact go_zretb td_X5_readGrid 50 rfl rfl rfl
            · refine go_iconst td_X5_readGrid 41 rfl (q := 84) rfl kc_0 ?_
              exact go_zret td_X5_readGrid 42 rfl rfl rfl rfl
        · refine go_iconst td_X5_readGrid 25 rfl (q := 52) rfl kc_0 ?_
          exact go_zret td_X5_readGrid 26 rfl rfl rfl rfl
    · refine go_iconst td_X5_readGrid 9 rfl (q := 20) rfl kc_0 ?_
      exact go_zret td_X5_readGrid 10 rfl rfl rfl rfl
def fA_Plan_weighCells (g : G) : Option (G) := bv (sS g 1504 0) fun g1 => Lp (α := Int32 × G) (fun rec2 s2 => (if (s2.2.1 1501) ≤ s2.1 then some s2.2 else bv (if 0 ≤ ((2 * s2.1) - ((s2.2.1 1501) - 1)) then ((2 * s2.1) - ((s2.2.1 1501) - 1)) else 0 - ((2 * s2.1) - ((s2.2.1 1501) - 1))) fun x3 => dz 2 (ck 12 s2.1 (bv (sA s2.2 16 (s2.1 : Int32).toNatClampNeg ((s2.2.1 1501) - (x3 / 2))) fun g4 => ag 12 (g4.2.1 16) s2.1 fun x5 => bv (sS g4 1504 ((g4.1 1504) + ((g4.1 1500) * x5))) fun g6 => rec2 (s2.1 + 1, g6))))) FU (0, g1)
set_option maxRecDepth 20000 in
set_option maxHeartbeats 4000000 in
theorem ok_fA_Plan_weighCells (E : Ev)  (g : G)  : Ct (wCA E) yX4_weighCells mi_X4_weighCells [.ref (E.1 15)] (fun r => (none, r)) g (fA_Plan_weighCells g) := by
  refine go_enter rfl rfl (Nat.le_of_ble_eq_true rfl) (lv := [(0, .ref (E.1 15))]) rfl ?_
  unfold fA_Plan_weighCells
  refine go_aload_n td_X4_weighCells 0 rfl (q := 1) rfl 0 rfl ?_
  refine go_iconst td_X4_weighCells 1 rfl (q := 2) rfl kc_0 ?_
  refine go_put td_X4_weighCells 2 rfl (q := 5) rfl flp_X4_24 (Ac_15 E g) rfl rfl (Nat.le_of_ble_eq_true rfl) (Aps_1504 E g 0) ?_
  refine go_bvg (fun g1 => ?_)
  refine go_iconst td_X4_weighCells 3 rfl (q := 6) rfl kc_0 ?_
  refine go_istore_n [(1, .int 0), (0, .ref (E.1 15))] td_X4_weighCells 4 rfl (q := 7) rfl (Nat.le_of_ble_eq_true rfl) rfl ?_
  refine go_pick [1, 0] (lv' := [(0, .ref (E.1 15)), (1, .int 0)]) rfl ?_
  refine (show ∀ (u2_0 : Int32) (u2_1 : G), Go (wCA E) _ _ u2_1 7 [(0, .ref (E.1 15)), (1, .int u2_0)] [] (Lp (α := Int32 × G) _ FU (u2_0, u2_1)) from ?_) 0 g1
  intro u2_0 u2_1
  refine go_Lp (α := Int32 × G) (fun s2 => s2.2) (fun s2 => [(0, .ref (E.1 15)), (1, .int s2.1)]) ?_ FU (u2_0, u2_1)
  intro rec2 hrec2 s2
  have krec2 : ∀ (u2_0 : Int32) (u2_1 : G), Go (wCA E) _ _ u2_1 7 [(0, .ref (E.1 15)), (1, .int u2_0)] [] (rec2 (u2_0, u2_1)) := fun u2_0 u2_1 => hrec2 (u2_0, u2_1)
  refine go_iload_n td_X4_weighCells 5 rfl (q := 8) rfl 1 rfl ?_
  refine go_aload_n td_X4_weighCells 6 rfl (q := 9) rfl 0 rfl ?_
  refine go_get td_X4_weighCells 7 rfl (q := 12) rfl fl_X4_15 (Ac_15 E s2.2) rfl ?_
  refine go_icmp_ge 67 td_X4_weighCells 8 rfl rfl (q := 15) rfl (fun _ => ?_) (fun _ => ?_)
  · exact go_vret td_X4_weighCells 41 rfl rfl rfl
  · refine go_aload_n td_X4_weighCells 9 rfl (q := 16) rfl 0 rfl ?_
    refine go_get td_X4_weighCells 10 rfl (q := 19) rfl fl_X4_36 (Ac_15 E s2.2) rfl ?_
    refine go_iload_n td_X4_weighCells 11 rfl (q := 20) rfl 1 rfl ?_
    refine go_aload_n td_X4_weighCells 12 rfl (q := 21) rfl 0 rfl ?_
    refine go_get td_X4_weighCells 13 rfl (q := 24) rfl fl_X4_15 (Ac_15 E s2.2) rfl ?_
    refine go_iconst td_X4_weighCells 14 rfl (q := 25) rfl kc_2 ?_
    refine go_iload_n td_X4_weighCells 15 rfl (q := 26) rfl 1 rfl ?_
    refine go_imul td_X4_weighCells 16 rfl (q := 27) rfl ?_
    refine go_aload_n td_X4_weighCells 17 rfl (q := 28) rfl 0 rfl ?_
    refine go_get td_X4_weighCells 18 rfl (q := 31) rfl fl_X4_15 (Ac_15 E s2.2) rfl ?_
    refine go_iconst td_X4_weighCells 19 rfl (q := 32) rfl kc_1 ?_
    refine go_isub td_X4_weighCells 20 rfl (q := 33) rfl ?_
    refine go_isub td_X4_weighCells 21 rfl (q := 34) rfl ?_
    refine go_mabs td_X4_weighCells 22 rfl (q := 37) rfl lk_X4_84 ⟨Nat.le_of_ble_eq_true rfl, Nat.le_of_ble_eq_true rfl⟩ ?_
    refine go_bvi (fun x3 => ?_)
    refine go_iconst td_X4_weighCells 23 rfl (q := 38) rfl kc_2 ?_
    refine go_idiv td_X4_weighCells 24 rfl (q := 39) rfl ?_
    refine go_isub td_X4_weighCells 25 rfl (q := 40) rfl ?_
    refine go_ast td_X4_weighCells 26 rfl (q := 41) rfl (Ac_16 E s2.2) (t0 := 0) rfl (Aas_16 E s2.2 _) ?_
    refine go_bvg (fun g4 => ?_)
    refine go_aload_n td_X4_weighCells 27 rfl (q := 42) rfl 0 rfl ?_
    refine go_dup td_X4_weighCells 28 rfl (q := 43) rfl rfl ?_
    refine go_get td_X4_weighCells 29 rfl (q := 46) rfl fl_X4_24 (Ac_15 E g4) rfl ?_
    refine go_aload_n td_X4_weighCells 30 rfl (q := 47) rfl 0 rfl ?_
    refine go_get td_X4_weighCells 31 rfl (q := 50) rfl fl_X4_9 (Ac_15 E g4) rfl ?_
    refine go_aload_n td_X4_weighCells 32 rfl (q := 51) rfl 0 rfl ?_
    refine go_get td_X4_weighCells 33 rfl (q := 54) rfl fl_X4_36 (Ac_15 E g4) rfl ?_
    refine go_iload_n td_X4_weighCells 34 rfl (q := 55) rfl 1 rfl ?_
    refine go_ald td_X4_weighCells 35 rfl (q := 56) rfl (Ac_16 E g4) (t0 := 0) rfl (fun x5 => ?_)
    refine go_imul td_X4_weighCells 36 rfl (q := 57) rfl ?_
    refine go_iadd td_X4_weighCells 37 rfl (q := 58) rfl ?_
    refine go_put td_X4_weighCells 38 rfl (q := 61) rfl flp_X4_24 (Ac_15 E g4) rfl rfl (Nat.le_of_ble_eq_true rfl) (Aps_1504 E g4 ((g4.1 1504) + ((g4.1 1500) * x5))) ?_
    refine go_bvg (fun g6 => ?_)
    refine go_iinc [(1, .int (s2.1 + 1)), (0, .ref (E.1 15))] td_X4_weighCells 39 rfl (q := 64) rfl 1 rfl kc_1 (Nat.le_of_ble_eq_true rfl) rfl ?_
    refine go_goto td_X4_weighCells 40 rfl (q := 7) rfl ?_
    refine go_pick [1, 0] (lv' := [(0, .ref (E.1 15)), (1, .int (s2.1 + 1))]) rfl ?_
    exact krec2 (s2.1 + 1) g6
def fA_D_rest (a1 : Int32) (a2 : Int32) (g : G) : Option (Int32) := (if 0 < a2 then dz a2 (bv (a1 - a1 / a2 * a2) fun x1 => (if 0 ≤ x1 then some x1 else some (x1 + a2))) else some 0)
set_option maxRecDepth 20000 in
set_option maxHeartbeats 4000000 in
theorem ok_fA_D_rest (E : Ev) (a1 : Int32) (a2 : Int32) (g : G)  : Ct (wCA E) yX11_rest mi_X11_rest [.int a1, .int a2] (fun r => (some (.int r), g)) g (fA_D_rest a1 a2 g) := by
  refine go_enter rfl rfl (Nat.le_of_ble_eq_true rfl) (lv := [(0, .int a1), (1, .int a2)]) rfl ?_
  unfold fA_D_rest
  refine go_iload_n td_X11_rest 0 rfl (q := 1) rfl 1 rfl ?_
  refine go_if_gt 6 td_X11_rest 1 rfl rfl (q := 4) rfl (fun _ => ?_) (fun _ => ?_)
  · refine go_iload_n td_X11_rest 4 rfl (q := 7) rfl 0 rfl ?_
    refine go_iload_n td_X11_rest 5 rfl (q := 8) rfl 1 rfl ?_
    refine go_irem td_X11_rest 6 rfl (q := 9) rfl ?_
    refine go_bvi (fun x1 => ?_)
    refine go_istore_n [(2, .int x1), (0, .int a1), (1, .int a2)] td_X11_rest 7 rfl (q := 10) rfl (Nat.le_of_ble_eq_true rfl) rfl ?_
    refine go_iload_n td_X11_rest 8 rfl (q := 11) rfl 0 rfl ?_
    refine go_if_ge 20 td_X11_rest 9 rfl rfl (q := 14) rfl (fun _ => ?_) (fun _ => ?_)
    · refine go_iload_n td_X11_rest 14 rfl (q := 21) rfl 0 rfl ?_
      exact go_iret td_X11_rest 15 rfl rfl rfl
    · refine go_iload_n td_X11_rest 10 rfl (q := 15) rfl 0 rfl ?_
      refine go_iload_n td_X11_rest 11 rfl (q := 16) rfl 2 rfl ?_
      refine go_iadd td_X11_rest 12 rfl (q := 17) rfl ?_
      refine go_goto td_X11_rest 13 rfl (q := 21) rfl ?_
      exact go_iret td_X11_rest 15 rfl rfl rfl
  · refine go_iconst td_X11_rest 2 rfl (q := 5) rfl kc_0 ?_
    exact go_iret td_X11_rest 3 rfl rfl rfl
def fA_Plan_leastCommon (a1 : Int32) (a2 : Int32) (g : G) : Option (Int32) := Lp (α := Int32) (fun rec1 s1 => (if a2 < s1 then some a1 else Option.bind (fA_D_rest (s1 * a1) a2 g) fun x2 => (if x2 = 0 then some (s1 * a1) else rec1 (s1 + 1)))) FU 1
set_option maxRecDepth 20000 in
set_option maxHeartbeats 4000000 in
theorem ok_fA_Plan_leastCommon (E : Ev) (a1 : Int32) (a2 : Int32) (g : G)  : Ct (wCA E) yX4_leastCommon mi_X4_leastCommon [.int a1, .int a2] (fun r => (some (.int r), g)) g (fA_Plan_leastCommon a1 a2 g) := by
  refine go_enter rfl rfl (Nat.le_of_ble_eq_true rfl) (lv := [(0, .int a1), (1, .int a2)]) rfl ?_
  unfold fA_Plan_leastCommon
  refine go_iconst td_X4_leastCommon 0 rfl (q := 1) rfl kc_1 ?_
  refine go_istore_n [(2, .int 1), (0, .int a1), (1, .int a2)] td_X4_leastCommon 1 rfl (q := 2) rfl (Nat.le_of_ble_eq_true rfl) rfl ?_
  refine go_pick [1, 2, 0] (lv' := [(0, .int a1), (1, .int a2), (2, .int 1)]) rfl ?_
  refine (show ∀ (u1_0 : Int32), Go (wCA E) _ _ g 2 [(0, .int a1), (1, .int a2), (2, .int u1_0)] [] (Lp (α := Int32) _ FU u1_0) from ?_) 1
  intro u1_0
  refine go_Lp (α := Int32) (fun s1 => g) (fun s1 => [(0, .int a1), (1, .int a2), (2, .int s1)]) ?_ FU u1_0
  intro rec1 hrec1 s1
  have krec1 : ∀ (u1_0 : Int32), Go (wCA E) _ _ g 2 [(0, .int a1), (1, .int a2), (2, .int u1_0)] [] (rec1 u1_0) := fun u1_0 => hrec1 u1_0
  refine go_iload_n td_X4_leastCommon 2 rfl (q := 3) rfl 2 rfl ?_
  refine go_iload_n td_X4_leastCommon 3 rfl (q := 4) rfl 1 rfl ?_
  refine go_icmp_gt 27 td_X4_leastCommon 4 rfl rfl (q := 7) rfl (fun _ => ?_) (fun _ => ?_)
  · refine go_iload_n td_X4_leastCommon 17 rfl (q := 28) rfl 0 rfl ?_
    exact go_iret td_X4_leastCommon 18 rfl rfl rfl
  · refine go_iload_n td_X4_leastCommon 5 rfl (q := 8) rfl 2 rfl ?_
    refine go_iload_n td_X4_leastCommon 6 rfl (q := 9) rfl 0 rfl ?_
    refine go_imul td_X4_leastCommon 7 rfl (q := 10) rfl ?_
    refine go_iload_n td_X4_leastCommon 8 rfl (q := 11) rfl 1 rfl ?_
    refine go_callN td_X4_leastCommon 9 rfl (q := 14) rfl (XkA E) (lk_X4_93 E) (ok_fA_D_rest E (s1 * a1) a2 g) ⟨rfl, rfl, Nat.le_of_ble_eq_true rfl, Nat.le_of_ble_eq_true rfl⟩ rfl rfl (Nat.le_of_ble_eq_true rfl) (fun x2 => ?_)
    show Go (wCA E) _ _ g 14 _ [.int x2] _
    refine go_if_ne 21 td_X4_leastCommon 10 rfl rfl (q := 17) rfl (fun _ => ?_) (fun _ => ?_)
    · refine go_iinc [(2, .int (s1 + 1)), (0, .int a1), (1, .int a2)] td_X4_leastCommon 15 rfl (q := 24) rfl 2 rfl kc_1 (Nat.le_of_ble_eq_true rfl) rfl ?_
      refine go_goto td_X4_leastCommon 16 rfl (q := 2) rfl ?_
      refine go_pick [1, 2, 0] (lv' := [(0, .int a1), (1, .int a2), (2, .int (s1 + 1))]) rfl ?_
      exact krec1 (s1 + 1)
    · refine go_iload_n td_X4_leastCommon 11 rfl (q := 18) rfl 2 rfl ?_
      refine go_iload_n td_X4_leastCommon 12 rfl (q := 19) rfl 0 rfl ?_
      refine go_imul td_X4_leastCommon 13 rfl (q := 20) rfl ?_
      exact go_iret td_X4_leastCommon 14 rfl rfl rfl
def fA_Plan_findCycle (g : G) : Option (Int32 × G) := bv (sS g 1503 (g.1 1502)) fun g1 => Lp (α := Int32 × G) (fun rec2 s2 => lj (α := Unit) (fun b3 => (if 240 < (s2.2.1 1503) then some (0, s2.2) else some (1, s2.2))) fun J3 => (if (s2.2.1 1505) ≤ s2.1 then J3 () else (if 240 < (s2.2.1 1503) then J3 () else ag 4 (s2.2.2.1 19) s2.1 fun x4 => Option.bind (fA_Plan_leastCommon (s2.2.1 1503) x4 s2.2) fun x5 => bv (sS s2.2 1503 x5) fun g6 => rec2 (s2.1 + 1, g6)))) FU (0, g1)
set_option maxRecDepth 20000 in
set_option maxHeartbeats 4000000 in
theorem ok_fA_Plan_findCycle (E : Ev)  (g : G)  : Ct (wCA E) yX4_findCycle mi_X4_findCycle [.ref (E.1 15)] (fun r => (some (.int r.1), r.2)) g (fA_Plan_findCycle g) := by
  refine go_enter rfl rfl (Nat.le_of_ble_eq_true rfl) (lv := [(0, .ref (E.1 15))]) rfl ?_
  unfold fA_Plan_findCycle
  refine go_aload_n td_X4_findCycle 0 rfl (q := 1) rfl 0 rfl ?_
  refine go_aload_n td_X4_findCycle 1 rfl (q := 2) rfl 0 rfl ?_
  refine go_get td_X4_findCycle 2 rfl (q := 5) rfl fl_X4_18 (Ac_15 E g) rfl ?_
  refine go_put td_X4_findCycle 3 rfl (q := 8) rfl flp_X4_21 (Ac_15 E g) rfl rfl (Nat.le_of_ble_eq_true rfl) (Aps_1503 E g (g.1 1502)) ?_
  refine go_bvg (fun g1 => ?_)
  refine go_iconst td_X4_findCycle 4 rfl (q := 9) rfl kc_0 ?_
  refine go_istore_n [(1, .int 0), (0, .ref (E.1 15))] td_X4_findCycle 5 rfl (q := 10) rfl (Nat.le_of_ble_eq_true rfl) rfl ?_
  refine go_pick [1, 0] (lv' := [(0, .ref (E.1 15)), (1, .int 0)]) rfl ?_
  refine (show ∀ (u2_0 : Int32) (u2_1 : G), Go (wCA E) _ _ u2_1 10 [(0, .ref (E.1 15)), (1, .int u2_0)] [] (Lp (α := Int32 × G) _ FU (u2_0, u2_1)) from ?_) 0 g1
  intro u2_0 u2_1
  refine go_Lp (α := Int32 × G) (fun s2 => s2.2) (fun s2 => [(0, .ref (E.1 15)), (1, .int s2.1)]) ?_ FU (u2_0, u2_1)
  intro rec2 hrec2 s2
  have krec2 : ∀ (u2_0 : Int32) (u2_1 : G), Go (wCA E) _ _ u2_1 10 [(0, .ref (E.1 15)), (1, .int u2_0)] [] (rec2 (u2_0, u2_1)) := fun u2_0 u2_1 => hrec2 (u2_0, u2_1)
  refine go_iload_n td_X4_findCycle 6 rfl (q := 11) rfl 1 rfl ?_
  refine go_aload_n td_X4_findCycle 7 rfl (q := 12) rfl 0 rfl ?_
  refine go_get td_X4_findCycle 8 rfl (q := 15) rfl fl_X4_27 (Ac_15 E s2.2) rfl ?_
  refine go_ljX (α := Unit) (fun b3 => [(0, .ref (E.1 15))]) (fun b3 => []) (fun b3 => s2.2) 51 ?_ ?_
  · intro b3
    refine go_aload_n td_X4_findCycle 25 rfl (q := 52) rfl 0 rfl ?_
    refine go_get td_X4_findCycle 26 rfl (q := 55) rfl fl_X4_21 (Ac_15 E s2.2) rfl ?_
    refine go_sipush td_X4_findCycle 27 rfl (q := 58) rfl ks_240 ?_
    refine go_icmp_gt 65 td_X4_findCycle 28 rfl rfl (q := 61) rfl (fun _ => ?_) (fun _ => ?_)
    · refine go_iconst td_X4_findCycle 31 rfl (q := 66) rfl kc_0 ?_
      exact go_zret td_X4_findCycle 32 rfl rfl rfl rfl
    · refine go_iconst td_X4_findCycle 29 rfl (q := 62) rfl kc_1 ?_
      refine go_goto td_X4_findCycle 30 rfl (q := 66) rfl ?_
      exact go_zret td_X4_findCycle 32 rfl rfl rfl rfl
  intro J3 hJ3
  have kJ3 : Go (wCA E) _ _ s2.2 51 [(0, .ref (E.1 15))] [] (J3 ()) := hJ3 ()
  refine go_icmp_ge 51 td_X4_findCycle 9 rfl rfl (q := 18) rfl (fun _ => ?_) (fun _ => ?_)
  · refine go_pick [0] (lv' := [(0, .ref (E.1 15))]) rfl ?_
    exact kJ3 
  · refine go_aload_n td_X4_findCycle 10 rfl (q := 19) rfl 0 rfl ?_
    refine go_get td_X4_findCycle 11 rfl (q := 22) rfl fl_X4_21 (Ac_15 E s2.2) rfl ?_
    refine go_sipush td_X4_findCycle 12 rfl (q := 25) rfl ks_240 ?_
    refine go_icmp_gt 51 td_X4_findCycle 13 rfl rfl (q := 28) rfl (fun _ => ?_) (fun _ => ?_)
    · refine go_pick [0] (lv' := [(0, .ref (E.1 15))]) rfl ?_
      exact kJ3 
    · refine go_aload_n td_X4_findCycle 14 rfl (q := 29) rfl 0 rfl ?_
      refine go_aload_n td_X4_findCycle 15 rfl (q := 30) rfl 0 rfl ?_
      refine go_get td_X4_findCycle 16 rfl (q := 33) rfl fl_X4_21 (Ac_15 E s2.2) rfl ?_
      refine go_aload_n td_X4_findCycle 17 rfl (q := 34) rfl 0 rfl ?_
      refine go_get td_X4_findCycle 18 rfl (q := 37) rfl fl_X4_46 (Ac_15 E s2.2) rfl ?_
      refine go_iload_n td_X4_findCycle 19 rfl (q := 38) rfl 1 rfl ?_
      refine go_ald td_X4_findCycle 20 rfl (q := 39) rfl (Ac_19 E s2.2) (t0 := 0) rfl (fun x4 => ?_)
      refine go_callS td_X4_findCycle 21 rfl (q := 42) rfl (XkA E) lk_X4_89 (ok_fA_Plan_leastCommon E (s2.2.1 1503) x4 s2.2) ⟨rfl, rfl, Nat.le_of_ble_eq_true rfl, Nat.le_of_ble_eq_true rfl⟩ rfl rfl (Nat.le_of_ble_eq_true rfl) (fun x5 => ?_)
      show Go (wCA E) _ _ s2.2 42 _ [.int x5, .ref (E.1 15)] _
      refine go_put td_X4_findCycle 22 rfl (q := 45) rfl flp_X4_21 (Ac_15 E s2.2) rfl rfl (Nat.le_of_ble_eq_true rfl) (Aps_1503 E s2.2 x5) ?_
      refine go_bvg (fun g6 => ?_)
      refine go_iinc [(1, .int (s2.1 + 1)), (0, .ref (E.1 15))] td_X4_findCycle 23 rfl (q := 48) rfl 1 rfl kc_1 (Nat.le_of_ble_eq_true rfl) rfl ?_
      refine go_goto td_X4_findCycle 24 rfl (q := 10) rfl ?_
      refine go_pick [1, 0] (lv' := [(0, .ref (E.1 15)), (1, .int (s2.1 + 1))]) rfl ?_
      exact krec2 (s2.1 + 1) g6
def fA_Words_isOwn (a1 : Int32) (g : G) : Option (Int32) := Lp (α := Int32 × Int32 × Int32) (fun rec1 s1 => (if (slen 15) ≤ s1.2.2 then some 0 else sch 15 s1.2.2 fun x3 => lj (α := Int32 × Int32) (fun b4 => rec1 (b4.1, b4.2, s1.2.2 + 1)) fun J4 => (if x3 = 32 then (if s1.1 = a1 then some 1 else J4 (0, 0)) else sch 15 s1.2.2 fun x5 => Option.bind (fA_Words_withLetter s1.1 s1.2.1 x5 g) fun x6 => J4 (x6, s1.2.1 + 1)))) FU (0, 0, 0)
set_option maxRecDepth 20000 in
set_option maxHeartbeats 4000000 in
theorem ok_fA_Words_isOwn (E : Ev) (a1 : Int32) (g : G)  : Ct (wCA E) yX10_isOwn mi_X10_isOwn [.int a1] (fun r => (some (.int r), g)) g (fA_Words_isOwn a1 g) := by
  refine go_enter rfl rfl (Nat.le_of_ble_eq_true rfl) (lv := [(0, .int a1)]) rfl ?_
  unfold fA_Words_isOwn
  refine go_iconst td_X10_isOwn 0 rfl (q := 1) rfl kc_0 ?_
  refine go_istore_n [(1, .int 0), (0, .int a1)] td_X10_isOwn 1 rfl (q := 2) rfl (Nat.le_of_ble_eq_true rfl) rfl ?_
  refine go_iconst td_X10_isOwn 2 rfl (q := 3) rfl kc_0 ?_
  refine go_istore_n [(2, .int 0), (1, .int 0), (0, .int a1)] td_X10_isOwn 3 rfl (q := 4) rfl (Nat.le_of_ble_eq_true rfl) rfl ?_
  refine go_iconst td_X10_isOwn 4 rfl (q := 5) rfl kc_0 ?_
  refine go_istore_n [(3, .int 0), (2, .int 0), (1, .int 0), (0, .int a1)] td_X10_isOwn 5 rfl (q := 6) rfl (Nat.le_of_ble_eq_true rfl) rfl ?_
  refine go_pick [3, 2, 1, 0] (lv' := [(0, .int a1), (1, .int 0), (2, .int 0), (3, .int 0)]) rfl ?_
  refine (show ∀ (u1_0 : Int32) (u1_1 : Int32) (u1_2 : Int32), Go (wCA E) _ _ g 6 [(0, .int a1), (1, .int u1_0), (2, .int u1_1), (3, .int u1_2)] [] (Lp (α := Int32 × Int32 × Int32) _ FU (u1_0, u1_1, u1_2)) from ?_) 0 0 0
  intro u1_0 u1_1 u1_2
  refine go_Lp (α := Int32 × Int32 × Int32) (fun s1 => g) (fun s1 => [(0, .int a1), (1, .int s1.1), (2, .int s1.2.1), (3, .int s1.2.2)]) ?_ FU (u1_0, u1_1, u1_2)
  intro rec1 hrec1 s1
  have krec1 : ∀ (u1_0 : Int32) (u1_1 : Int32) (u1_2 : Int32), Go (wCA E) _ _ g 6 [(0, .int a1), (1, .int u1_0), (2, .int u1_1), (3, .int u1_2)] [] (rec1 (u1_0, u1_1, u1_2)) := fun u1_0 u1_1 u1_2 => hrec1 (u1_0, u1_1, u1_2)
  refine go_iload_n td_X10_isOwn 6 rfl (q := 7) rfl 3 rfl ?_
  refine go_ldcS td_X10_isOwn 7 rfl (q := 9) rfl (sr_X10_23 E) ?_
  refine go_slen td_X10_isOwn 8 rfl (q := 12) rfl lk_X10_9 (by decide) ⟨Nat.le_of_ble_eq_true rfl, Nat.le_of_ble_eq_true rfl, Nat.le_of_ble_eq_true rfl⟩ ?_
  refine go_icmp_ge 61 td_X10_isOwn 9 rfl rfl (q := 15) rfl (fun _ => ?_) (fun _ => ?_)
  · refine go_iconst td_X10_isOwn 35 rfl (q := 62) rfl kc_0 ?_
    exact go_zret td_X10_isOwn 36 rfl rfl rfl rfl
  · refine go_ldcS td_X10_isOwn 10 rfl (q := 17) rfl (sr_X10_23 E) ?_
    refine go_iload_n td_X10_isOwn 11 rfl (q := 18) rfl 3 rfl ?_
    refine go_schar td_X10_isOwn 12 rfl (q := 21) rfl lk_X10_15 (by decide) ⟨Nat.le_of_ble_eq_true rfl, Nat.le_of_ble_eq_true rfl, Nat.le_of_ble_eq_true rfl⟩ (fun x3 => ?_)
    refine go_bipush td_X10_isOwn 13 rfl (q := 23) rfl kb_32 ?_
    refine go_ljX (α := Int32 × Int32) (fun b4 => [(0, .int a1), (1, .int b4.1), (2, .int b4.2), (3, .int s1.2.2)]) (fun b4 => []) (fun b4 => g) 55 ?_ ?_
    · intro b4
      refine go_iinc [(3, .int (s1.2.2 + 1)), (0, .int a1), (1, .int b4.1), (2, .int b4.2)] td_X10_isOwn 33 rfl (q := 58) rfl 3 rfl kc_1 (Nat.le_of_ble_eq_true rfl) rfl ?_
      refine go_goto td_X10_isOwn 34 rfl (q := 6) rfl ?_
      refine go_pick [1, 2, 3, 0] (lv' := [(0, .int a1), (1, .int b4.1), (2, .int b4.2), (3, .int (s1.2.2 + 1))]) rfl ?_
      exact krec1 b4.1 b4.2 (s1.2.2 + 1)
    intro J4 hJ4
    have kJ4 : ∀ (u4_0 : Int32) (u4_1 : Int32), Go (wCA E) _ _ g 55 [(0, .int a1), (1, .int u4_0), (2, .int u4_1), (3, .int s1.2.2)] [] (J4 (u4_0, u4_1)) := fun u4_0 u4_1 => hJ4 (u4_0, u4_1)
    refine go_icmp_ne 40 td_X10_isOwn 14 rfl rfl (q := 26) rfl (fun _ => ?_) (fun _ => ?_)
    · refine go_iload_n td_X10_isOwn 25 rfl (q := 41) rfl 1 rfl ?_
      refine go_iload_n td_X10_isOwn 26 rfl (q := 42) rfl 2 rfl ?_
      refine go_ldcS td_X10_isOwn 27 rfl (q := 44) rfl (sr_X10_23 E) ?_
      refine go_iload_n td_X10_isOwn 28 rfl (q := 45) rfl 3 rfl ?_
      refine go_schar td_X10_isOwn 29 rfl (q := 48) rfl lk_X10_15 (by decide) ⟨Nat.le_of_ble_eq_true rfl, Nat.le_of_ble_eq_true rfl, Nat.le_of_ble_eq_true rfl⟩ (fun x5 => ?_)
      refine go_callS td_X10_isOwn 30 rfl (q := 51) rfl (XkA E) lk_X10_19 (ok_fA_Words_withLetter E s1.1 s1.2.1 x5 g) ⟨rfl, rfl, Nat.le_of_ble_eq_true rfl, Nat.le_of_ble_eq_true rfl⟩ rfl rfl (Nat.le_of_ble_eq_true rfl) (fun x6 => ?_)
      show Go (wCA E) _ _ g 51 _ [.int x6] _
      refine go_istore_n [(1, .int x6), (0, .int a1), (2, .int s1.2.1), (3, .int s1.2.2)] td_X10_isOwn 31 rfl (q := 52) rfl (Nat.le_of_ble_eq_true rfl) rfl ?_
      refine go_iinc [(2, .int (s1.2.1 + 1)), (1, .int x6), (0, .int a1), (3, .int s1.2.2)] td_X10_isOwn 32 rfl (q := 55) rfl 2 rfl kc_1 (Nat.le_of_ble_eq_true rfl) rfl ?_
      refine go_pick [2, 1, 0, 3] (lv' := [(0, .int a1), (1, .int x6), (2, .int (s1.2.1 + 1)), (3, .int s1.2.2)]) rfl ?_
      exact kJ4 x6 (s1.2.1 + 1)
    · refine go_iload_n td_X10_isOwn 15 rfl (q := 27) rfl 1 rfl ?_
      refine go_iload_n td_X10_isOwn 16 rfl (q := 28) rfl 0 rfl ?_
      refine go_icmp_ne 33 td_X10_isOwn 17 rfl rfl (q := 31) rfl (fun _ => ?_) (fun _ => ?_)
      · refine go_iconst td_X10_isOwn 20 rfl (q := 34) rfl kc_0 ?_
        refine go_istore_n [(1, .int 0), (0, .int a1), (2, .int s1.2.1), (3, .int s1.2.2)] td_X10_isOwn 21 rfl (q := 35) rfl (Nat.le_of_ble_eq_true rfl) rfl ?_
        refine go_iconst td_X10_isOwn 22 rfl (q := 36) rfl kc_0 ?_
        refine go_istore_n [(2, .int 0), (1, .int 0), (0, .int a1), (3, .int s1.2.2)] td_X10_isOwn 23 rfl (q := 37) rfl (Nat.le_of_ble_eq_true rfl) rfl ?_
        refine go_goto td_X10_isOwn 24 rfl (q := 55) rfl ?_
        refine go_pick [2, 1, 0, 3] (lv' := [(0, .int a1), (1, .int 0), (2, .int 0), (3, .int s1.2.2)]) rfl ?_
        exact kJ4 0 0
      · refine go_iconst td_X10_isOwn 18 rfl (q := 32) rfl kc_1 ?_
        exact go_zret td_X10_isOwn 19 rfl rfl rfl rfl
def fA_Reader_takeName (g : G) : Option (Int32 × G) := Option.bind (fA_Reader_takeLetters g) fun x1 => (if x1.1 = 0 then some (0, x1.2) else (if (x1.2.1 3509) ≤ 6 then Option.bind (fA_Words_isOwn (x1.2.1 3508) x1.2) fun x2 => lj (α := G) (fun b3 => some (1, b3)) fun J3 => (if x2 = 0 then J3 x1.2 else Option.bind (fA_Reader_fail 1 (x1.2.1 3507) x1.2) fun x4 => (if x4.1 = 0 then some (0, x4.2) else J3 x4.2)) else Option.bind (fA_Reader_fail 1 ((x1.2.1 3507) + 6) x1.2) fun x5 => bt x5.1 (some (x5.1, x5.2))))
set_option maxRecDepth 20000 in
set_option maxHeartbeats 4000000 in
theorem ok_fA_Reader_takeName (E : Ev)  (g : G)  : Ct (wCA E) yX5_takeName mi_X5_takeName [.ref (E.1 35)] (fun r => (some (.int r.1), r.2)) g (fA_Reader_takeName g) := by
  refine go_enter rfl rfl (Nat.le_of_ble_eq_true rfl) (lv := [(0, .ref (E.1 35))]) rfl ?_
  unfold fA_Reader_takeName
  refine go_aload_n td_X5_takeName 0 rfl (q := 1) rfl 0 rfl ?_
  refine go_callV td_X5_takeName 1 rfl (q := 4) rfl (XkA E) lk_X5_73 (ok_fA_Reader_takeLetters E g) ⟨rfl, rfl, Nat.le_of_ble_eq_true rfl, Nat.le_of_ble_eq_true rfl⟩ rfl rfl (Nat.le_of_ble_eq_true rfl) (Ac_35 E g) rfl (fun x1 => ?_)
  show Go (wCA E) _ _ x1.2 4 _ [.int x1.1] _
  refine go_if_ne 9 td_X5_takeName 2 rfl rfl (q := 7) rfl (fun _ => ?_) (fun _ => ?_)
  · refine go_aload_n td_X5_takeName 5 rfl (q := 10) rfl 0 rfl ?_
    refine go_get td_X5_takeName 6 rfl (q := 13) rfl fl_X5_30 (Ac_35 E x1.2) rfl ?_
    refine go_bipush td_X5_takeName 7 rfl (q := 15) rfl kb_6 ?_
    refine go_icmp_le 31 td_X5_takeName 8 rfl rfl (q := 18) rfl (fun _ => ?_) (fun _ => ?_)
    · refine go_aload_n td_X5_takeName 17 rfl (q := 32) rfl 0 rfl ?_
      refine go_get td_X5_takeName 18 rfl (q := 35) rfl fl_X5_27 (Ac_35 E x1.2) rfl ?_
      refine go_callS td_X5_takeName 19 rfl (q := 38) rfl (XkA E) lk_X5_224 (ok_fA_Words_isOwn E (x1.2.1 3508) x1.2) ⟨rfl, rfl, Nat.le_of_ble_eq_true rfl, Nat.le_of_ble_eq_true rfl⟩ rfl rfl (Nat.le_of_ble_eq_true rfl) (fun x2 => ?_)
      show Go (wCA E) _ _ x1.2 38 _ [.int x2] _
      refine go_ljX (α := G) (fun b3 => []) (fun b3 => []) (fun b3 => b3) 53 ?_ ?_
      · intro b3
        refine go_iconst td_X5_takeName 27 rfl (q := 54) rfl kc_1 ?_
        refine go_goto td_X5_takeName 28 rfl (q := 58) rfl ?_
        exact go_zret td_X5_takeName 30 rfl rfl rfl rfl
      intro J3 hJ3
      have kJ3 : ∀ (u3_0 : G), Go (wCA E) _ _ u3_0 53 [] [] (J3 u3_0) := fun u3_0 => hJ3 u3_0
      refine go_if_eq 53 td_X5_takeName 20 rfl rfl (q := 41) rfl (fun _ => ?_) (fun _ => ?_)
      · refine go_pick [] (lv' := []) rfl ?_
        exact kJ3 x1.2
      · refine go_aload_n td_X5_takeName 21 rfl (q := 42) rfl 0 rfl ?_
        refine go_iconst td_X5_takeName 22 rfl (q := 43) rfl kc_1 ?_
        refine go_aload_n td_X5_takeName 23 rfl (q := 44) rfl 0 rfl ?_
        refine go_get td_X5_takeName 24 rfl (q := 47) rfl fl_X5_24 (Ac_35 E x1.2) rfl ?_
        refine go_callV td_X5_takeName 25 rfl (q := 50) rfl (XkA E) lk_X5_97 (ok_fA_Reader_fail E 1 (x1.2.1 3507) x1.2) ⟨rfl, rfl, Nat.le_of_ble_eq_true rfl, Nat.le_of_ble_eq_true rfl⟩ rfl rfl (Nat.le_of_ble_eq_true rfl) (Ac_35 E x1.2) rfl (fun x4 => ?_)
        show Go (wCA E) _ _ x4.2 50 _ [.int x4.1] _
        refine go_if_eq 57 td_X5_takeName 26 rfl rfl (q := 53) rfl (fun _ => ?_) (fun _ => ?_)
        · refine go_iconst td_X5_takeName 29 rfl (q := 58) rfl kc_0 ?_
          exact go_zret td_X5_takeName 30 rfl rfl rfl rfl
        · refine go_pick [] (lv' := []) rfl ?_
          exact kJ3 x4.2
    · refine go_aload_n td_X5_takeName 9 rfl (q := 19) rfl 0 rfl ?_
      refine go_iconst td_X5_takeName 10 rfl (q := 20) rfl kc_1 ?_
      refine go_aload_n td_X5_takeName 11 rfl (q := 21) rfl 0 rfl ?_
      refine go_get td_X5_takeName 12 rfl (q := 24) rfl fl_X5_24 (Ac_35 E x1.2) rfl ?_
      refine go_bipush td_X5_takeName 13 rfl (q := 26) rfl kb_6 ?_
      refine go_iadd td_X5_takeName 14 rfl (q := 27) rfl ?_
      refine go_callV td_X5_takeName 15 rfl (q := 30) rfl (XkA E) lk_X5_97 (ok_fA_Reader_fail E 1 ((x1.2.1 3507) + 6) x1.2) ⟨rfl, rfl, Nat.le_of_ble_eq_true rfl, Nat.le_of_ble_eq_true rfl⟩ rfl rfl (Nat.le_of_ble_eq_true rfl) (Ac_35 E x1.2) rfl (fun x5 => ?_)
      show Go (wCA E) _ _ x5.2 30 _ [.int x5.1] _
      exact go_zretb td_X5_takeName 16 rfl rfl rfl
  · refine go_iconst td_X5_takeName 3 rfl (q := 8) rfl kc_0 ?_
    exact go_zret td_X5_takeName 4 rfl rfl rfl rfl
def fA_Plan_placeOf (a1 : Int32) (a2 : Int32) (g : G) : Option (Int32) := Lp (α := Int32) (fun rec1 s1 => (if a2 ≤ s1 then some (-1) else (if 4 ≤ s1 then some (-1) else ag 4 (g.2.1 17) s1 fun x2 => (if x2 = a1 then some s1 else rec1 (s1 + 1))))) FU 0
set_option maxRecDepth 20000 in
set_option maxHeartbeats 4000000 in
theorem ok_fA_Plan_placeOf (E : Ev) (a1 : Int32) (a2 : Int32) (g : G)  : Ct (wCA E) yX4_placeOf mi_X4_placeOf [.int a1, .ref (E.1 17), .int a2] (fun r => (some (.int r), g)) g (fA_Plan_placeOf a1 a2 g) := by
  refine go_enter rfl rfl (Nat.le_of_ble_eq_true rfl) (lv := [(0, .int a1), (1, .ref (E.1 17)), (2, .int a2)]) rfl ?_
  unfold fA_Plan_placeOf
  refine go_iconst td_X4_placeOf 0 rfl (q := 1) rfl kc_0 ?_
  refine go_istore_n [(3, .int 0), (0, .int a1), (1, .ref (E.1 17)), (2, .int a2)] td_X4_placeOf 1 rfl (q := 2) rfl (Nat.le_of_ble_eq_true rfl) rfl ?_
  refine go_pick [1, 2, 3, 0] (lv' := [(0, .int a1), (1, .ref (E.1 17)), (2, .int a2), (3, .int 0)]) rfl ?_
  refine (show ∀ (u1_0 : Int32), Go (wCA E) _ _ g 2 [(0, .int a1), (1, .ref (E.1 17)), (2, .int a2), (3, .int u1_0)] [] (Lp (α := Int32) _ FU u1_0) from ?_) 0
  intro u1_0
  refine go_Lp (α := Int32) (fun s1 => g) (fun s1 => [(0, .int a1), (1, .ref (E.1 17)), (2, .int a2), (3, .int s1)]) ?_ FU u1_0
  intro rec1 hrec1 s1
  have krec1 : ∀ (u1_0 : Int32), Go (wCA E) _ _ g 2 [(0, .int a1), (1, .ref (E.1 17)), (2, .int a2), (3, .int u1_0)] [] (rec1 u1_0) := fun u1_0 => hrec1 u1_0
  refine go_iload_n td_X4_placeOf 2 rfl (q := 3) rfl 3 rfl ?_
  refine go_iload_n td_X4_placeOf 3 rfl (q := 4) rfl 2 rfl ?_
  refine go_icmp_ge 28 td_X4_placeOf 4 rfl rfl (q := 7) rfl (fun _ => ?_) (fun _ => ?_)
  · refine go_iconst td_X4_placeOf 18 rfl (q := 29) rfl kc_m1 ?_
    exact go_iret td_X4_placeOf 19 rfl rfl rfl
  · refine go_iload_n td_X4_placeOf 5 rfl (q := 8) rfl 3 rfl ?_
    refine go_aload_n td_X4_placeOf 6 rfl (q := 9) rfl 1 rfl ?_
    refine go_alen (v := 4) td_X4_placeOf 7 rfl (q := 10) rfl (Ac_17 E g) (t0 := 0) rfl rfl ?_
    refine go_icmp_ge 28 td_X4_placeOf 8 rfl rfl (q := 13) rfl (fun _ => ?_) (fun _ => ?_)
    · refine go_iconst td_X4_placeOf 18 rfl (q := 29) rfl kc_m1 ?_
      exact go_iret td_X4_placeOf 19 rfl rfl rfl
    · refine go_aload_n td_X4_placeOf 9 rfl (q := 14) rfl 1 rfl ?_
      refine go_iload_n td_X4_placeOf 10 rfl (q := 15) rfl 3 rfl ?_
      refine go_ald td_X4_placeOf 11 rfl (q := 16) rfl (Ac_17 E g) (t0 := 0) rfl (fun x2 => ?_)
      refine go_iload_n td_X4_placeOf 12 rfl (q := 17) rfl 0 rfl ?_
      refine go_icmp_ne 22 td_X4_placeOf 13 rfl rfl (q := 20) rfl (fun _ => ?_) (fun _ => ?_)
      · refine go_iinc [(3, .int (s1 + 1)), (0, .int a1), (1, .ref (E.1 17)), (2, .int a2)] td_X4_placeOf 16 rfl (q := 25) rfl 3 rfl kc_1 (Nat.le_of_ble_eq_true rfl) rfl ?_
        refine go_goto td_X4_placeOf 17 rfl (q := 2) rfl ?_
        refine go_pick [1, 2, 3, 0] (lv' := [(0, .int a1), (1, .ref (E.1 17)), (2, .int a2), (3, .int (s1 + 1))]) rfl ?_
        exact krec1 (s1 + 1)
      · refine go_iload_n td_X4_placeOf 14 rfl (q := 21) rfl 3 rfl ?_
        exact go_iret td_X4_placeOf 15 rfl rfl rfl
def fA_Plan_planeNamed (a1 : Int32) (g : G) : Option (Int32) := Option.bind (fA_Plan_placeOf a1 (g.1 1505) g) fun x1 => some x1
set_option maxRecDepth 20000 in
set_option maxHeartbeats 4000000 in
theorem ok_fA_Plan_planeNamed (E : Ev) (a1 : Int32) (g : G)  : Ct (wCA E) yX4_planeNamed mi_X4_planeNamed [.ref (E.1 15), .int a1] (fun r => (some (.int r), g)) g (fA_Plan_planeNamed a1 g) := by
  refine go_enter rfl rfl (Nat.le_of_ble_eq_true rfl) (lv := [(0, .ref (E.1 15)), (1, .int a1)]) rfl ?_
  unfold fA_Plan_planeNamed
  refine go_iload_n td_X4_planeNamed 0 rfl (q := 1) rfl 1 rfl ?_
  refine go_aload_n td_X4_planeNamed 1 rfl (q := 2) rfl 0 rfl ?_
  refine go_get td_X4_planeNamed 2 rfl (q := 5) rfl fl_X4_40 (Ac_15 E g) rfl ?_
  refine go_aload_n td_X4_planeNamed 3 rfl (q := 6) rfl 0 rfl ?_
  refine go_get td_X4_planeNamed 4 rfl (q := 9) rfl fl_X4_27 (Ac_15 E g) rfl ?_
  refine go_callS td_X4_planeNamed 5 rfl (q := 12) rfl (XkA E) lk_X4_80 (ok_fA_Plan_placeOf E a1 (g.1 1505) g) ⟨rfl, rfl, Nat.le_of_ble_eq_true rfl, Nat.le_of_ble_eq_true rfl⟩ rfl rfl (Nat.le_of_ble_eq_true rfl) (fun x1 => ?_)
  show Go (wCA E) _ _ g 12 _ [.int x1] _
  exact go_iret td_X4_planeNamed 6 rfl rfl rfl
def fA_Plan_placeOf_2 (a1 : Int32) (a2 : Int32) (g : G) : Option (Int32) := Lp (α := Int32) (fun rec1 s1 => (if a2 ≤ s1 then some (-1) else (if 8 ≤ s1 then some (-1) else ag 8 (g.2.1 20) s1 fun x2 => (if x2 = a1 then some s1 else rec1 (s1 + 1))))) FU 0
set_option maxRecDepth 20000 in
set_option maxHeartbeats 4000000 in
theorem ok_fA_Plan_placeOf_2 (E : Ev) (a1 : Int32) (a2 : Int32) (g : G)  : Ct (wCA E) yX4_placeOf mi_X4_placeOf [.int a1, .ref (E.1 20), .int a2] (fun r => (some (.int r), g)) g (fA_Plan_placeOf_2 a1 a2 g) := by
  refine go_enter rfl rfl (Nat.le_of_ble_eq_true rfl) (lv := [(0, .int a1), (1, .ref (E.1 20)), (2, .int a2)]) rfl ?_
  unfold fA_Plan_placeOf_2
  refine go_iconst td_X4_placeOf 0 rfl (q := 1) rfl kc_0 ?_
  refine go_istore_n [(3, .int 0), (0, .int a1), (1, .ref (E.1 20)), (2, .int a2)] td_X4_placeOf 1 rfl (q := 2) rfl (Nat.le_of_ble_eq_true rfl) rfl ?_
  refine go_pick [1, 2, 3, 0] (lv' := [(0, .int a1), (1, .ref (E.1 20)), (2, .int a2), (3, .int 0)]) rfl ?_
  refine (show ∀ (u1_0 : Int32), Go (wCA E) _ _ g 2 [(0, .int a1), (1, .ref (E.1 20)), (2, .int a2), (3, .int u1_0)] [] (Lp (α := Int32) _ FU u1_0) from ?_) 0
  intro u1_0
  refine go_Lp (α := Int32) (fun s1 => g) (fun s1 => [(0, .int a1), (1, .ref (E.1 20)), (2, .int a2), (3, .int s1)]) ?_ FU u1_0
  intro rec1 hrec1 s1
  have krec1 : ∀ (u1_0 : Int32), Go (wCA E) _ _ g 2 [(0, .int a1), (1, .ref (E.1 20)), (2, .int a2), (3, .int u1_0)] [] (rec1 u1_0) := fun u1_0 => hrec1 u1_0
  refine go_iload_n td_X4_placeOf 2 rfl (q := 3) rfl 3 rfl ?_
  refine go_iload_n td_X4_placeOf 3 rfl (q := 4) rfl 2 rfl ?_
  refine go_icmp_ge 28 td_X4_placeOf 4 rfl rfl (q := 7) rfl (fun _ => ?_) (fun _ => ?_)
  · refine go_iconst td_X4_placeOf 18 rfl (q := 29) rfl kc_m1 ?_
    exact go_iret td_X4_placeOf 19 rfl rfl rfl
  · refine go_iload_n td_X4_placeOf 5 rfl (q := 8) rfl 3 rfl ?_
    refine go_aload_n td_X4_placeOf 6 rfl (q := 9) rfl 1 rfl ?_
    refine go_alen (v := 8) td_X4_placeOf 7 rfl (q := 10) rfl (Ac_20 E g) (t0 := 0) rfl rfl ?_
    refine go_icmp_ge 28 td_X4_placeOf 8 rfl rfl (q := 13) rfl (fun _ => ?_) (fun _ => ?_)
    · refine go_iconst td_X4_placeOf 18 rfl (q := 29) rfl kc_m1 ?_
      exact go_iret td_X4_placeOf 19 rfl rfl rfl
    · refine go_aload_n td_X4_placeOf 9 rfl (q := 14) rfl 1 rfl ?_
      refine go_iload_n td_X4_placeOf 10 rfl (q := 15) rfl 3 rfl ?_
      refine go_ald td_X4_placeOf 11 rfl (q := 16) rfl (Ac_20 E g) (t0 := 0) rfl (fun x2 => ?_)
      refine go_iload_n td_X4_placeOf 12 rfl (q := 17) rfl 0 rfl ?_
      refine go_icmp_ne 22 td_X4_placeOf 13 rfl rfl (q := 20) rfl (fun _ => ?_) (fun _ => ?_)
      · refine go_iinc [(3, .int (s1 + 1)), (0, .int a1), (1, .ref (E.1 20)), (2, .int a2)] td_X4_placeOf 16 rfl (q := 25) rfl 3 rfl kc_1 (Nat.le_of_ble_eq_true rfl) rfl ?_
        refine go_goto td_X4_placeOf 17 rfl (q := 2) rfl ?_
        refine go_pick [1, 2, 3, 0] (lv' := [(0, .int a1), (1, .ref (E.1 20)), (2, .int a2), (3, .int (s1 + 1))]) rfl ?_
        exact krec1 (s1 + 1)
      · refine go_iload_n td_X4_placeOf 14 rfl (q := 21) rfl 3 rfl ?_
        exact go_iret td_X4_placeOf 15 rfl rfl rfl
def fA_Plan_placeOf_3 (a1 : Int32) (a2 : Int32) (g : G) : Option (Int32) := Lp (α := Int32) (fun rec1 s1 => (if a2 ≤ s1 then some (-1) else (if 6 ≤ s1 then some (-1) else ag 6 (g.2.1 22) s1 fun x2 => (if x2 = a1 then some s1 else rec1 (s1 + 1))))) FU 0
set_option maxRecDepth 20000 in
set_option maxHeartbeats 4000000 in
theorem ok_fA_Plan_placeOf_3 (E : Ev) (a1 : Int32) (a2 : Int32) (g : G)  : Ct (wCA E) yX4_placeOf mi_X4_placeOf [.int a1, .ref (E.1 22), .int a2] (fun r => (some (.int r), g)) g (fA_Plan_placeOf_3 a1 a2 g) := by
  refine go_enter rfl rfl (Nat.le_of_ble_eq_true rfl) (lv := [(0, .int a1), (1, .ref (E.1 22)), (2, .int a2)]) rfl ?_
  unfold fA_Plan_placeOf_3
  refine go_iconst td_X4_placeOf 0 rfl (q := 1) rfl kc_0 ?_
  refine go_istore_n [(3, .int 0), (0, .int a1), (1, .ref (E.1 22)), (2, .int a2)] td_X4_placeOf 1 rfl (q := 2) rfl (Nat.le_of_ble_eq_true rfl) rfl ?_
  refine go_pick [1, 2, 3, 0] (lv' := [(0, .int a1), (1, .ref (E.1 22)), (2, .int a2), (3, .int 0)]) rfl ?_
  refine (show ∀ (u1_0 : Int32), Go (wCA E) _ _ g 2 [(0, .int a1), (1, .ref (E.1 22)), (2, .int a2), (3, .int u1_0)] [] (Lp (α := Int32) _ FU u1_0) from ?_) 0
  intro u1_0
  refine go_Lp (α := Int32) (fun s1 => g) (fun s1 => [(0, .int a1), (1, .ref (E.1 22)), (2, .int a2), (3, .int s1)]) ?_ FU u1_0
  intro rec1 hrec1 s1
  have krec1 : ∀ (u1_0 : Int32), Go (wCA E) _ _ g 2 [(0, .int a1), (1, .ref (E.1 22)), (2, .int a2), (3, .int u1_0)] [] (rec1 u1_0) := fun u1_0 => hrec1 u1_0
  refine go_iload_n td_X4_placeOf 2 rfl (q := 3) rfl 3 rfl ?_
  refine go_iload_n td_X4_placeOf 3 rfl (q := 4) rfl 2 rfl ?_
  refine go_icmp_ge 28 td_X4_placeOf 4 rfl rfl (q := 7) rfl (fun _ => ?_) (fun _ => ?_)
  · refine go_iconst td_X4_placeOf 18 rfl (q := 29) rfl kc_m1 ?_
    exact go_iret td_X4_placeOf 19 rfl rfl rfl
  · refine go_iload_n td_X4_placeOf 5 rfl (q := 8) rfl 3 rfl ?_
    refine go_aload_n td_X4_placeOf 6 rfl (q := 9) rfl 1 rfl ?_
    refine go_alen (v := 6) td_X4_placeOf 7 rfl (q := 10) rfl (Ac_22 E g) (t0 := 0) rfl rfl ?_
    refine go_icmp_ge 28 td_X4_placeOf 8 rfl rfl (q := 13) rfl (fun _ => ?_) (fun _ => ?_)
    · refine go_iconst td_X4_placeOf 18 rfl (q := 29) rfl kc_m1 ?_
      exact go_iret td_X4_placeOf 19 rfl rfl rfl
    · refine go_aload_n td_X4_placeOf 9 rfl (q := 14) rfl 1 rfl ?_
      refine go_iload_n td_X4_placeOf 10 rfl (q := 15) rfl 3 rfl ?_
      refine go_ald td_X4_placeOf 11 rfl (q := 16) rfl (Ac_22 E g) (t0 := 0) rfl (fun x2 => ?_)
      refine go_iload_n td_X4_placeOf 12 rfl (q := 17) rfl 0 rfl ?_
      refine go_icmp_ne 22 td_X4_placeOf 13 rfl rfl (q := 20) rfl (fun _ => ?_) (fun _ => ?_)
      · refine go_iinc [(3, .int (s1 + 1)), (0, .int a1), (1, .ref (E.1 22)), (2, .int a2)] td_X4_placeOf 16 rfl (q := 25) rfl 3 rfl kc_1 (Nat.le_of_ble_eq_true rfl) rfl ?_
        refine go_goto td_X4_placeOf 17 rfl (q := 2) rfl ?_
        refine go_pick [1, 2, 3, 0] (lv' := [(0, .int a1), (1, .ref (E.1 22)), (2, .int a2), (3, .int (s1 + 1))]) rfl ?_
        exact krec1 (s1 + 1)
      · refine go_iload_n td_X4_placeOf 14 rfl (q := 21) rfl 3 rfl ?_
        exact go_iret td_X4_placeOf 15 rfl rfl rfl
def fA_Plan_hasName (a1 : Int32) (g : G) : Option (Int32) := Option.bind (fA_Plan_planeNamed a1 g) fun x1 => lj (α := Unit) (fun b2 => some 1) fun J2 => (if x1 = (-1) then Option.bind (fA_Plan_placeOf_2 a1 (g.1 1506) g) fun x3 => (if x3 = (-1) then Option.bind (fA_Plan_placeOf_3 a1 (g.1 1507) g) fun x4 => (if x4 = (-1) then some 0 else J2 ()) else J2 ()) else J2 ())
set_option maxRecDepth 20000 in
set_option maxHeartbeats 4000000 in
theorem ok_fA_Plan_hasName (E : Ev) (a1 : Int32) (g : G)  : Ct (wCA E) yX4_hasName mi_X4_hasName [.ref (E.1 15), .int a1] (fun r => (some (.int r), g)) g (fA_Plan_hasName a1 g) := by
  refine go_enter rfl rfl (Nat.le_of_ble_eq_true rfl) (lv := [(0, .ref (E.1 15)), (1, .int a1)]) rfl ?_
  unfold fA_Plan_hasName
  refine go_aload_n td_X4_hasName 0 rfl (q := 1) rfl 0 rfl ?_
  refine go_iload_n td_X4_hasName 1 rfl (q := 2) rfl 1 rfl ?_
  refine go_callV td_X4_hasName 2 rfl (q := 5) rfl (XkA E) lk_X4_76 (ok_fA_Plan_planeNamed E a1 g) ⟨rfl, rfl, Nat.le_of_ble_eq_true rfl, Nat.le_of_ble_eq_true rfl⟩ rfl rfl (Nat.le_of_ble_eq_true rfl) (Ac_15 E g) rfl (fun x1 => ?_)
  show Go (wCA E) _ _ g 5 _ [.int x1] _
  refine go_iconst td_X4_hasName 3 rfl (q := 6) rfl kc_m1 ?_
  refine go_ljX (α := Unit) (fun b2 => []) (fun b2 => []) (fun b2 => g) 41 ?_ ?_
  · intro b2
    refine go_iconst td_X4_hasName 21 rfl (q := 42) rfl kc_1 ?_
    refine go_goto td_X4_hasName 22 rfl (q := 46) rfl ?_
    exact go_zret td_X4_hasName 24 rfl rfl rfl rfl
  intro J2 hJ2
  have kJ2 : Go (wCA E) _ _ g 41 [] [] (J2 ()) := hJ2 ()
  refine go_icmp_ne 41 td_X4_hasName 4 rfl rfl (q := 9) rfl (fun _ => ?_) (fun _ => ?_)
  · refine go_pick [] (lv' := []) rfl ?_
    exact kJ2 
  · refine go_iload_n td_X4_hasName 5 rfl (q := 10) rfl 1 rfl ?_
    refine go_aload_n td_X4_hasName 6 rfl (q := 11) rfl 0 rfl ?_
    refine go_get td_X4_hasName 7 rfl (q := 14) rfl fl_X4_49 (Ac_15 E g) rfl ?_
    refine go_aload_n td_X4_hasName 8 rfl (q := 15) rfl 0 rfl ?_
    refine go_get td_X4_hasName 9 rfl (q := 18) rfl fl_X4_30 (Ac_15 E g) rfl ?_
    refine go_callS td_X4_hasName 10 rfl (q := 21) rfl (XkA E) lk_X4_80 (ok_fA_Plan_placeOf_2 E a1 (g.1 1506) g) ⟨rfl, rfl, Nat.le_of_ble_eq_true rfl, Nat.le_of_ble_eq_true rfl⟩ rfl rfl (Nat.le_of_ble_eq_true rfl) (fun x3 => ?_)
    show Go (wCA E) _ _ g 21 _ [.int x3] _
    refine go_iconst td_X4_hasName 11 rfl (q := 22) rfl kc_m1 ?_
    refine go_icmp_ne 41 td_X4_hasName 12 rfl rfl (q := 25) rfl (fun _ => ?_) (fun _ => ?_)
    · refine go_pick [] (lv' := []) rfl ?_
      exact kJ2 
    · refine go_iload_n td_X4_hasName 13 rfl (q := 26) rfl 1 rfl ?_
      refine go_aload_n td_X4_hasName 14 rfl (q := 27) rfl 0 rfl ?_
      refine go_get td_X4_hasName 15 rfl (q := 30) rfl fl_X4_55 (Ac_15 E g) rfl ?_
      refine go_aload_n td_X4_hasName 16 rfl (q := 31) rfl 0 rfl ?_
      refine go_get td_X4_hasName 17 rfl (q := 34) rfl fl_X4_33 (Ac_15 E g) rfl ?_
      refine go_callS td_X4_hasName 18 rfl (q := 37) rfl (XkA E) lk_X4_80 (ok_fA_Plan_placeOf_3 E a1 (g.1 1507) g) ⟨rfl, rfl, Nat.le_of_ble_eq_true rfl, Nat.le_of_ble_eq_true rfl⟩ rfl rfl (Nat.le_of_ble_eq_true rfl) (fun x4 => ?_)
      show Go (wCA E) _ _ g 37 _ [.int x4] _
      refine go_iconst td_X4_hasName 19 rfl (q := 38) rfl kc_m1 ?_
      refine go_icmp_eq 45 td_X4_hasName 20 rfl rfl (q := 41) rfl (fun _ => ?_) (fun _ => ?_)
      · refine go_iconst td_X4_hasName 23 rfl (q := 46) rfl kc_0 ?_
        exact go_zret td_X4_hasName 24 rfl rfl rfl rfl
      · refine go_pick [] (lv' := []) rfl ?_
        exact kJ2 
def fA_Reader_isNew (g : G) : Option (Int32 × G) := Option.bind (fA_Plan_hasName (g.1 3508) g) fun x1 => lj (α := G) (fun b2 => some (1, b2)) fun J2 => (if x1 = 0 then J2 g else Option.bind (fA_Reader_fail 3 (g.1 3507) g) fun x3 => (if x3.1 = 0 then some (0, x3.2) else J2 x3.2))
set_option maxRecDepth 20000 in
set_option maxHeartbeats 4000000 in
theorem ok_fA_Reader_isNew (E : Ev)  (g : G)  : Ct (wCA E) yX5_isNew mi_X5_isNew [.ref (E.1 35)] (fun r => (some (.int r.1), r.2)) g (fA_Reader_isNew g) := by
  refine go_enter rfl rfl (Nat.le_of_ble_eq_true rfl) (lv := [(0, .ref (E.1 35))]) rfl ?_
  unfold fA_Reader_isNew
  refine go_aload_n td_X5_isNew 0 rfl (q := 1) rfl 0 rfl ?_
  refine go_get td_X5_isNew 1 rfl (q := 4) rfl fl_X5_44 (Ac_35 E g) rfl ?_
  refine go_aload_n td_X5_isNew 2 rfl (q := 5) rfl 0 rfl ?_
  refine go_get td_X5_isNew 3 rfl (q := 8) rfl fl_X5_27 (Ac_35 E g) rfl ?_
  refine go_callV td_X5_isNew 4 rfl (q := 11) rfl (XkA E) lk_X5_217 (ok_fA_Plan_hasName E (g.1 3508) g) ⟨rfl, rfl, Nat.le_of_ble_eq_true rfl, Nat.le_of_ble_eq_true rfl⟩ rfl rfl (Nat.le_of_ble_eq_true rfl) (Ac_15 E g) rfl (fun x1 => ?_)
  show Go (wCA E) _ _ g 11 _ [.int x1] _
  refine go_ljX (α := G) (fun b2 => []) (fun b2 => []) (fun b2 => b2) 26 ?_ ?_
  · intro b2
    refine go_iconst td_X5_isNew 12 rfl (q := 27) rfl kc_1 ?_
    refine go_goto td_X5_isNew 13 rfl (q := 31) rfl ?_
    exact go_zret td_X5_isNew 15 rfl rfl rfl rfl
  intro J2 hJ2
  have kJ2 : ∀ (u2_0 : G), Go (wCA E) _ _ u2_0 26 [] [] (J2 u2_0) := fun u2_0 => hJ2 u2_0
  refine go_if_eq 26 td_X5_isNew 5 rfl rfl (q := 14) rfl (fun _ => ?_) (fun _ => ?_)
  · refine go_pick [] (lv' := []) rfl ?_
    exact kJ2 g
  · refine go_aload_n td_X5_isNew 6 rfl (q := 15) rfl 0 rfl ?_
    refine go_iconst td_X5_isNew 7 rfl (q := 16) rfl kc_3 ?_
    refine go_aload_n td_X5_isNew 8 rfl (q := 17) rfl 0 rfl ?_
    refine go_get td_X5_isNew 9 rfl (q := 20) rfl fl_X5_24 (Ac_35 E g) rfl ?_
    refine go_callV td_X5_isNew 10 rfl (q := 23) rfl (XkA E) lk_X5_97 (ok_fA_Reader_fail E 3 (g.1 3507) g) ⟨rfl, rfl, Nat.le_of_ble_eq_true rfl, Nat.le_of_ble_eq_true rfl⟩ rfl rfl (Nat.le_of_ble_eq_true rfl) (Ac_35 E g) rfl (fun x3 => ?_)
    show Go (wCA E) _ _ x3.2 23 _ [.int x3.1] _
    refine go_if_eq 30 td_X5_isNew 11 rfl rfl (q := 26) rfl (fun _ => ?_) (fun _ => ?_)
    · refine go_iconst td_X5_isNew 14 rfl (q := 31) rfl kc_0 ?_
      exact go_zret td_X5_isNew 15 rfl rfl rfl rfl
    · refine go_pick [] (lv' := []) rfl ?_
      exact kJ2 x3.2
def fA_Reader_readSite (g : G) : Option (Int32 × G) := bv (g.1 1507) fun x1 => (if x1 < 6 then Option.bind (fA_Reader_takeName g) fun x2 => (if x2.1 = 0 then some (0, x2.2) else Option.bind (fA_Reader_isNew x2.2) fun x3 => (if x3.1 = 0 then some (0, x3.2) else ck 6 x1 (bv (sA x3.2 22 (x1 : Int32).toNatClampNeg (x3.2.1 3508)) fun g4 => Option.bind (fA_Reader_takeWord 12 g4) fun x5 => (if x5.1 = 0 then some (0, x5.2) else Option.bind (fA_Reader_takeNumber 0 ((x5.2.1 1500) - 1) x5.2) fun x6 => (if x6.1 = 0 then some (0, x6.2) else ck 6 x1 (bv (sA x6.2 23 (x1 : Int32).toNatClampNeg (x6.2.1 3510)) fun g7 => Option.bind (fA_Reader_takeNumber 0 ((g7.1 1501) - 1) g7) fun x8 => (if x8.1 = 0 then some (0, x8.2) else ck 6 x1 (bv (sA x8.2 24 (x1 : Int32).toNatClampNeg (x8.2.1 3510)) fun g9 => Option.bind (fA_Reader_takeWord 13 g9) fun x10 => (if x10.1 = 0 then some (0, x10.2) else Option.bind (fA_Reader_takeNumber 0 ((x10.2.1 1502) - 1) x10.2) fun x11 => (if x11.1 = 0 then some (0, x11.2) else ck 6 x1 (bv (sA x11.2 25 (x1 : Int32).toNatClampNeg (x11.2.1 3510)) fun g12 => Option.bind (fA_Reader_takeWord 14 g12) fun x13 => (if x13.1 = 0 then some (0, x13.2) else Option.bind (fA_Reader_takeNumber ((x13.2.1 3510) + 1) (x13.2.1 1502) x13.2) fun x14 => (if x14.1 = 0 then some (0, x14.2) else ck 6 x1 (bv (sA x14.2 26 (x1 : Int32).toNatClampNeg (x14.2.1 3510)) fun g15 => bv (sS g15 1507 ((g15.1 1507) + 1)) fun g16 => Option.bind (fA_Reader_endStatement g16) fun x17 => bt x17.1 (some (x17.1, x17.2)))))))))))))))) else Option.bind (fA_Reader_fail 5 (g.1 3507) g) fun x18 => bt x18.1 (some (x18.1, x18.2)))
set_option maxRecDepth 20000 in
set_option maxHeartbeats 4000000 in
theorem ok_fA_Reader_readSite (E : Ev)  (g : G)  : Ct (wCA E) yX5_readSite mi_X5_readSite [.ref (E.1 35)] (fun r => (some (.int r.1), r.2)) g (fA_Reader_readSite g) := by
  refine go_enter rfl rfl (Nat.le_of_ble_eq_true rfl) (lv := [(0, .ref (E.1 35))]) rfl ?_
  unfold fA_Reader_readSite
  refine go_aload_n td_X5_readSite 0 rfl (q := 1) rfl 0 rfl ?_
  refine go_get td_X5_readSite 1 rfl (q := 4) rfl fl_X5_44 (Ac_35 E g) rfl ?_
  refine go_get td_X5_readSite 2 rfl (q := 7) rfl fl_X5_191 (Ac_15 E g) rfl ?_
  refine go_bvi (fun x1 => ?_)
  refine go_istore_n [(1, .int x1), (0, .ref (E.1 35))] td_X5_readSite 3 rfl (q := 8) rfl (Nat.le_of_ble_eq_true rfl) rfl ?_
  refine go_iload_n td_X5_readSite 4 rfl (q := 9) rfl 0 rfl ?_
  refine go_bipush td_X5_readSite 5 rfl (q := 11) rfl kb_6 ?_
  refine go_icmp_lt 24 td_X5_readSite 6 rfl rfl (q := 14) rfl (fun _ => ?_) (fun _ => ?_)
  · refine go_aload_n td_X5_readSite 13 rfl (q := 25) rfl 1 rfl ?_
    refine go_callV td_X5_readSite 14 rfl (q := 28) rfl (XkA E) lk_X5_134 (ok_fA_Reader_takeName E g) ⟨rfl, rfl, Nat.le_of_ble_eq_true rfl, Nat.le_of_ble_eq_true rfl⟩ rfl rfl (Nat.le_of_ble_eq_true rfl) (Ac_35 E g) rfl (fun x2 => ?_)
    show Go (wCA E) _ _ x2.2 28 _ [.int x2.1] _
    refine go_if_eq 38 td_X5_readSite 15 rfl rfl (q := 31) rfl (fun _ => ?_) (fun _ => ?_)
    · refine go_iconst td_X5_readSite 19 rfl (q := 39) rfl kc_0 ?_
      exact go_zret td_X5_readSite 20 rfl rfl rfl rfl
    · refine go_aload_n td_X5_readSite 16 rfl (q := 32) rfl 1 rfl ?_
      refine go_callV td_X5_readSite 17 rfl (q := 35) rfl (XkA E) lk_X5_137 (ok_fA_Reader_isNew E x2.2) ⟨rfl, rfl, Nat.le_of_ble_eq_true rfl, Nat.le_of_ble_eq_true rfl⟩ rfl rfl (Nat.le_of_ble_eq_true rfl) (Ac_35 E x2.2) rfl (fun x3 => ?_)
      show Go (wCA E) _ _ x3.2 35 _ [.int x3.1] _
      refine go_if_ne 40 td_X5_readSite 18 rfl rfl (q := 38) rfl (fun _ => ?_) (fun _ => ?_)
      · refine go_aload_n td_X5_readSite 21 rfl (q := 41) rfl 1 rfl ?_
        refine go_get td_X5_readSite 22 rfl (q := 44) rfl fl_X5_44 (Ac_35 E x3.2) rfl ?_
        refine go_get td_X5_readSite 23 rfl (q := 47) rfl fl_X5_194 (Ac_15 E x3.2) rfl ?_
        refine go_iload_n td_X5_readSite 24 rfl (q := 48) rfl 0 rfl ?_
        refine go_aload_n td_X5_readSite 25 rfl (q := 49) rfl 1 rfl ?_
        refine go_get td_X5_readSite 26 rfl (q := 52) rfl fl_X5_27 (Ac_35 E x3.2) rfl ?_
        refine go_ast td_X5_readSite 27 rfl (q := 53) rfl (Ac_22 E x3.2) (t0 := 0) rfl (Aas_22 E x3.2 _) ?_
        refine go_bvg (fun g4 => ?_)
        refine go_aload_n td_X5_readSite 28 rfl (q := 54) rfl 1 rfl ?_
        refine go_ldcS td_X5_readSite 29 rfl (q := 56) rfl (sr_X5_197 E) ?_
        refine go_callV td_X5_readSite 30 rfl (q := 59) rfl (XkA E) lk_X5_109 (ok_fA_Reader_takeWord E 12 g4 (by decide)) ⟨rfl, rfl, Nat.le_of_ble_eq_true rfl, Nat.le_of_ble_eq_true rfl⟩ rfl rfl (Nat.le_of_ble_eq_true rfl) (Ac_35 E g4) rfl (fun x5 => ?_)
        show Go (wCA E) _ _ x5.2 59 _ [.int x5.1] _
        refine go_if_eq 79 td_X5_readSite 31 rfl rfl (q := 62) rfl (fun _ => ?_) (fun _ => ?_)
        · refine go_iconst td_X5_readSite 41 rfl (q := 80) rfl kc_0 ?_
          exact go_zret td_X5_readSite 42 rfl rfl rfl rfl
        · refine go_aload_n td_X5_readSite 32 rfl (q := 63) rfl 1 rfl ?_
          refine go_iconst td_X5_readSite 33 rfl (q := 64) rfl kc_0 ?_
          refine go_aload_n td_X5_readSite 34 rfl (q := 65) rfl 1 rfl ?_
          refine go_get td_X5_readSite 35 rfl (q := 68) rfl fl_X5_44 (Ac_35 E x5.2) rfl ?_
          refine go_get td_X5_readSite 36 rfl (q := 71) rfl fl_X5_116 (Ac_15 E x5.2) rfl ?_
          refine go_iconst td_X5_readSite 37 rfl (q := 72) rfl kc_1 ?_
          refine go_isub td_X5_readSite 38 rfl (q := 73) rfl ?_
          refine go_callV td_X5_readSite 39 rfl (q := 76) rfl (XkA E) lk_X5_113 (ok_fA_Reader_takeNumber E 0 ((x5.2.1 1500) - 1) x5.2) ⟨rfl, rfl, Nat.le_of_ble_eq_true rfl, Nat.le_of_ble_eq_true rfl⟩ rfl rfl (Nat.le_of_ble_eq_true rfl) (Ac_35 E x5.2) rfl (fun x6 => ?_)
          show Go (wCA E) _ _ x6.2 76 _ [.int x6.1] _
          refine go_if_ne 81 td_X5_readSite 40 rfl rfl (q := 79) rfl (fun _ => ?_) (fun _ => ?_)
          · refine go_aload_n td_X5_readSite 43 rfl (q := 82) rfl 1 rfl ?_
            refine go_get td_X5_readSite 44 rfl (q := 85) rfl fl_X5_44 (Ac_35 E x6.2) rfl ?_
            refine go_get td_X5_readSite 45 rfl (q := 88) rfl fl_X5_198 (Ac_15 E x6.2) rfl ?_
            refine go_iload_n td_X5_readSite 46 rfl (q := 89) rfl 0 rfl ?_
            refine go_aload_n td_X5_readSite 47 rfl (q := 90) rfl 1 rfl ?_
            refine go_get td_X5_readSite 48 rfl (q := 93) rfl fl_X5_33 (Ac_35 E x6.2) rfl ?_
            refine go_ast td_X5_readSite 49 rfl (q := 94) rfl (Ac_23 E x6.2) (t0 := 0) rfl (Aas_23 E x6.2 _) ?_
            refine go_bvg (fun g7 => ?_)
            refine go_aload_n td_X5_readSite 50 rfl (q := 95) rfl 1 rfl ?_
            refine go_iconst td_X5_readSite 51 rfl (q := 96) rfl kc_0 ?_
            refine go_aload_n td_X5_readSite 52 rfl (q := 97) rfl 1 rfl ?_
            refine go_get td_X5_readSite 53 rfl (q := 100) rfl fl_X5_44 (Ac_35 E g7) rfl ?_
            refine go_get td_X5_readSite 54 rfl (q := 103) rfl fl_X5_121 (Ac_15 E g7) rfl ?_
            refine go_iconst td_X5_readSite 55 rfl (q := 104) rfl kc_1 ?_
            refine go_isub td_X5_readSite 56 rfl (q := 105) rfl ?_
            refine go_callV td_X5_readSite 57 rfl (q := 108) rfl (XkA E) lk_X5_113 (ok_fA_Reader_takeNumber E 0 ((g7.1 1501) - 1) g7) ⟨rfl, rfl, Nat.le_of_ble_eq_true rfl, Nat.le_of_ble_eq_true rfl⟩ rfl rfl (Nat.le_of_ble_eq_true rfl) (Ac_35 E g7) rfl (fun x8 => ?_)
            show Go (wCA E) _ _ x8.2 108 _ [.int x8.1] _
            refine go_if_ne 113 td_X5_readSite 58 rfl rfl (q := 111) rfl (fun _ => ?_) (fun _ => ?_)
            · refine go_aload_n td_X5_readSite 61 rfl (q := 114) rfl 1 rfl ?_
              refine go_get td_X5_readSite 62 rfl (q := 117) rfl fl_X5_44 (Ac_35 E x8.2) rfl ?_
              refine go_get td_X5_readSite 63 rfl (q := 120) rfl fl_X5_201 (Ac_15 E x8.2) rfl ?_
              refine go_iload_n td_X5_readSite 64 rfl (q := 121) rfl 0 rfl ?_
              refine go_aload_n td_X5_readSite 65 rfl (q := 122) rfl 1 rfl ?_
              refine go_get td_X5_readSite 66 rfl (q := 125) rfl fl_X5_33 (Ac_35 E x8.2) rfl ?_
              refine go_ast td_X5_readSite 67 rfl (q := 126) rfl (Ac_24 E x8.2) (t0 := 0) rfl (Aas_24 E x8.2 _) ?_
              refine go_bvg (fun g9 => ?_)
              refine go_aload_n td_X5_readSite 68 rfl (q := 127) rfl 1 rfl ?_
              refine go_ldcS td_X5_readSite 69 rfl (q := 129) rfl (sr_X5_204 E) ?_
              refine go_callV td_X5_readSite 70 rfl (q := 132) rfl (XkA E) lk_X5_109 (ok_fA_Reader_takeWord E 13 g9 (by decide)) ⟨rfl, rfl, Nat.le_of_ble_eq_true rfl, Nat.le_of_ble_eq_true rfl⟩ rfl rfl (Nat.le_of_ble_eq_true rfl) (Ac_35 E g9) rfl (fun x10 => ?_)
              show Go (wCA E) _ _ x10.2 132 _ [.int x10.1] _
              refine go_if_eq 152 td_X5_readSite 71 rfl rfl (q := 135) rfl (fun _ => ?_) (fun _ => ?_)
              · refine go_iconst td_X5_readSite 81 rfl (q := 153) rfl kc_0 ?_
                exact go_zret td_X5_readSite 82 rfl rfl rfl rfl
              · refine go_aload_n td_X5_readSite 72 rfl (q := 136) rfl 1 rfl ?_
                refine go_iconst td_X5_readSite 73 rfl (q := 137) rfl kc_0 ?_
                refine go_aload_n td_X5_readSite 74 rfl (q := 138) rfl 1 rfl ?_
                refine go_get td_X5_readSite 75 rfl (q := 141) rfl fl_X5_44 (Ac_35 E x10.2) rfl ?_
                refine go_get td_X5_readSite 76 rfl (q := 144) rfl fl_X5_126 (Ac_15 E x10.2) rfl ?_
                refine go_iconst td_X5_readSite 77 rfl (q := 145) rfl kc_1 ?_
                refine go_isub td_X5_readSite 78 rfl (q := 146) rfl ?_
                refine go_callV td_X5_readSite 79 rfl (q := 149) rfl (XkA E) lk_X5_113 (ok_fA_Reader_takeNumber E 0 ((x10.2.1 1502) - 1) x10.2) ⟨rfl, rfl, Nat.le_of_ble_eq_true rfl, Nat.le_of_ble_eq_true rfl⟩ rfl rfl (Nat.le_of_ble_eq_true rfl) (Ac_35 E x10.2) rfl (fun x11 => ?_)
                show Go (wCA E) _ _ x11.2 149 _ [.int x11.1] _
                refine go_if_ne 154 td_X5_readSite 80 rfl rfl (q := 152) rfl (fun _ => ?_) (fun _ => ?_)
                · refine go_aload_n td_X5_readSite 83 rfl (q := 155) rfl 1 rfl ?_
                  refine go_get td_X5_readSite 84 rfl (q := 158) rfl fl_X5_44 (Ac_35 E x11.2) rfl ?_
                  refine go_get td_X5_readSite 85 rfl (q := 161) rfl fl_X5_206 (Ac_15 E x11.2) rfl ?_
                  refine go_iload_n td_X5_readSite 86 rfl (q := 162) rfl 0 rfl ?_
                  refine go_aload_n td_X5_readSite 87 rfl (q := 163) rfl 1 rfl ?_
                  refine go_get td_X5_readSite 88 rfl (q := 166) rfl fl_X5_33 (Ac_35 E x11.2) rfl ?_
                  refine go_ast td_X5_readSite 89 rfl (q := 167) rfl (Ac_25 E x11.2) (t0 := 0) rfl (Aas_25 E x11.2 _) ?_
                  refine go_bvg (fun g12 => ?_)
                  refine go_aload_n td_X5_readSite 90 rfl (q := 168) rfl 1 rfl ?_
                  refine go_ldcS td_X5_readSite 91 rfl (q := 170) rfl (sr_X5_209 E) ?_
                  refine go_callV td_X5_readSite 92 rfl (q := 173) rfl (XkA E) lk_X5_109 (ok_fA_Reader_takeWord E 14 g12 (by decide)) ⟨rfl, rfl, Nat.le_of_ble_eq_true rfl, Nat.le_of_ble_eq_true rfl⟩ rfl rfl (Nat.le_of_ble_eq_true rfl) (Ac_35 E g12) rfl (fun x13 => ?_)
                  show Go (wCA E) _ _ x13.2 173 _ [.int x13.1] _
                  refine go_if_eq 196 td_X5_readSite 93 rfl rfl (q := 176) rfl (fun _ => ?_) (fun _ => ?_)
                  · refine go_iconst td_X5_readSite 104 rfl (q := 197) rfl kc_0 ?_
                    exact go_zret td_X5_readSite 105 rfl rfl rfl rfl
                  · refine go_aload_n td_X5_readSite 94 rfl (q := 177) rfl 1 rfl ?_
                    refine go_aload_n td_X5_readSite 95 rfl (q := 178) rfl 1 rfl ?_
                    refine go_get td_X5_readSite 96 rfl (q := 181) rfl fl_X5_33 (Ac_35 E x13.2) rfl ?_
                    refine go_iconst td_X5_readSite 97 rfl (q := 182) rfl kc_1 ?_
                    refine go_iadd td_X5_readSite 98 rfl (q := 183) rfl ?_
                    refine go_aload_n td_X5_readSite 99 rfl (q := 184) rfl 1 rfl ?_
                    refine go_get td_X5_readSite 100 rfl (q := 187) rfl fl_X5_44 (Ac_35 E x13.2) rfl ?_
                    refine go_get td_X5_readSite 101 rfl (q := 190) rfl fl_X5_126 (Ac_15 E x13.2) rfl ?_
                    refine go_callV td_X5_readSite 102 rfl (q := 193) rfl (XkA E) lk_X5_113 (ok_fA_Reader_takeNumber E ((x13.2.1 3510) + 1) (x13.2.1 1502) x13.2) ⟨rfl, rfl, Nat.le_of_ble_eq_true rfl, Nat.le_of_ble_eq_true rfl⟩ rfl rfl (Nat.le_of_ble_eq_true rfl) (Ac_35 E x13.2) rfl (fun x14 => ?_)
                    show Go (wCA E) _ _ x14.2 193 _ [.int x14.1] _
                    refine go_if_ne 198 td_X5_readSite 103 rfl rfl (q := 196) rfl (fun _ => ?_) (fun _ => ?_)
                    · refine go_aload_n td_X5_readSite 106 rfl (q := 199) rfl 1 rfl ?_
                      refine go_get td_X5_readSite 107 rfl (q := 202) rfl fl_X5_44 (Ac_35 E x14.2) rfl ?_
                      refine go_get td_X5_readSite 108 rfl (q := 205) rfl fl_X5_211 (Ac_15 E x14.2) rfl ?_
                      refine go_iload_n td_X5_readSite 109 rfl (q := 206) rfl 0 rfl ?_
                      refine go_aload_n td_X5_readSite 110 rfl (q := 207) rfl 1 rfl ?_
                      refine go_get td_X5_readSite 111 rfl (q := 210) rfl fl_X5_33 (Ac_35 E x14.2) rfl ?_
                      refine go_ast td_X5_readSite 112 rfl (q := 211) rfl (Ac_26 E x14.2) (t0 := 0) rfl (Aas_26 E x14.2 _) ?_
                      refine go_bvg (fun g15 => ?_)
                      refine go_aload_n td_X5_readSite 113 rfl (q := 212) rfl 1 rfl ?_
                      refine go_get td_X5_readSite 114 rfl (q := 215) rfl fl_X5_44 (Ac_35 E g15) rfl ?_
                      refine go_dup td_X5_readSite 115 rfl (q := 216) rfl rfl ?_
                      refine go_get td_X5_readSite 116 rfl (q := 219) rfl fl_X5_191 (Ac_15 E g15) rfl ?_
                      refine go_iconst td_X5_readSite 117 rfl (q := 220) rfl kc_1 ?_
                      refine go_iadd td_X5_readSite 118 rfl (q := 221) rfl ?_
                      refine go_put td_X5_readSite 119 rfl (q := 224) rfl flp_X5_191 (Ac_15 E g15) rfl rfl (Nat.le_of_ble_eq_true rfl) (Aps_1507 E g15 ((g15.1 1507) + 1)) ?_
                      refine go_bvg (fun g16 => ?_)
                      refine go_aload_n td_X5_readSite 120 rfl (q := 225) rfl 1 rfl ?_
                      refine go_callV td_X5_readSite 121 rfl (q := 228) rfl (XkA E) lk_X5_128 (ok_fA_Reader_endStatement E g16) ⟨rfl, rfl, Nat.le_of_ble_eq_true rfl, Nat.le_of_ble_eq_true rfl⟩ rfl rfl (Nat.le_of_ble_eq_true rfl) (Ac_35 E g16) rfl (fun x17 => ?_)
                      show Go (wCA E) _ _ x17.2 228 _ [.int x17.1] _
                      exact go_zretb td_X5_readSite 122 rfl rfl rfl
                    · refine go_iconst td_X5_readSite 104 rfl (q := 197) rfl kc_0 ?_
                      exact go_zret td_X5_readSite 105 rfl rfl rfl rfl
                · refine go_iconst td_X5_readSite 81 rfl (q := 153) rfl kc_0 ?_
                  exact go_zret td_X5_readSite 82 rfl rfl rfl rfl
            · refine go_iconst td_X5_readSite 59 rfl (q := 112) rfl kc_0 ?_
              exact go_zret td_X5_readSite 60 rfl rfl rfl rfl
          · refine go_iconst td_X5_readSite 41 rfl (q := 80) rfl kc_0 ?_
            exact go_zret td_X5_readSite 42 rfl rfl rfl rfl
      · refine go_iconst td_X5_readSite 19 rfl (q := 39) rfl kc_0 ?_
        exact go_zret td_X5_readSite 20 rfl rfl rfl rfl
  · refine go_aload_n td_X5_readSite 7 rfl (q := 15) rfl 1 rfl ?_
    refine go_iconst td_X5_readSite 8 rfl (q := 16) rfl kc_5 ?_
    refine go_aload_n td_X5_readSite 9 rfl (q := 17) rfl 1 rfl ?_
    refine go_get td_X5_readSite 10 rfl (q := 20) rfl fl_X5_24 (Ac_35 E g) rfl ?_
    refine go_callV td_X5_readSite 11 rfl (q := 23) rfl (XkA E) lk_X5_97 (ok_fA_Reader_fail E 5 (g.1 3507) g) ⟨rfl, rfl, Nat.le_of_ble_eq_true rfl, Nat.le_of_ble_eq_true rfl⟩ rfl rfl (Nat.le_of_ble_eq_true rfl) (Ac_35 E g) rfl (fun x18 => ?_)
    show Go (wCA E) _ _ x18.2 23 _ [.int x18.1] _
    exact go_zretb td_X5_readSite 12 rfl rfl rfl
def fA_Reader_findPlane (g : G) : Option (Int32 × G) := Option.bind (fA_Plan_planeNamed (g.1 3508) g) fun x1 => bv (sS g 3510 x1) fun g2 => lj (α := G) (fun b3 => some (1, b3)) fun J3 => (if (g2.1 3510) = (-1) then Option.bind (fA_Reader_fail 3 (g2.1 3507) g2) fun x4 => (if x4.1 = 0 then some (0, x4.2) else J3 x4.2) else J3 g2)
set_option maxRecDepth 20000 in
set_option maxHeartbeats 4000000 in
theorem ok_fA_Reader_findPlane (E : Ev)  (g : G)  : Ct (wCA E) yX5_findPlane mi_X5_findPlane [.ref (E.1 35)] (fun r => (some (.int r.1), r.2)) g (fA_Reader_findPlane g) := by
  refine go_enter rfl rfl (Nat.le_of_ble_eq_true rfl) (lv := [(0, .ref (E.1 35))]) rfl ?_
  unfold fA_Reader_findPlane
  refine go_aload_n td_X5_findPlane 0 rfl (q := 1) rfl 0 rfl ?_
  refine go_aload_n td_X5_findPlane 1 rfl (q := 2) rfl 0 rfl ?_
  refine go_get td_X5_findPlane 2 rfl (q := 5) rfl fl_X5_44 (Ac_35 E g) rfl ?_
  refine go_aload_n td_X5_findPlane 3 rfl (q := 6) rfl 0 rfl ?_
  refine go_get td_X5_findPlane 4 rfl (q := 9) rfl fl_X5_27 (Ac_35 E g) rfl ?_
  refine go_callV td_X5_findPlane 5 rfl (q := 12) rfl (XkA E) lk_X5_221 (ok_fA_Plan_planeNamed E (g.1 3508) g) ⟨rfl, rfl, Nat.le_of_ble_eq_true rfl, Nat.le_of_ble_eq_true rfl⟩ rfl rfl (Nat.le_of_ble_eq_true rfl) (Ac_15 E g) rfl (fun x1 => ?_)
  show Go (wCA E) _ _ g 12 _ [.int x1, .ref (E.1 35)] _
  refine go_put td_X5_findPlane 6 rfl (q := 15) rfl flp_X5_33 (Ac_35 E g) rfl rfl (Nat.le_of_ble_eq_true rfl) (Aps_3510 E g x1) ?_
  refine go_bvg (fun g2 => ?_)
  refine go_aload_n td_X5_findPlane 7 rfl (q := 16) rfl 0 rfl ?_
  refine go_get td_X5_findPlane 8 rfl (q := 19) rfl fl_X5_33 (Ac_35 E g2) rfl ?_
  refine go_iconst td_X5_findPlane 9 rfl (q := 20) rfl kc_m1 ?_
  refine go_ljX (α := G) (fun b3 => []) (fun b3 => []) (fun b3 => b3) 35 ?_ ?_
  · intro b3
    refine go_iconst td_X5_findPlane 17 rfl (q := 36) rfl kc_1 ?_
    refine go_goto td_X5_findPlane 18 rfl (q := 40) rfl ?_
    exact go_zret td_X5_findPlane 20 rfl rfl rfl rfl
  intro J3 hJ3
  have kJ3 : ∀ (u3_0 : G), Go (wCA E) _ _ u3_0 35 [] [] (J3 u3_0) := fun u3_0 => hJ3 u3_0
  refine go_icmp_ne 35 td_X5_findPlane 10 rfl rfl (q := 23) rfl (fun _ => ?_) (fun _ => ?_)
  · refine go_pick [] (lv' := []) rfl ?_
    exact kJ3 g2
  · refine go_aload_n td_X5_findPlane 11 rfl (q := 24) rfl 0 rfl ?_
    refine go_iconst td_X5_findPlane 12 rfl (q := 25) rfl kc_3 ?_
    refine go_aload_n td_X5_findPlane 13 rfl (q := 26) rfl 0 rfl ?_
    refine go_get td_X5_findPlane 14 rfl (q := 29) rfl fl_X5_24 (Ac_35 E g2) rfl ?_
    refine go_callV td_X5_findPlane 15 rfl (q := 32) rfl (XkA E) lk_X5_97 (ok_fA_Reader_fail E 3 (g2.1 3507) g2) ⟨rfl, rfl, Nat.le_of_ble_eq_true rfl, Nat.le_of_ble_eq_true rfl⟩ rfl rfl (Nat.le_of_ble_eq_true rfl) (Ac_35 E g2) rfl (fun x4 => ?_)
    show Go (wCA E) _ _ x4.2 32 _ [.int x4.1] _
    refine go_if_eq 39 td_X5_findPlane 16 rfl rfl (q := 35) rfl (fun _ => ?_) (fun _ => ?_)
    · refine go_iconst td_X5_findPlane 19 rfl (q := 40) rfl kc_0 ?_
      exact go_zret td_X5_findPlane 20 rfl rfl rfl rfl
    · refine go_pick [] (lv' := []) rfl ?_
      exact kJ3 x4.2
def fA_Plan_turnOf (a1 : Int32) (g : G) : Option (Int32) := ag 8 (g.2.1 21) a1 fun x1 => ag 4 (g.2.1 19) x1 fun x2 => some x2
set_option maxRecDepth 20000 in
set_option maxHeartbeats 4000000 in
theorem ok_fA_Plan_turnOf (E : Ev) (a1 : Int32) (g : G)  : Ct (wCA E) yX4_turnOf mi_X4_turnOf [.ref (E.1 15), .int a1] (fun r => (some (.int r), g)) g (fA_Plan_turnOf a1 g) := by
  refine go_enter rfl rfl (Nat.le_of_ble_eq_true rfl) (lv := [(0, .ref (E.1 15)), (1, .int a1)]) rfl ?_
  unfold fA_Plan_turnOf
  refine go_aload_n td_X4_turnOf 0 rfl (q := 1) rfl 0 rfl ?_
  refine go_get td_X4_turnOf 1 rfl (q := 4) rfl fl_X4_46 (Ac_15 E g) rfl ?_
  refine go_aload_n td_X4_turnOf 2 rfl (q := 5) rfl 0 rfl ?_
  refine go_get td_X4_turnOf 3 rfl (q := 8) rfl fl_X4_52 (Ac_15 E g) rfl ?_
  refine go_iload_n td_X4_turnOf 4 rfl (q := 9) rfl 1 rfl ?_
  refine go_ald td_X4_turnOf 5 rfl (q := 10) rfl (Ac_21 E g) (t0 := 0) rfl (fun x1 => ?_)
  refine go_ald td_X4_turnOf 6 rfl (q := 11) rfl (Ac_19 E g) (t0 := 0) rfl (fun x2 => ?_)
  exact go_iret td_X4_turnOf 7 rfl rfl rfl
def fA_Fleet_turnOver (a1 : Int32) (g : G) : Option (G) := bv (sS g 3100 ((g.1 3100) ^^^ ((1 : Int32) <<< (a1 &&& 31)))) fun g1 => some g1
set_option maxRecDepth 20000 in
set_option maxHeartbeats 4000000 in
theorem ok_fA_Fleet_turnOver (E : Ev) (a1 : Int32) (g : G)  : Ct (wCA E) yX1_turnOver mi_X1_turnOver [.ref (E.1 31), .int a1] (fun r => (none, r)) g (fA_Fleet_turnOver a1 g) := by
  refine go_enter rfl rfl (Nat.le_of_ble_eq_true rfl) (lv := [(0, .ref (E.1 31)), (1, .int a1)]) rfl ?_
  unfold fA_Fleet_turnOver
  refine go_aload_n td_X1_turnOver 0 rfl (q := 1) rfl 0 rfl ?_
  refine go_dup td_X1_turnOver 1 rfl (q := 2) rfl rfl ?_
  refine go_get td_X1_turnOver 2 rfl (q := 5) rfl fl_X1_9 (Ac_31 E g) rfl ?_
  refine go_iconst td_X1_turnOver 3 rfl (q := 6) rfl kc_1 ?_
  refine go_iload_n td_X1_turnOver 4 rfl (q := 7) rfl 1 rfl ?_
  refine go_ishl td_X1_turnOver 5 rfl (q := 8) rfl ?_
  refine go_ixor td_X1_turnOver 6 rfl (q := 9) rfl ?_
  refine go_put td_X1_turnOver 7 rfl (q := 12) rfl flp_X1_9 (Ac_31 E g) rfl rfl (Nat.le_of_ble_eq_true rfl) (Aps_3100 E g ((g.1 3100) ^^^ ((1 : Int32) <<< (a1 &&& 31)))) ?_
  refine go_bvg (fun g1 => ?_)
  exact go_vret td_X1_turnOver 8 rfl rfl rfl
def fA_Reader_readCraft (g : G) : Option (Int32 × G) := bv (g.1 1506) fun x1 => (if x1 < 8 then Option.bind (fA_Reader_takeName g) fun x2 => (if x2.1 = 0 then some (0, x2.2) else Option.bind (fA_Reader_isNew x2.2) fun x3 => (if x3.1 = 0 then some (0, x3.2) else ck 8 x1 (bv (sA x3.2 20 (x1 : Int32).toNatClampNeg (x3.2.1 3508)) fun g4 => Option.bind (fA_Reader_takeWord 8 g4) fun x5 => (if x5.1 = 0 then some (0, x5.2) else Option.bind (fA_Reader_takeName x5.2) fun x6 => (if x6.1 = 0 then some (0, x6.2) else Option.bind (fA_Reader_findPlane x6.2) fun x7 => (if x7.1 = 0 then some (0, x7.2) else ck 8 x1 (bv (sA x7.2 21 (x1 : Int32).toNatClampNeg (x7.2.1 3510)) fun g8 => Option.bind (fA_Reader_takeWord 9 g8) fun x9 => (if x9.1 = 0 then some (0, x9.2) else Option.bind (fA_Plan_turnOf x1 x9.2) fun x10 => Option.bind (fA_Reader_takeNumber 0 (x10 - 1) x9.2) fun x11 => (if x11.1 = 0 then some (0, x11.2) else ck 8 x1 (bv (sA x11.2 33 (x1 : Int32).toNatClampNeg (x11.2.1 3510)) fun g12 => Option.bind (fA_Reader_takeWord 10 g12) fun x13 => (if x13.1 = 0 then some (0, x13.2) else Option.bind (fA_Reader_takeNumber 0 12 x13.2) fun x14 => (if x14.1 = 0 then some (0, x14.2) else ck 8 x1 (bv (sA x14.2 34 (x1 : Int32).toNatClampNeg (x14.2.1 3510)) fun g15 => Option.bind (fA_Fleet_turnOver x1 g15) fun x16 => bv (sS x16 1506 ((x16.1 1506) + 1)) fun g17 => Option.bind (fA_Reader_endStatement g17) fun x18 => bt x18.1 (some (x18.1, x18.2))))))))))))))) else Option.bind (fA_Reader_fail 5 (g.1 3507) g) fun x19 => bt x19.1 (some (x19.1, x19.2)))
set_option maxRecDepth 20000 in
set_option maxHeartbeats 4000000 in
theorem ok_fA_Reader_readCraft (E : Ev)  (g : G)  : Ct (wCA E) yX5_readCraft mi_X5_readCraft [.ref (E.1 35)] (fun r => (some (.int r.1), r.2)) g (fA_Reader_readCraft g) := by
  refine go_enter rfl rfl (Nat.le_of_ble_eq_true rfl) (lv := [(0, .ref (E.1 35))]) rfl ?_
  unfold fA_Reader_readCraft
  refine go_aload_n td_X5_readCraft 0 rfl (q := 1) rfl 0 rfl ?_
  refine go_get td_X5_readCraft 1 rfl (q := 4) rfl fl_X5_44 (Ac_35 E g) rfl ?_
  refine go_get td_X5_readCraft 2 rfl (q := 7) rfl fl_X5_159 (Ac_15 E g) rfl ?_
  refine go_bvi (fun x1 => ?_)
  refine go_istore_n [(1, .int x1), (0, .ref (E.1 35))] td_X5_readCraft 3 rfl (q := 8) rfl (Nat.le_of_ble_eq_true rfl) rfl ?_
  refine go_iload_n td_X5_readCraft 4 rfl (q := 9) rfl 0 rfl ?_
  refine go_bipush td_X5_readCraft 5 rfl (q := 11) rfl kb_8 ?_
  refine go_icmp_lt 24 td_X5_readCraft 6 rfl rfl (q := 14) rfl (fun _ => ?_) (fun _ => ?_)
  · refine go_aload_n td_X5_readCraft 13 rfl (q := 25) rfl 1 rfl ?_
    refine go_callV td_X5_readCraft 14 rfl (q := 28) rfl (XkA E) lk_X5_134 (ok_fA_Reader_takeName E g) ⟨rfl, rfl, Nat.le_of_ble_eq_true rfl, Nat.le_of_ble_eq_true rfl⟩ rfl rfl (Nat.le_of_ble_eq_true rfl) (Ac_35 E g) rfl (fun x2 => ?_)
    show Go (wCA E) _ _ x2.2 28 _ [.int x2.1] _
    refine go_if_eq 38 td_X5_readCraft 15 rfl rfl (q := 31) rfl (fun _ => ?_) (fun _ => ?_)
    · refine go_iconst td_X5_readCraft 19 rfl (q := 39) rfl kc_0 ?_
      exact go_zret td_X5_readCraft 20 rfl rfl rfl rfl
    · refine go_aload_n td_X5_readCraft 16 rfl (q := 32) rfl 1 rfl ?_
      refine go_callV td_X5_readCraft 17 rfl (q := 35) rfl (XkA E) lk_X5_137 (ok_fA_Reader_isNew E x2.2) ⟨rfl, rfl, Nat.le_of_ble_eq_true rfl, Nat.le_of_ble_eq_true rfl⟩ rfl rfl (Nat.le_of_ble_eq_true rfl) (Ac_35 E x2.2) rfl (fun x3 => ?_)
      show Go (wCA E) _ _ x3.2 35 _ [.int x3.1] _
      refine go_if_ne 40 td_X5_readCraft 18 rfl rfl (q := 38) rfl (fun _ => ?_) (fun _ => ?_)
      · refine go_aload_n td_X5_readCraft 21 rfl (q := 41) rfl 1 rfl ?_
        refine go_get td_X5_readCraft 22 rfl (q := 44) rfl fl_X5_44 (Ac_35 E x3.2) rfl ?_
        refine go_get td_X5_readCraft 23 rfl (q := 47) rfl fl_X5_162 (Ac_15 E x3.2) rfl ?_
        refine go_iload_n td_X5_readCraft 24 rfl (q := 48) rfl 0 rfl ?_
        refine go_aload_n td_X5_readCraft 25 rfl (q := 49) rfl 1 rfl ?_
        refine go_get td_X5_readCraft 26 rfl (q := 52) rfl fl_X5_27 (Ac_35 E x3.2) rfl ?_
        refine go_ast td_X5_readCraft 27 rfl (q := 53) rfl (Ac_20 E x3.2) (t0 := 0) rfl (Aas_20 E x3.2 _) ?_
        refine go_bvg (fun g4 => ?_)
        refine go_aload_n td_X5_readCraft 28 rfl (q := 54) rfl 1 rfl ?_
        refine go_ldcS td_X5_readCraft 29 rfl (q := 56) rfl (sr_X5_165 E) ?_
        refine go_callV td_X5_readCraft 30 rfl (q := 59) rfl (XkA E) lk_X5_109 (ok_fA_Reader_takeWord E 8 g4 (by decide)) ⟨rfl, rfl, Nat.le_of_ble_eq_true rfl, Nat.le_of_ble_eq_true rfl⟩ rfl rfl (Nat.le_of_ble_eq_true rfl) (Ac_35 E g4) rfl (fun x5 => ?_)
        show Go (wCA E) _ _ x5.2 59 _ [.int x5.1] _
        refine go_if_eq 76 td_X5_readCraft 31 rfl rfl (q := 62) rfl (fun _ => ?_) (fun _ => ?_)
        · refine go_iconst td_X5_readCraft 38 rfl (q := 77) rfl kc_0 ?_
          exact go_zret td_X5_readCraft 39 rfl rfl rfl rfl
        · refine go_aload_n td_X5_readCraft 32 rfl (q := 63) rfl 1 rfl ?_
          refine go_callV td_X5_readCraft 33 rfl (q := 66) rfl (XkA E) lk_X5_134 (ok_fA_Reader_takeName E x5.2) ⟨rfl, rfl, Nat.le_of_ble_eq_true rfl, Nat.le_of_ble_eq_true rfl⟩ rfl rfl (Nat.le_of_ble_eq_true rfl) (Ac_35 E x5.2) rfl (fun x6 => ?_)
          show Go (wCA E) _ _ x6.2 66 _ [.int x6.1] _
          refine go_if_eq 76 td_X5_readCraft 34 rfl rfl (q := 69) rfl (fun _ => ?_) (fun _ => ?_)
          · refine go_iconst td_X5_readCraft 38 rfl (q := 77) rfl kc_0 ?_
            exact go_zret td_X5_readCraft 39 rfl rfl rfl rfl
          · refine go_aload_n td_X5_readCraft 35 rfl (q := 70) rfl 1 rfl ?_
            refine go_callV td_X5_readCraft 36 rfl (q := 73) rfl (XkA E) lk_X5_167 (ok_fA_Reader_findPlane E x6.2) ⟨rfl, rfl, Nat.le_of_ble_eq_true rfl, Nat.le_of_ble_eq_true rfl⟩ rfl rfl (Nat.le_of_ble_eq_true rfl) (Ac_35 E x6.2) rfl (fun x7 => ?_)
            show Go (wCA E) _ _ x7.2 73 _ [.int x7.1] _
            refine go_if_ne 78 td_X5_readCraft 37 rfl rfl (q := 76) rfl (fun _ => ?_) (fun _ => ?_)
            · refine go_aload_n td_X5_readCraft 40 rfl (q := 79) rfl 1 rfl ?_
              refine go_get td_X5_readCraft 41 rfl (q := 82) rfl fl_X5_44 (Ac_35 E x7.2) rfl ?_
              refine go_get td_X5_readCraft 42 rfl (q := 85) rfl fl_X5_170 (Ac_15 E x7.2) rfl ?_
              refine go_iload_n td_X5_readCraft 43 rfl (q := 86) rfl 0 rfl ?_
              refine go_aload_n td_X5_readCraft 44 rfl (q := 87) rfl 1 rfl ?_
              refine go_get td_X5_readCraft 45 rfl (q := 90) rfl fl_X5_33 (Ac_35 E x7.2) rfl ?_
              refine go_ast td_X5_readCraft 46 rfl (q := 91) rfl (Ac_21 E x7.2) (t0 := 0) rfl (Aas_21 E x7.2 _) ?_
              refine go_bvg (fun g8 => ?_)
              refine go_aload_n td_X5_readCraft 47 rfl (q := 92) rfl 1 rfl ?_
              refine go_ldcS td_X5_readCraft 48 rfl (q := 94) rfl (sr_X5_173 E) ?_
              refine go_callV td_X5_readCraft 49 rfl (q := 97) rfl (XkA E) lk_X5_109 (ok_fA_Reader_takeWord E 9 g8 (by decide)) ⟨rfl, rfl, Nat.le_of_ble_eq_true rfl, Nat.le_of_ble_eq_true rfl⟩ rfl rfl (Nat.le_of_ble_eq_true rfl) (Ac_35 E g8) rfl (fun x9 => ?_)
              show Go (wCA E) _ _ x9.2 97 _ [.int x9.1] _
              refine go_if_eq 118 td_X5_readCraft 50 rfl rfl (q := 100) rfl (fun _ => ?_) (fun _ => ?_)
              · refine go_iconst td_X5_readCraft 61 rfl (q := 119) rfl kc_0 ?_
                exact go_zret td_X5_readCraft 62 rfl rfl rfl rfl
              · refine go_aload_n td_X5_readCraft 51 rfl (q := 101) rfl 1 rfl ?_
                refine go_iconst td_X5_readCraft 52 rfl (q := 102) rfl kc_0 ?_
                refine go_aload_n td_X5_readCraft 53 rfl (q := 103) rfl 1 rfl ?_
                refine go_get td_X5_readCraft 54 rfl (q := 106) rfl fl_X5_44 (Ac_35 E x9.2) rfl ?_
                refine go_iload_n td_X5_readCraft 55 rfl (q := 107) rfl 0 rfl ?_
                refine go_callV td_X5_readCraft 56 rfl (q := 110) rfl (XkA E) lk_X5_175 (ok_fA_Plan_turnOf E x1 x9.2) ⟨rfl, rfl, Nat.le_of_ble_eq_true rfl, Nat.le_of_ble_eq_true rfl⟩ rfl rfl (Nat.le_of_ble_eq_true rfl) (Ac_15 E x9.2) rfl (fun x10 => ?_)
                show Go (wCA E) _ _ x9.2 110 _ [.int x10, .int 0, .ref (E.1 35)] _
                refine go_iconst td_X5_readCraft 57 rfl (q := 111) rfl kc_1 ?_
                refine go_isub td_X5_readCraft 58 rfl (q := 112) rfl ?_
                refine go_callV td_X5_readCraft 59 rfl (q := 115) rfl (XkA E) lk_X5_113 (ok_fA_Reader_takeNumber E 0 (x10 - 1) x9.2) ⟨rfl, rfl, Nat.le_of_ble_eq_true rfl, Nat.le_of_ble_eq_true rfl⟩ rfl rfl (Nat.le_of_ble_eq_true rfl) (Ac_35 E x9.2) rfl (fun x11 => ?_)
                show Go (wCA E) _ _ x11.2 115 _ [.int x11.1] _
                refine go_if_ne 120 td_X5_readCraft 60 rfl rfl (q := 118) rfl (fun _ => ?_) (fun _ => ?_)
                · refine go_aload_n td_X5_readCraft 63 rfl (q := 121) rfl 1 rfl ?_
                  refine go_get td_X5_readCraft 64 rfl (q := 124) rfl fl_X5_48 (Ac_35 E x11.2) rfl ?_
                  refine go_get td_X5_readCraft 65 rfl (q := 127) rfl fl_X5_179 (Ac_31 E x11.2) rfl ?_
                  refine go_iload_n td_X5_readCraft 66 rfl (q := 128) rfl 0 rfl ?_
                  refine go_aload_n td_X5_readCraft 67 rfl (q := 129) rfl 1 rfl ?_
                  refine go_get td_X5_readCraft 68 rfl (q := 132) rfl fl_X5_33 (Ac_35 E x11.2) rfl ?_
                  refine go_ast td_X5_readCraft 69 rfl (q := 133) rfl (Ac_33 E x11.2) (t0 := 0) rfl (Aas_33 E x11.2 _) ?_
                  refine go_bvg (fun g12 => ?_)
                  refine go_aload_n td_X5_readCraft 70 rfl (q := 134) rfl 1 rfl ?_
                  refine go_ldcS td_X5_readCraft 71 rfl (q := 136) rfl (sr_X5_182 E) ?_
                  refine go_callV td_X5_readCraft 72 rfl (q := 139) rfl (XkA E) lk_X5_109 (ok_fA_Reader_takeWord E 10 g12 (by decide)) ⟨rfl, rfl, Nat.le_of_ble_eq_true rfl, Nat.le_of_ble_eq_true rfl⟩ rfl rfl (Nat.le_of_ble_eq_true rfl) (Ac_35 E g12) rfl (fun x13 => ?_)
                  show Go (wCA E) _ _ x13.2 139 _ [.int x13.1] _
                  refine go_if_eq 152 td_X5_readCraft 73 rfl rfl (q := 142) rfl (fun _ => ?_) (fun _ => ?_)
                  · refine go_iconst td_X5_readCraft 79 rfl (q := 153) rfl kc_0 ?_
                    exact go_zret td_X5_readCraft 80 rfl rfl rfl rfl
                  · refine go_aload_n td_X5_readCraft 74 rfl (q := 143) rfl 1 rfl ?_
                    refine go_iconst td_X5_readCraft 75 rfl (q := 144) rfl kc_0 ?_
                    refine go_bipush td_X5_readCraft 76 rfl (q := 146) rfl kb_12 ?_
                    refine go_callV td_X5_readCraft 77 rfl (q := 149) rfl (XkA E) lk_X5_113 (ok_fA_Reader_takeNumber E 0 12 x13.2) ⟨rfl, rfl, Nat.le_of_ble_eq_true rfl, Nat.le_of_ble_eq_true rfl⟩ rfl rfl (Nat.le_of_ble_eq_true rfl) (Ac_35 E x13.2) rfl (fun x14 => ?_)
                    show Go (wCA E) _ _ x14.2 149 _ [.int x14.1] _
                    refine go_if_ne 154 td_X5_readCraft 78 rfl rfl (q := 152) rfl (fun _ => ?_) (fun _ => ?_)
                    · refine go_aload_n td_X5_readCraft 81 rfl (q := 155) rfl 1 rfl ?_
                      refine go_get td_X5_readCraft 82 rfl (q := 158) rfl fl_X5_48 (Ac_35 E x14.2) rfl ?_
                      refine go_get td_X5_readCraft 83 rfl (q := 161) rfl fl_X5_184 (Ac_31 E x14.2) rfl ?_
                      refine go_iload_n td_X5_readCraft 84 rfl (q := 162) rfl 0 rfl ?_
                      refine go_aload_n td_X5_readCraft 85 rfl (q := 163) rfl 1 rfl ?_
                      refine go_get td_X5_readCraft 86 rfl (q := 166) rfl fl_X5_33 (Ac_35 E x14.2) rfl ?_
                      refine go_ast td_X5_readCraft 87 rfl (q := 167) rfl (Ac_34 E x14.2) (t0 := 0) rfl (Aas_34 E x14.2 _) ?_
                      refine go_bvg (fun g15 => ?_)
                      refine go_aload_n td_X5_readCraft 88 rfl (q := 168) rfl 1 rfl ?_
                      refine go_get td_X5_readCraft 89 rfl (q := 171) rfl fl_X5_48 (Ac_35 E g15) rfl ?_
                      refine go_iload_n td_X5_readCraft 90 rfl (q := 172) rfl 0 rfl ?_
                      refine go_callV td_X5_readCraft 91 rfl (q := 175) rfl (XkA E) lk_X5_187 (ok_fA_Fleet_turnOver E x1 g15) ⟨rfl, rfl, Nat.le_of_ble_eq_true rfl, Nat.le_of_ble_eq_true rfl⟩ rfl rfl (Nat.le_of_ble_eq_true rfl) (Ac_31 E g15) rfl (fun x16 => ?_)
                      show Go (wCA E) _ _ x16 175 _ [] _
                      refine go_aload_n td_X5_readCraft 92 rfl (q := 176) rfl 1 rfl ?_
                      refine go_get td_X5_readCraft 93 rfl (q := 179) rfl fl_X5_44 (Ac_35 E x16) rfl ?_
                      refine go_dup td_X5_readCraft 94 rfl (q := 180) rfl rfl ?_
                      refine go_get td_X5_readCraft 95 rfl (q := 183) rfl fl_X5_159 (Ac_15 E x16) rfl ?_
                      refine go_iconst td_X5_readCraft 96 rfl (q := 184) rfl kc_1 ?_
                      refine go_iadd td_X5_readCraft 97 rfl (q := 185) rfl ?_
                      refine go_put td_X5_readCraft 98 rfl (q := 188) rfl flp_X5_159 (Ac_15 E x16) rfl rfl (Nat.le_of_ble_eq_true rfl) (Aps_1506 E x16 ((x16.1 1506) + 1)) ?_
                      refine go_bvg (fun g17 => ?_)
                      refine go_aload_n td_X5_readCraft 99 rfl (q := 189) rfl 1 rfl ?_
                      refine go_callV td_X5_readCraft 100 rfl (q := 192) rfl (XkA E) lk_X5_128 (ok_fA_Reader_endStatement E g17) ⟨rfl, rfl, Nat.le_of_ble_eq_true rfl, Nat.le_of_ble_eq_true rfl⟩ rfl rfl (Nat.le_of_ble_eq_true rfl) (Ac_35 E g17) rfl (fun x18 => ?_)
                      show Go (wCA E) _ _ x18.2 192 _ [.int x18.1] _
                      exact go_zretb td_X5_readCraft 101 rfl rfl rfl
                    · refine go_iconst td_X5_readCraft 79 rfl (q := 153) rfl kc_0 ?_
                      exact go_zret td_X5_readCraft 80 rfl rfl rfl rfl
                · refine go_iconst td_X5_readCraft 61 rfl (q := 119) rfl kc_0 ?_
                  exact go_zret td_X5_readCraft 62 rfl rfl rfl rfl
            · refine go_iconst td_X5_readCraft 38 rfl (q := 77) rfl kc_0 ?_
              exact go_zret td_X5_readCraft 39 rfl rfl rfl rfl
      · refine go_iconst td_X5_readCraft 19 rfl (q := 39) rfl kc_0 ?_
        exact go_zret td_X5_readCraft 20 rfl rfl rfl rfl
  · refine go_aload_n td_X5_readCraft 7 rfl (q := 15) rfl 1 rfl ?_
    refine go_iconst td_X5_readCraft 8 rfl (q := 16) rfl kc_5 ?_
    refine go_aload_n td_X5_readCraft 9 rfl (q := 17) rfl 1 rfl ?_
    refine go_get td_X5_readCraft 10 rfl (q := 20) rfl fl_X5_24 (Ac_35 E g) rfl ?_
    refine go_callV td_X5_readCraft 11 rfl (q := 23) rfl (XkA E) lk_X5_97 (ok_fA_Reader_fail E 5 (g.1 3507) g) ⟨rfl, rfl, Nat.le_of_ble_eq_true rfl, Nat.le_of_ble_eq_true rfl⟩ rfl rfl (Nat.le_of_ble_eq_true rfl) (Ac_35 E g) rfl (fun x19 => ?_)
    show Go (wCA E) _ _ x19.2 23 _ [.int x19.1] _
    exact go_zretb td_X5_readCraft 12 rfl rfl rfl
def fA_Reader_readPlane (g : G) : Option (Int32 × G) := bv (g.1 1505) fun x1 => (if x1 < 4 then Option.bind (fA_Reader_takeName g) fun x2 => (if x2.1 = 0 then some (0, x2.2) else Option.bind (fA_Reader_isNew x2.2) fun x3 => (if x3.1 = 0 then some (0, x3.2) else ck 4 x1 (bv (sA x3.2 17 (x1 : Int32).toNatClampNeg (x3.2.1 3508)) fun g4 => Option.bind (fA_Reader_takeWord 4 g4) fun x5 => (if x5.1 = 0 then some (0, x5.2) else Option.bind (fA_Reader_takeNumber 0 ((x5.2.1 1500) - 1) x5.2) fun x6 => (if x6.1 = 0 then some (0, x6.2) else ck 4 x1 (bv (sA x6.2 32 (x1 : Int32).toNatClampNeg (x6.2.1 3510)) fun g7 => Option.bind (fA_Reader_takeWord 5 g7) fun x8 => (if x8.1 = 0 then some (0, x8.2) else dz 2 (Option.bind (fA_Reader_takeNumber 0 ((x8.2.1 1501) / 2) x8.2) fun x9 => (if x9.1 = 0 then some (0, x9.2) else ck 4 x1 (bv (sA x9.2 18 (x1 : Int32).toNatClampNeg (x9.2.1 3510)) fun g10 => Option.bind (fA_Reader_takeWord 6 g10) fun x11 => (if x11.1 = 0 then some (0, x11.2) else Option.bind (fA_Reader_takeNumber 2 96 x11.2) fun x12 => (if x12.1 = 0 then some (0, x12.2) else ck 4 x1 (bv (sA x12.2 19 (x1 : Int32).toNatClampNeg (x12.2.1 3510)) fun g13 => bv (sS g13 1505 ((g13.1 1505) + 1)) fun g14 => Option.bind (fA_Reader_endStatement g14) fun x15 => bt x15.1 (some (x15.1, x15.2))))))))))))))) else Option.bind (fA_Reader_fail 5 (g.1 3507) g) fun x16 => bt x16.1 (some (x16.1, x16.2)))
set_option maxRecDepth 20000 in
set_option maxHeartbeats 4000000 in
theorem ok_fA_Reader_readPlane (E : Ev)  (g : G)  : Ct (wCA E) yX5_readPlane mi_X5_readPlane [.ref (E.1 35)] (fun r => (some (.int r.1), r.2)) g (fA_Reader_readPlane g) := by
  refine go_enter rfl rfl (Nat.le_of_ble_eq_true rfl) (lv := [(0, .ref (E.1 35))]) rfl ?_
  unfold fA_Reader_readPlane
  refine go_aload_n td_X5_readPlane 0 rfl (q := 1) rfl 0 rfl ?_
  refine go_get td_X5_readPlane 1 rfl (q := 4) rfl fl_X5_44 (Ac_35 E g) rfl ?_
  refine go_get td_X5_readPlane 2 rfl (q := 7) rfl fl_X5_131 (Ac_15 E g) rfl ?_
  refine go_bvi (fun x1 => ?_)
  refine go_istore_n [(1, .int x1), (0, .ref (E.1 35))] td_X5_readPlane 3 rfl (q := 8) rfl (Nat.le_of_ble_eq_true rfl) rfl ?_
  refine go_iload_n td_X5_readPlane 4 rfl (q := 9) rfl 0 rfl ?_
  refine go_iconst td_X5_readPlane 5 rfl (q := 10) rfl kc_4 ?_
  refine go_icmp_lt 23 td_X5_readPlane 6 rfl rfl (q := 13) rfl (fun _ => ?_) (fun _ => ?_)
  · refine go_aload_n td_X5_readPlane 13 rfl (q := 24) rfl 1 rfl ?_
    refine go_callV td_X5_readPlane 14 rfl (q := 27) rfl (XkA E) lk_X5_134 (ok_fA_Reader_takeName E g) ⟨rfl, rfl, Nat.le_of_ble_eq_true rfl, Nat.le_of_ble_eq_true rfl⟩ rfl rfl (Nat.le_of_ble_eq_true rfl) (Ac_35 E g) rfl (fun x2 => ?_)
    show Go (wCA E) _ _ x2.2 27 _ [.int x2.1] _
    refine go_if_eq 37 td_X5_readPlane 15 rfl rfl (q := 30) rfl (fun _ => ?_) (fun _ => ?_)
    · refine go_iconst td_X5_readPlane 19 rfl (q := 38) rfl kc_0 ?_
      exact go_zret td_X5_readPlane 20 rfl rfl rfl rfl
    · refine go_aload_n td_X5_readPlane 16 rfl (q := 31) rfl 1 rfl ?_
      refine go_callV td_X5_readPlane 17 rfl (q := 34) rfl (XkA E) lk_X5_137 (ok_fA_Reader_isNew E x2.2) ⟨rfl, rfl, Nat.le_of_ble_eq_true rfl, Nat.le_of_ble_eq_true rfl⟩ rfl rfl (Nat.le_of_ble_eq_true rfl) (Ac_35 E x2.2) rfl (fun x3 => ?_)
      show Go (wCA E) _ _ x3.2 34 _ [.int x3.1] _
      refine go_if_ne 39 td_X5_readPlane 18 rfl rfl (q := 37) rfl (fun _ => ?_) (fun _ => ?_)
      · refine go_aload_n td_X5_readPlane 21 rfl (q := 40) rfl 1 rfl ?_
        refine go_get td_X5_readPlane 22 rfl (q := 43) rfl fl_X5_44 (Ac_35 E x3.2) rfl ?_
        refine go_get td_X5_readPlane 23 rfl (q := 46) rfl fl_X5_140 (Ac_15 E x3.2) rfl ?_
        refine go_iload_n td_X5_readPlane 24 rfl (q := 47) rfl 0 rfl ?_
        refine go_aload_n td_X5_readPlane 25 rfl (q := 48) rfl 1 rfl ?_
        refine go_get td_X5_readPlane 26 rfl (q := 51) rfl fl_X5_27 (Ac_35 E x3.2) rfl ?_
        refine go_ast td_X5_readPlane 27 rfl (q := 52) rfl (Ac_17 E x3.2) (t0 := 0) rfl (Aas_17 E x3.2 _) ?_
        refine go_bvg (fun g4 => ?_)
        refine go_aload_n td_X5_readPlane 28 rfl (q := 53) rfl 1 rfl ?_
        refine go_ldcS td_X5_readPlane 29 rfl (q := 55) rfl (sr_X5_144 E) ?_
        refine go_callV td_X5_readPlane 30 rfl (q := 58) rfl (XkA E) lk_X5_109 (ok_fA_Reader_takeWord E 4 g4 (by decide)) ⟨rfl, rfl, Nat.le_of_ble_eq_true rfl, Nat.le_of_ble_eq_true rfl⟩ rfl rfl (Nat.le_of_ble_eq_true rfl) (Ac_35 E g4) rfl (fun x5 => ?_)
        show Go (wCA E) _ _ x5.2 58 _ [.int x5.1] _
        refine go_if_eq 78 td_X5_readPlane 31 rfl rfl (q := 61) rfl (fun _ => ?_) (fun _ => ?_)
        · refine go_iconst td_X5_readPlane 41 rfl (q := 79) rfl kc_0 ?_
          exact go_zret td_X5_readPlane 42 rfl rfl rfl rfl
        · refine go_aload_n td_X5_readPlane 32 rfl (q := 62) rfl 1 rfl ?_
          refine go_iconst td_X5_readPlane 33 rfl (q := 63) rfl kc_0 ?_
          refine go_aload_n td_X5_readPlane 34 rfl (q := 64) rfl 1 rfl ?_
          refine go_get td_X5_readPlane 35 rfl (q := 67) rfl fl_X5_44 (Ac_35 E x5.2) rfl ?_
          refine go_get td_X5_readPlane 36 rfl (q := 70) rfl fl_X5_116 (Ac_15 E x5.2) rfl ?_
          refine go_iconst td_X5_readPlane 37 rfl (q := 71) rfl kc_1 ?_
          refine go_isub td_X5_readPlane 38 rfl (q := 72) rfl ?_
          refine go_callV td_X5_readPlane 39 rfl (q := 75) rfl (XkA E) lk_X5_113 (ok_fA_Reader_takeNumber E 0 ((x5.2.1 1500) - 1) x5.2) ⟨rfl, rfl, Nat.le_of_ble_eq_true rfl, Nat.le_of_ble_eq_true rfl⟩ rfl rfl (Nat.le_of_ble_eq_true rfl) (Ac_35 E x5.2) rfl (fun x6 => ?_)
          show Go (wCA E) _ _ x6.2 75 _ [.int x6.1] _
          refine go_if_ne 80 td_X5_readPlane 40 rfl rfl (q := 78) rfl (fun _ => ?_) (fun _ => ?_)
          · refine go_aload_n td_X5_readPlane 43 rfl (q := 81) rfl 1 rfl ?_
            refine go_get td_X5_readPlane 44 rfl (q := 84) rfl fl_X5_48 (Ac_35 E x6.2) rfl ?_
            refine go_get td_X5_readPlane 45 rfl (q := 87) rfl fl_X5_146 (Ac_31 E x6.2) rfl ?_
            refine go_iload_n td_X5_readPlane 46 rfl (q := 88) rfl 0 rfl ?_
            refine go_aload_n td_X5_readPlane 47 rfl (q := 89) rfl 1 rfl ?_
            refine go_get td_X5_readPlane 48 rfl (q := 92) rfl fl_X5_33 (Ac_35 E x6.2) rfl ?_
            refine go_ast td_X5_readPlane 49 rfl (q := 93) rfl (Ac_32 E x6.2) (t0 := 0) rfl (Aas_32 E x6.2 _) ?_
            refine go_bvg (fun g7 => ?_)
            refine go_aload_n td_X5_readPlane 50 rfl (q := 94) rfl 1 rfl ?_
            refine go_ldcS td_X5_readPlane 51 rfl (q := 96) rfl (sr_X5_149 E) ?_
            refine go_callV td_X5_readPlane 52 rfl (q := 99) rfl (XkA E) lk_X5_109 (ok_fA_Reader_takeWord E 5 g7 (by decide)) ⟨rfl, rfl, Nat.le_of_ble_eq_true rfl, Nat.le_of_ble_eq_true rfl⟩ rfl rfl (Nat.le_of_ble_eq_true rfl) (Ac_35 E g7) rfl (fun x8 => ?_)
            show Go (wCA E) _ _ x8.2 99 _ [.int x8.1] _
            refine go_if_eq 119 td_X5_readPlane 53 rfl rfl (q := 102) rfl (fun _ => ?_) (fun _ => ?_)
            · refine go_iconst td_X5_readPlane 63 rfl (q := 120) rfl kc_0 ?_
              exact go_zret td_X5_readPlane 64 rfl rfl rfl rfl
            · refine go_aload_n td_X5_readPlane 54 rfl (q := 103) rfl 1 rfl ?_
              refine go_iconst td_X5_readPlane 55 rfl (q := 104) rfl kc_0 ?_
              refine go_aload_n td_X5_readPlane 56 rfl (q := 105) rfl 1 rfl ?_
              refine go_get td_X5_readPlane 57 rfl (q := 108) rfl fl_X5_44 (Ac_35 E x8.2) rfl ?_
              refine go_get td_X5_readPlane 58 rfl (q := 111) rfl fl_X5_121 (Ac_15 E x8.2) rfl ?_
              refine go_iconst td_X5_readPlane 59 rfl (q := 112) rfl kc_2 ?_
              refine go_idiv td_X5_readPlane 60 rfl (q := 113) rfl ?_
              refine go_callV td_X5_readPlane 61 rfl (q := 116) rfl (XkA E) lk_X5_113 (ok_fA_Reader_takeNumber E 0 ((x8.2.1 1501) / 2) x8.2) ⟨rfl, rfl, Nat.le_of_ble_eq_true rfl, Nat.le_of_ble_eq_true rfl⟩ rfl rfl (Nat.le_of_ble_eq_true rfl) (Ac_35 E x8.2) rfl (fun x9 => ?_)
              show Go (wCA E) _ _ x9.2 116 _ [.int x9.1] _
              refine go_if_ne 121 td_X5_readPlane 62 rfl rfl (q := 119) rfl (fun _ => ?_) (fun _ => ?_)
              · refine go_aload_n td_X5_readPlane 65 rfl (q := 122) rfl 1 rfl ?_
                refine go_get td_X5_readPlane 66 rfl (q := 125) rfl fl_X5_44 (Ac_35 E x9.2) rfl ?_
                refine go_get td_X5_readPlane 67 rfl (q := 128) rfl fl_X5_151 (Ac_15 E x9.2) rfl ?_
                refine go_iload_n td_X5_readPlane 68 rfl (q := 129) rfl 0 rfl ?_
                refine go_aload_n td_X5_readPlane 69 rfl (q := 130) rfl 1 rfl ?_
                refine go_get td_X5_readPlane 70 rfl (q := 133) rfl fl_X5_33 (Ac_35 E x9.2) rfl ?_
                refine go_ast td_X5_readPlane 71 rfl (q := 134) rfl (Ac_18 E x9.2) (t0 := 0) rfl (Aas_18 E x9.2 _) ?_
                refine go_bvg (fun g10 => ?_)
                refine go_aload_n td_X5_readPlane 72 rfl (q := 135) rfl 1 rfl ?_
                refine go_ldcS td_X5_readPlane 73 rfl (q := 137) rfl (sr_X5_154 E) ?_
                refine go_callV td_X5_readPlane 74 rfl (q := 140) rfl (XkA E) lk_X5_109 (ok_fA_Reader_takeWord E 6 g10 (by decide)) ⟨rfl, rfl, Nat.le_of_ble_eq_true rfl, Nat.le_of_ble_eq_true rfl⟩ rfl rfl (Nat.le_of_ble_eq_true rfl) (Ac_35 E g10) rfl (fun x11 => ?_)
                show Go (wCA E) _ _ x11.2 140 _ [.int x11.1] _
                refine go_if_eq 153 td_X5_readPlane 75 rfl rfl (q := 143) rfl (fun _ => ?_) (fun _ => ?_)
                · refine go_iconst td_X5_readPlane 81 rfl (q := 154) rfl kc_0 ?_
                  exact go_zret td_X5_readPlane 82 rfl rfl rfl rfl
                · refine go_aload_n td_X5_readPlane 76 rfl (q := 144) rfl 1 rfl ?_
                  refine go_iconst td_X5_readPlane 77 rfl (q := 145) rfl kc_2 ?_
                  refine go_bipush td_X5_readPlane 78 rfl (q := 147) rfl kb_96 ?_
                  refine go_callV td_X5_readPlane 79 rfl (q := 150) rfl (XkA E) lk_X5_113 (ok_fA_Reader_takeNumber E 2 96 x11.2) ⟨rfl, rfl, Nat.le_of_ble_eq_true rfl, Nat.le_of_ble_eq_true rfl⟩ rfl rfl (Nat.le_of_ble_eq_true rfl) (Ac_35 E x11.2) rfl (fun x12 => ?_)
                  show Go (wCA E) _ _ x12.2 150 _ [.int x12.1] _
                  refine go_if_ne 155 td_X5_readPlane 80 rfl rfl (q := 153) rfl (fun _ => ?_) (fun _ => ?_)
                  · refine go_aload_n td_X5_readPlane 83 rfl (q := 156) rfl 1 rfl ?_
                    refine go_get td_X5_readPlane 84 rfl (q := 159) rfl fl_X5_44 (Ac_35 E x12.2) rfl ?_
                    refine go_get td_X5_readPlane 85 rfl (q := 162) rfl fl_X5_156 (Ac_15 E x12.2) rfl ?_
                    refine go_iload_n td_X5_readPlane 86 rfl (q := 163) rfl 0 rfl ?_
                    refine go_aload_n td_X5_readPlane 87 rfl (q := 164) rfl 1 rfl ?_
                    refine go_get td_X5_readPlane 88 rfl (q := 167) rfl fl_X5_33 (Ac_35 E x12.2) rfl ?_
                    refine go_ast td_X5_readPlane 89 rfl (q := 168) rfl (Ac_19 E x12.2) (t0 := 0) rfl (Aas_19 E x12.2 _) ?_
                    refine go_bvg (fun g13 => ?_)
                    refine go_aload_n td_X5_readPlane 90 rfl (q := 169) rfl 1 rfl ?_
                    refine go_get td_X5_readPlane 91 rfl (q := 172) rfl fl_X5_44 (Ac_35 E g13) rfl ?_
                    refine go_dup td_X5_readPlane 92 rfl (q := 173) rfl rfl ?_
                    refine go_get td_X5_readPlane 93 rfl (q := 176) rfl fl_X5_131 (Ac_15 E g13) rfl ?_
                    refine go_iconst td_X5_readPlane 94 rfl (q := 177) rfl kc_1 ?_
                    refine go_iadd td_X5_readPlane 95 rfl (q := 178) rfl ?_
                    refine go_put td_X5_readPlane 96 rfl (q := 181) rfl flp_X5_131 (Ac_15 E g13) rfl rfl (Nat.le_of_ble_eq_true rfl) (Aps_1505 E g13 ((g13.1 1505) + 1)) ?_
                    refine go_bvg (fun g14 => ?_)
                    refine go_aload_n td_X5_readPlane 97 rfl (q := 182) rfl 1 rfl ?_
                    refine go_callV td_X5_readPlane 98 rfl (q := 185) rfl (XkA E) lk_X5_128 (ok_fA_Reader_endStatement E g14) ⟨rfl, rfl, Nat.le_of_ble_eq_true rfl, Nat.le_of_ble_eq_true rfl⟩ rfl rfl (Nat.le_of_ble_eq_true rfl) (Ac_35 E g14) rfl (fun x15 => ?_)
                    show Go (wCA E) _ _ x15.2 185 _ [.int x15.1] _
                    exact go_zretb td_X5_readPlane 99 rfl rfl rfl
                  · refine go_iconst td_X5_readPlane 81 rfl (q := 154) rfl kc_0 ?_
                    exact go_zret td_X5_readPlane 82 rfl rfl rfl rfl
              · refine go_iconst td_X5_readPlane 63 rfl (q := 120) rfl kc_0 ?_
                exact go_zret td_X5_readPlane 64 rfl rfl rfl rfl
          · refine go_iconst td_X5_readPlane 41 rfl (q := 79) rfl kc_0 ?_
            exact go_zret td_X5_readPlane 42 rfl rfl rfl rfl
      · refine go_iconst td_X5_readPlane 19 rfl (q := 38) rfl kc_0 ?_
        exact go_zret td_X5_readPlane 20 rfl rfl rfl rfl
  · refine go_aload_n td_X5_readPlane 7 rfl (q := 14) rfl 1 rfl ?_
    refine go_iconst td_X5_readPlane 8 rfl (q := 15) rfl kc_5 ?_
    refine go_aload_n td_X5_readPlane 9 rfl (q := 16) rfl 1 rfl ?_
    refine go_get td_X5_readPlane 10 rfl (q := 19) rfl fl_X5_24 (Ac_35 E g) rfl ?_
    refine go_callV td_X5_readPlane 11 rfl (q := 22) rfl (XkA E) lk_X5_97 (ok_fA_Reader_fail E 5 (g.1 3507) g) ⟨rfl, rfl, Nat.le_of_ble_eq_true rfl, Nat.le_of_ble_eq_true rfl⟩ rfl rfl (Nat.le_of_ble_eq_true rfl) (Ac_35 E g) rfl (fun x16 => ?_)
    show Go (wCA E) _ _ x16.2 22 _ [.int x16.1] _
    exact go_zretb td_X5_readPlane 12 rfl rfl rfl
def fA_Reader_read (g : G) : Option (Int32 × G) := bv (sS g 3500 0) fun g1 => bv (sS g1 3501 (-1)) fun g2 => bv (sS g2 3502 0) fun g3 => bv (sS g3 3506 0) fun g4 => bv (sS g4 3511 0) fun g5 => Option.bind (fA_Plan_clear g5) fun x6 => Option.bind (fA_Fleet_clear x6) fun x7 => Option.bind (fA_Reader_readGrid x7) fun x8 => (if x8.1 = 0 then some (0, x8.2) else Lp (α := Int32 × G) (fun rec9 s9 => lj (α := G) (fun b10 => Option.bind (fA_Plan_weighCells b10) fun x11 => Option.bind (fA_Plan_findCycle x11) fun x12 => lj (α := G) (fun b13 => some (1, b13)) fun J13 => (if x12.1 = 0 then Option.bind (fA_Tape_size x12.2) fun x14 => Option.bind (fA_Reader_fail 6 x14 x12.2) fun x15 => (if x15.1 = 0 then some (0, x15.2) else J13 x15.2) else J13 x12.2)) fun J10 => (if 1600 ≤ s9.1 then J10 s9.2 else Option.bind (fA_Reader_skipBlanks s9.2) fun x16 => Option.bind (fA_Tape_size x16) fun x17 => (if (x16.1 3506) < x17 then Option.bind (fA_Reader_takeLetters x16) fun x18 => (if x18.1 = 0 then some (0, x18.2) else Option.bind (fA_Words_of 3 x18.2) fun x19 => lj (α := Int32 × G) (fun b20 => (if b20.1 = 0 then some (0, b20.2) else rec9 (s9.1 + 1, b20.2))) fun J20 => (if (x18.2.1 3508) = x19 then Option.bind (fA_Reader_readPlane x18.2) fun x26 => J20 (x26.1, x26.2) else Option.bind (fA_Words_of 7 x18.2) fun x21 => (if (x18.2.1 3508) = x21 then Option.bind (fA_Reader_readCraft x18.2) fun x25 => J20 (x25.1, x25.2) else Option.bind (fA_Words_of 11 x18.2) fun x22 => (if (x18.2.1 3508) = x22 then Option.bind (fA_Reader_readSite x18.2) fun x24 => J20 (x24.1, x24.2) else Option.bind (fA_Reader_fail 1 (x18.2.1 3507) x18.2) fun x23 => J20 (x23.1, x23.2))))) else J10 x16))) FU (0, x8.2))
set_option maxRecDepth 20000 in
set_option maxHeartbeats 4000000 in
theorem ok_fA_Reader_read (E : Ev)  (g : G)  : Ct (wCA E) yX5_read mi_X5_read [.ref (E.1 35)] (fun r => (some (.int r.1), r.2)) g (fA_Reader_read g) := by
  refine go_enter rfl rfl (Nat.le_of_ble_eq_true rfl) (lv := [(0, .ref (E.1 35))]) rfl ?_
  unfold fA_Reader_read
  refine go_aload_n td_X5_read 0 rfl (q := 1) rfl 0 rfl ?_
  refine go_iconst td_X5_read 1 rfl (q := 2) rfl kc_0 ?_
  refine go_put td_X5_read 2 rfl (q := 5) rfl flp_X5_9 (Ac_35 E g) rfl rfl (Nat.le_of_ble_eq_true rfl) (Aps_3500 E g 0) ?_
  refine go_bvg (fun g1 => ?_)
  refine go_aload_n td_X5_read 3 rfl (q := 6) rfl 0 rfl ?_
  refine go_iconst td_X5_read 4 rfl (q := 7) rfl kc_m1 ?_
  refine go_put td_X5_read 5 rfl (q := 10) rfl flp_X5_15 (Ac_35 E g1) rfl rfl (Nat.le_of_ble_eq_true rfl) (Aps_3501 E g1 (-1)) ?_
  refine go_bvg (fun g2 => ?_)
  refine go_aload_n td_X5_read 6 rfl (q := 11) rfl 0 rfl ?_
  refine go_iconst td_X5_read 7 rfl (q := 12) rfl kc_0 ?_
  refine go_put td_X5_read 8 rfl (q := 15) rfl flp_X5_18 (Ac_35 E g2) rfl rfl (Nat.le_of_ble_eq_true rfl) (Aps_3502 E g2 0) ?_
  refine go_bvg (fun g3 => ?_)
  refine go_aload_n td_X5_read 9 rfl (q := 16) rfl 0 rfl ?_
  refine go_iconst td_X5_read 10 rfl (q := 17) rfl kc_0 ?_
  refine go_put td_X5_read 11 rfl (q := 20) rfl flp_X5_21 (Ac_35 E g3) rfl rfl (Nat.le_of_ble_eq_true rfl) (Aps_3506 E g3 0) ?_
  refine go_bvg (fun g4 => ?_)
  refine go_aload_n td_X5_read 12 rfl (q := 21) rfl 0 rfl ?_
  refine go_iconst td_X5_read 13 rfl (q := 22) rfl kc_0 ?_
  refine go_put td_X5_read 14 rfl (q := 25) rfl flp_X5_36 (Ac_35 E g4) rfl rfl (Nat.le_of_ble_eq_true rfl) (Aps_3511 E g4 0) ?_
  refine go_bvg (fun g5 => ?_)
  refine go_aload_n td_X5_read 15 rfl (q := 26) rfl 0 rfl ?_
  refine go_get td_X5_read 16 rfl (q := 29) rfl fl_X5_44 (Ac_35 E g5) rfl ?_
  refine go_callV td_X5_read 17 rfl (q := 32) rfl (XkA E) lk_X5_52 (ok_fA_Plan_clear E g5) ⟨rfl, rfl, Nat.le_of_ble_eq_true rfl, Nat.le_of_ble_eq_true rfl⟩ rfl rfl (Nat.le_of_ble_eq_true rfl) (Ac_15 E g5) rfl (fun x6 => ?_)
  show Go (wCA E) _ _ x6 32 _ [] _
  refine go_aload_n td_X5_read 18 rfl (q := 33) rfl 0 rfl ?_
  refine go_get td_X5_read 19 rfl (q := 36) rfl fl_X5_48 (Ac_35 E x6) rfl ?_
  refine go_callV td_X5_read 20 rfl (q := 39) rfl (XkA E) lk_X5_57 (ok_fA_Fleet_clear E x6) ⟨rfl, rfl, Nat.le_of_ble_eq_true rfl, Nat.le_of_ble_eq_true rfl⟩ rfl rfl (Nat.le_of_ble_eq_true rfl) (Ac_31 E x6) rfl (fun x7 => ?_)
  show Go (wCA E) _ _ x7 39 _ [] _
  refine go_aload_n td_X5_read 21 rfl (q := 40) rfl 0 rfl ?_
  refine go_callV td_X5_read 22 rfl (q := 43) rfl (XkA E) lk_X5_60 (ok_fA_Reader_readGrid E x7) ⟨rfl, rfl, Nat.le_of_ble_eq_true rfl, Nat.le_of_ble_eq_true rfl⟩ rfl rfl (Nat.le_of_ble_eq_true rfl) (Ac_35 E x7) rfl (fun x8 => ?_)
  show Go (wCA E) _ _ x8.2 43 _ [.int x8.1] _
  refine go_if_ne 48 td_X5_read 23 rfl rfl (q := 46) rfl (fun _ => ?_) (fun _ => ?_)
  · refine go_iconst td_X5_read 26 rfl (q := 49) rfl kc_0 ?_
    refine go_istore_n [(1, .int 0), (0, .ref (E.1 35))] td_X5_read 27 rfl (q := 50) rfl (Nat.le_of_ble_eq_true rfl) rfl ?_
    refine go_pick [1, 0] (lv' := [(0, .ref (E.1 35)), (1, .int 0)]) rfl ?_
    refine (show ∀ (u9_0 : Int32) (u9_1 : G), Go (wCA E) _ _ u9_1 50 [(0, .ref (E.1 35)), (1, .int u9_0)] [] (Lp (α := Int32 × G) _ FU (u9_0, u9_1)) from ?_) 0 x8.2
    intro u9_0 u9_1
    refine go_Lp (α := Int32 × G) (fun s9 => s9.2) (fun s9 => [(0, .ref (E.1 35)), (1, .int s9.1)]) ?_ FU (u9_0, u9_1)
    intro rec9 hrec9 s9
    have krec9 : ∀ (u9_0 : Int32) (u9_1 : G), Go (wCA E) _ _ u9_1 50 [(0, .ref (E.1 35)), (1, .int u9_0)] [] (rec9 (u9_0, u9_1)) := fun u9_0 u9_1 => hrec9 (u9_0, u9_1)
    refine go_iload_n td_X5_read 28 rfl (q := 51) rfl 1 rfl ?_
    refine go_sipush td_X5_read 29 rfl (q := 54) rfl ks_1600 ?_
    refine go_ljX (α := G) (fun b10 => [(0, .ref (E.1 35))]) (fun b10 => []) (fun b10 => b10) 166 ?_ ?_
    · intro b10
      refine go_aload_n td_X5_read 81 rfl (q := 167) rfl 0 rfl ?_
      refine go_get td_X5_read 82 rfl (q := 170) rfl fl_X5_44 (Ac_35 E b10) rfl ?_
      refine go_callV td_X5_read 83 rfl (q := 173) rfl (XkA E) lk_X5_101 (ok_fA_Plan_weighCells E b10) ⟨rfl, rfl, Nat.le_of_ble_eq_true rfl, Nat.le_of_ble_eq_true rfl⟩ rfl rfl (Nat.le_of_ble_eq_true rfl) (Ac_15 E b10) rfl (fun x11 => ?_)
      show Go (wCA E) _ _ x11 173 _ [] _
      refine go_aload_n td_X5_read 84 rfl (q := 174) rfl 0 rfl ?_
      refine go_get td_X5_read 85 rfl (q := 177) rfl fl_X5_44 (Ac_35 E x11) rfl ?_
      refine go_callV td_X5_read 86 rfl (q := 180) rfl (XkA E) lk_X5_104 (ok_fA_Plan_findCycle E x11) ⟨rfl, rfl, Nat.le_of_ble_eq_true rfl, Nat.le_of_ble_eq_true rfl⟩ rfl rfl (Nat.le_of_ble_eq_true rfl) (Ac_15 E x11) rfl (fun x12 => ?_)
      show Go (wCA E) _ _ x12.2 180 _ [.int x12.1] _
      refine go_ljX (α := G) (fun b13 => []) (fun b13 => []) (fun b13 => b13) 199 ?_ ?_
      · intro b13
        refine go_iconst td_X5_read 95 rfl (q := 200) rfl kc_1 ?_
        refine go_goto td_X5_read 96 rfl (q := 204) rfl ?_
        exact go_zret td_X5_read 98 rfl rfl rfl rfl
      intro J13 hJ13
      have kJ13 : ∀ (u13_0 : G), Go (wCA E) _ _ u13_0 199 [] [] (J13 u13_0) := fun u13_0 => hJ13 u13_0
      refine go_if_ne 199 td_X5_read 87 rfl rfl (q := 183) rfl (fun _ => ?_) (fun _ => ?_)
      · refine go_pick [] (lv' := []) rfl ?_
        exact kJ13 x12.2
      · refine go_aload_n td_X5_read 88 rfl (q := 184) rfl 0 rfl ?_
        refine go_bipush td_X5_read 89 rfl (q := 186) rfl kb_6 ?_
        refine go_aload_n td_X5_read 90 rfl (q := 187) rfl 0 rfl ?_
        refine go_get td_X5_read 91 rfl (q := 190) rfl fl_X5_40 (Ac_35 E x12.2) rfl ?_
        refine go_callV td_X5_read 92 rfl (q := 193) rfl (XkA E) lk_X5_67 (ok_fA_Tape_size E x12.2) ⟨rfl, rfl, Nat.le_of_ble_eq_true rfl, Nat.le_of_ble_eq_true rfl⟩ rfl rfl (Nat.le_of_ble_eq_true rfl) (Ac_1 E x12.2) rfl (fun x14 => ?_)
        show Go (wCA E) _ _ x12.2 193 _ [.int x14, .int 6, .ref (E.1 35)] _
        refine go_callV td_X5_read 93 rfl (q := 196) rfl (XkA E) lk_X5_97 (ok_fA_Reader_fail E 6 x14 x12.2) ⟨rfl, rfl, Nat.le_of_ble_eq_true rfl, Nat.le_of_ble_eq_true rfl⟩ rfl rfl (Nat.le_of_ble_eq_true rfl) (Ac_35 E x12.2) rfl (fun x15 => ?_)
        show Go (wCA E) _ _ x15.2 196 _ [.int x15.1] _
        refine go_if_eq 203 td_X5_read 94 rfl rfl (q := 199) rfl (fun _ => ?_) (fun _ => ?_)
        · refine go_iconst td_X5_read 97 rfl (q := 204) rfl kc_0 ?_
          exact go_zret td_X5_read 98 rfl rfl rfl rfl
        · refine go_pick [] (lv' := []) rfl ?_
          exact kJ13 x15.2
    intro J10 hJ10
    have kJ10 : ∀ (u10_0 : G), Go (wCA E) _ _ u10_0 166 [(0, .ref (E.1 35))] [] (J10 u10_0) := fun u10_0 => hJ10 u10_0
    refine go_icmp_ge 166 td_X5_read 30 rfl rfl (q := 57) rfl (fun _ => ?_) (fun _ => ?_)
    · refine go_pick [0] (lv' := [(0, .ref (E.1 35))]) rfl ?_
      exact kJ10 s9.2
    · refine go_aload_n td_X5_read 31 rfl (q := 58) rfl 0 rfl ?_
      refine go_callV td_X5_read 32 rfl (q := 61) rfl (XkA E) lk_X5_64 (ok_fA_Reader_skipBlanks E s9.2) ⟨rfl, rfl, Nat.le_of_ble_eq_true rfl, Nat.le_of_ble_eq_true rfl⟩ rfl rfl (Nat.le_of_ble_eq_true rfl) (Ac_35 E s9.2) rfl (fun x16 => ?_)
      show Go (wCA E) _ _ x16 61 _ [] _
      refine go_aload_n td_X5_read 33 rfl (q := 62) rfl 0 rfl ?_
      refine go_get td_X5_read 34 rfl (q := 65) rfl fl_X5_21 (Ac_35 E x16) rfl ?_
      refine go_aload_n td_X5_read 35 rfl (q := 66) rfl 0 rfl ?_
      refine go_get td_X5_read 36 rfl (q := 69) rfl fl_X5_40 (Ac_35 E x16) rfl ?_
      refine go_callV td_X5_read 37 rfl (q := 72) rfl (XkA E) lk_X5_67 (ok_fA_Tape_size E x16) ⟨rfl, rfl, Nat.le_of_ble_eq_true rfl, Nat.le_of_ble_eq_true rfl⟩ rfl rfl (Nat.le_of_ble_eq_true rfl) (Ac_1 E x16) rfl (fun x17 => ?_)
      show Go (wCA E) _ _ x16 72 _ [.int x17, .int (x16.1 3506)] _
      refine go_icmp_lt 78 td_X5_read 38 rfl rfl (q := 75) rfl (fun _ => ?_) (fun _ => ?_)
      · refine go_aload_n td_X5_read 40 rfl (q := 79) rfl 0 rfl ?_
        refine go_callV td_X5_read 41 rfl (q := 82) rfl (XkA E) lk_X5_73 (ok_fA_Reader_takeLetters E x16) ⟨rfl, rfl, Nat.le_of_ble_eq_true rfl, Nat.le_of_ble_eq_true rfl⟩ rfl rfl (Nat.le_of_ble_eq_true rfl) (Ac_35 E x16) rfl (fun x18 => ?_)
        show Go (wCA E) _ _ x18.2 82 _ [.int x18.1] _
        refine go_if_ne 87 td_X5_read 42 rfl rfl (q := 85) rfl (fun _ => ?_) (fun _ => ?_)
        · refine go_aload_n td_X5_read 45 rfl (q := 88) rfl 0 rfl ?_
          refine go_get td_X5_read 46 rfl (q := 91) rfl fl_X5_27 (Ac_35 E x18.2) rfl ?_
          refine go_ldcS td_X5_read 47 rfl (q := 93) rfl (sr_X5_76 E) ?_
          refine go_callS td_X5_read 48 rfl (q := 96) rfl (XkA E) lk_X5_78 (ok_fA_Words_of E 3 x18.2 (by decide)) ⟨rfl, rfl, Nat.le_of_ble_eq_true rfl, Nat.le_of_ble_eq_true rfl⟩ rfl rfl (Nat.le_of_ble_eq_true rfl) (fun x19 => ?_)
          show Go (wCA E) _ _ x18.2 96 _ [.int x19, .int (x18.2.1 3508)] _
          refine go_ljX (α := Int32 × G) (fun b20 => [(0, .ref (E.1 35)), (1, .int s9.1)]) (fun b20 => [.int b20.1]) (fun b20 => b20.2) 153 ?_ ?_
          · intro b20
            refine go_istore_n [(2, .int b20.1), (0, .ref (E.1 35)), (1, .int s9.1)] td_X5_read 74 rfl (q := 154) rfl (Nat.le_of_ble_eq_true rfl) rfl ?_
            refine go_iload_n td_X5_read 75 rfl (q := 155) rfl 0 rfl ?_
            refine go_if_ne 160 td_X5_read 76 rfl rfl (q := 158) rfl (fun _ => ?_) (fun _ => ?_)
            · refine go_iinc [(1, .int (s9.1 + 1)), (2, .int b20.1), (0, .ref (E.1 35))] td_X5_read 79 rfl (q := 163) rfl 2 rfl kc_1 (Nat.le_of_ble_eq_true rfl) rfl ?_
              refine go_goto td_X5_read 80 rfl (q := 50) rfl ?_
              refine go_pick [2, 0] (lv' := [(0, .ref (E.1 35)), (1, .int (s9.1 + 1))]) rfl ?_
              exact krec9 (s9.1 + 1) b20.2
            · refine go_iconst td_X5_read 77 rfl (q := 159) rfl kc_0 ?_
              exact go_zret td_X5_read 78 rfl rfl rfl rfl
          intro J20 hJ20
          have kJ20 : ∀ (u20_0 : Int32) (u20_1 : G), Go (wCA E) _ _ u20_1 153 [(0, .ref (E.1 35)), (1, .int s9.1)] [.int u20_0] (J20 (u20_0, u20_1)) := fun u20_0 u20_1 => hJ20 (u20_0, u20_1)
          refine go_icmp_ne 106 td_X5_read 49 rfl rfl (q := 99) rfl (fun _ => ?_) (fun _ => ?_)
          · refine go_aload_n td_X5_read 53 rfl (q := 107) rfl 0 rfl ?_
            refine go_get td_X5_read 54 rfl (q := 110) rfl fl_X5_27 (Ac_35 E x18.2) rfl ?_
            refine go_ldcS td_X5_read 55 rfl (q := 112) rfl (sr_X5_87 E) ?_
            refine go_callS td_X5_read 56 rfl (q := 115) rfl (XkA E) lk_X5_78 (ok_fA_Words_of E 7 x18.2 (by decide)) ⟨rfl, rfl, Nat.le_of_ble_eq_true rfl, Nat.le_of_ble_eq_true rfl⟩ rfl rfl (Nat.le_of_ble_eq_true rfl) (fun x21 => ?_)
            show Go (wCA E) _ _ x18.2 115 _ [.int x21, .int (x18.2.1 3508)] _
            refine go_icmp_ne 125 td_X5_read 57 rfl rfl (q := 118) rfl (fun _ => ?_) (fun _ => ?_)
            · refine go_aload_n td_X5_read 61 rfl (q := 126) rfl 0 rfl ?_
              refine go_get td_X5_read 62 rfl (q := 129) rfl fl_X5_27 (Ac_35 E x18.2) rfl ?_
              refine go_ldcS td_X5_read 63 rfl (q := 131) rfl (sr_X5_92 E) ?_
              refine go_callS td_X5_read 64 rfl (q := 134) rfl (XkA E) lk_X5_78 (ok_fA_Words_of E 11 x18.2 (by decide)) ⟨rfl, rfl, Nat.le_of_ble_eq_true rfl, Nat.le_of_ble_eq_true rfl⟩ rfl rfl (Nat.le_of_ble_eq_true rfl) (fun x22 => ?_)
              show Go (wCA E) _ _ x18.2 134 _ [.int x22, .int (x18.2.1 3508)] _
              refine go_icmp_ne 144 td_X5_read 65 rfl rfl (q := 137) rfl (fun _ => ?_) (fun _ => ?_)
              · refine go_aload_n td_X5_read 69 rfl (q := 145) rfl 0 rfl ?_
                refine go_iconst td_X5_read 70 rfl (q := 146) rfl kc_1 ?_
                refine go_aload_n td_X5_read 71 rfl (q := 147) rfl 0 rfl ?_
                refine go_get td_X5_read 72 rfl (q := 150) rfl fl_X5_24 (Ac_35 E x18.2) rfl ?_
                refine go_callV td_X5_read 73 rfl (q := 153) rfl (XkA E) lk_X5_97 (ok_fA_Reader_fail E 1 (x18.2.1 3507) x18.2) ⟨rfl, rfl, Nat.le_of_ble_eq_true rfl, Nat.le_of_ble_eq_true rfl⟩ rfl rfl (Nat.le_of_ble_eq_true rfl) (Ac_35 E x18.2) rfl (fun x23 => ?_)
                show Go (wCA E) _ _ x23.2 153 _ [.int x23.1] _
                refine go_pick [0, 1] (lv' := [(0, .ref (E.1 35)), (1, .int s9.1)]) rfl ?_
                exact kJ20 x23.1 x23.2
              · refine go_aload_n td_X5_read 66 rfl (q := 138) rfl 0 rfl ?_
                refine go_callV td_X5_read 67 rfl (q := 141) rfl (XkA E) lk_X5_94 (ok_fA_Reader_readSite E x18.2) ⟨rfl, rfl, Nat.le_of_ble_eq_true rfl, Nat.le_of_ble_eq_true rfl⟩ rfl rfl (Nat.le_of_ble_eq_true rfl) (Ac_35 E x18.2) rfl (fun x24 => ?_)
                show Go (wCA E) _ _ x24.2 141 _ [.int x24.1] _
                refine go_goto td_X5_read 68 rfl (q := 153) rfl ?_
                refine go_pick [0, 1] (lv' := [(0, .ref (E.1 35)), (1, .int s9.1)]) rfl ?_
                exact kJ20 x24.1 x24.2
            · refine go_aload_n td_X5_read 58 rfl (q := 119) rfl 0 rfl ?_
              refine go_callV td_X5_read 59 rfl (q := 122) rfl (XkA E) lk_X5_89 (ok_fA_Reader_readCraft E x18.2) ⟨rfl, rfl, Nat.le_of_ble_eq_true rfl, Nat.le_of_ble_eq_true rfl⟩ rfl rfl (Nat.le_of_ble_eq_true rfl) (Ac_35 E x18.2) rfl (fun x25 => ?_)
              show Go (wCA E) _ _ x25.2 122 _ [.int x25.1] _
              refine go_goto td_X5_read 60 rfl (q := 153) rfl ?_
              refine go_pick [0, 1] (lv' := [(0, .ref (E.1 35)), (1, .int s9.1)]) rfl ?_
              exact kJ20 x25.1 x25.2
          · refine go_aload_n td_X5_read 50 rfl (q := 100) rfl 0 rfl ?_
            refine go_callV td_X5_read 51 rfl (q := 103) rfl (XkA E) lk_X5_84 (ok_fA_Reader_readPlane E x18.2) ⟨rfl, rfl, Nat.le_of_ble_eq_true rfl, Nat.le_of_ble_eq_true rfl⟩ rfl rfl (Nat.le_of_ble_eq_true rfl) (Ac_35 E x18.2) rfl (fun x26 => ?_)
            show Go (wCA E) _ _ x26.2 103 _ [.int x26.1] _
            refine go_goto td_X5_read 52 rfl (q := 153) rfl ?_
            refine go_pick [0, 1] (lv' := [(0, .ref (E.1 35)), (1, .int s9.1)]) rfl ?_
            exact kJ20 x26.1 x26.2
        · refine go_iconst td_X5_read 43 rfl (q := 86) rfl kc_0 ?_
          exact go_zret td_X5_read 44 rfl rfl rfl rfl
      · refine go_goto td_X5_read 39 rfl (q := 166) rfl ?_
        refine go_pick [0] (lv' := [(0, .ref (E.1 35))]) rfl ?_
        exact kJ10 x16
  · refine go_iconst td_X5_read 24 rfl (q := 47) rfl kc_0 ?_
    exact go_zret td_X5_read 25 rfl rfl rfl rfl
def fA_Plan_take (g : G) : Option (G) := bv (sS g 300 (g.1 1500)) fun g1 => bv (sS g1 301 (g1.1 1501)) fun g2 => bv (sS g2 302 (g2.1 1502)) fun g3 => bv (sS g3 303 (g3.1 1503)) fun g4 => bv (sS g4 304 (g4.1 1504)) fun g5 => bv (sS g5 305 (g5.1 1505)) fun g6 => bv (sS g6 306 (g6.1 1506)) fun g7 => bv (sS g7 307 (g7.1 1507)) fun g8 => cp 12 12 0 0 12 (bv (sC g8 4 (va_cpy (g8.2.1 16) (g8.2.1 4) (0 : Int32).toNatClampNeg (0 : Int32).toNatClampNeg (12 : Int32).toNatClampNeg)) fun g9 => cp 4 4 0 0 4 (bv (sC g9 5 (va_cpy (g9.2.1 17) (g9.2.1 5) (0 : Int32).toNatClampNeg (0 : Int32).toNatClampNeg (4 : Int32).toNatClampNeg)) fun g10 => cp 4 4 0 0 4 (bv (sC g10 6 (va_cpy (g10.2.1 18) (g10.2.1 6) (0 : Int32).toNatClampNeg (0 : Int32).toNatClampNeg (4 : Int32).toNatClampNeg)) fun g11 => cp 4 4 0 0 4 (bv (sC g11 7 (va_cpy (g11.2.1 19) (g11.2.1 7) (0 : Int32).toNatClampNeg (0 : Int32).toNatClampNeg (4 : Int32).toNatClampNeg)) fun g12 => cp 8 8 0 0 8 (bv (sC g12 8 (va_cpy (g12.2.1 20) (g12.2.1 8) (0 : Int32).toNatClampNeg (0 : Int32).toNatClampNeg (8 : Int32).toNatClampNeg)) fun g13 => cp 8 8 0 0 8 (bv (sC g13 9 (va_cpy (g13.2.1 21) (g13.2.1 9) (0 : Int32).toNatClampNeg (0 : Int32).toNatClampNeg (8 : Int32).toNatClampNeg)) fun g14 => cp 6 6 0 0 6 (bv (sC g14 10 (va_cpy (g14.2.1 22) (g14.2.1 10) (0 : Int32).toNatClampNeg (0 : Int32).toNatClampNeg (6 : Int32).toNatClampNeg)) fun g15 => cp 6 6 0 0 6 (bv (sC g15 11 (va_cpy (g15.2.1 23) (g15.2.1 11) (0 : Int32).toNatClampNeg (0 : Int32).toNatClampNeg (6 : Int32).toNatClampNeg)) fun g16 => cp 6 6 0 0 6 (bv (sC g16 12 (va_cpy (g16.2.1 24) (g16.2.1 12) (0 : Int32).toNatClampNeg (0 : Int32).toNatClampNeg (6 : Int32).toNatClampNeg)) fun g17 => cp 6 6 0 0 6 (bv (sC g17 13 (va_cpy (g17.2.1 25) (g17.2.1 13) (0 : Int32).toNatClampNeg (0 : Int32).toNatClampNeg (6 : Int32).toNatClampNeg)) fun g18 => cp 6 6 0 0 6 (bv (sC g18 14 (va_cpy (g18.2.1 26) (g18.2.1 14) (0 : Int32).toNatClampNeg (0 : Int32).toNatClampNeg (6 : Int32).toNatClampNeg)) fun g19 => some g19)))))))))))
set_option maxRecDepth 20000 in
set_option maxHeartbeats 4000000 in
theorem ok_fA_Plan_take (E : Ev)  (g : G)  : Ct (wCA E) yX4_take mi_X4_take [.ref (E.1 3), .ref (E.1 15)] (fun r => (none, r)) g (fA_Plan_take g) := by
  refine go_enter rfl rfl (Nat.le_of_ble_eq_true rfl) (lv := [(0, .ref (E.1 3)), (1, .ref (E.1 15))]) rfl ?_
  unfold fA_Plan_take
  refine go_aload_n td_X4_take 0 rfl (q := 1) rfl 0 rfl ?_
  refine go_aload_n td_X4_take 1 rfl (q := 2) rfl 1 rfl ?_
  refine go_get td_X4_take 2 rfl (q := 5) rfl fl_X4_9 (Ac_15 E g) rfl ?_
  refine go_put td_X4_take 3 rfl (q := 8) rfl flp_X4_9 (Ac_3 E g) rfl rfl (Nat.le_of_ble_eq_true rfl) (Aps_300 E g (g.1 1500)) ?_
  refine go_bvg (fun g1 => ?_)
  refine go_aload_n td_X4_take 4 rfl (q := 9) rfl 0 rfl ?_
  refine go_aload_n td_X4_take 5 rfl (q := 10) rfl 1 rfl ?_
  refine go_get td_X4_take 6 rfl (q := 13) rfl fl_X4_15 (Ac_15 E g1) rfl ?_
  refine go_put td_X4_take 7 rfl (q := 16) rfl flp_X4_15 (Ac_3 E g1) rfl rfl (Nat.le_of_ble_eq_true rfl) (Aps_301 E g1 (g1.1 1501)) ?_
  refine go_bvg (fun g2 => ?_)
  refine go_aload_n td_X4_take 8 rfl (q := 17) rfl 0 rfl ?_
  refine go_aload_n td_X4_take 9 rfl (q := 18) rfl 1 rfl ?_
  refine go_get td_X4_take 10 rfl (q := 21) rfl fl_X4_18 (Ac_15 E g2) rfl ?_
  refine go_put td_X4_take 11 rfl (q := 24) rfl flp_X4_18 (Ac_3 E g2) rfl rfl (Nat.le_of_ble_eq_true rfl) (Aps_302 E g2 (g2.1 1502)) ?_
  refine go_bvg (fun g3 => ?_)
  refine go_aload_n td_X4_take 12 rfl (q := 25) rfl 0 rfl ?_
  refine go_aload_n td_X4_take 13 rfl (q := 26) rfl 1 rfl ?_
  refine go_get td_X4_take 14 rfl (q := 29) rfl fl_X4_21 (Ac_15 E g3) rfl ?_
  refine go_put td_X4_take 15 rfl (q := 32) rfl flp_X4_21 (Ac_3 E g3) rfl rfl (Nat.le_of_ble_eq_true rfl) (Aps_303 E g3 (g3.1 1503)) ?_
  refine go_bvg (fun g4 => ?_)
  refine go_aload_n td_X4_take 16 rfl (q := 33) rfl 0 rfl ?_
  refine go_aload_n td_X4_take 17 rfl (q := 34) rfl 1 rfl ?_
  refine go_get td_X4_take 18 rfl (q := 37) rfl fl_X4_24 (Ac_15 E g4) rfl ?_
  refine go_put td_X4_take 19 rfl (q := 40) rfl flp_X4_24 (Ac_3 E g4) rfl rfl (Nat.le_of_ble_eq_true rfl) (Aps_304 E g4 (g4.1 1504)) ?_
  refine go_bvg (fun g5 => ?_)
  refine go_aload_n td_X4_take 20 rfl (q := 41) rfl 0 rfl ?_
  refine go_aload_n td_X4_take 21 rfl (q := 42) rfl 1 rfl ?_
  refine go_get td_X4_take 22 rfl (q := 45) rfl fl_X4_27 (Ac_15 E g5) rfl ?_
  refine go_put td_X4_take 23 rfl (q := 48) rfl flp_X4_27 (Ac_3 E g5) rfl rfl (Nat.le_of_ble_eq_true rfl) (Aps_305 E g5 (g5.1 1505)) ?_
  refine go_bvg (fun g6 => ?_)
  refine go_aload_n td_X4_take 24 rfl (q := 49) rfl 0 rfl ?_
  refine go_aload_n td_X4_take 25 rfl (q := 50) rfl 1 rfl ?_
  refine go_get td_X4_take 26 rfl (q := 53) rfl fl_X4_30 (Ac_15 E g6) rfl ?_
  refine go_put td_X4_take 27 rfl (q := 56) rfl flp_X4_30 (Ac_3 E g6) rfl rfl (Nat.le_of_ble_eq_true rfl) (Aps_306 E g6 (g6.1 1506)) ?_
  refine go_bvg (fun g7 => ?_)
  refine go_aload_n td_X4_take 28 rfl (q := 57) rfl 0 rfl ?_
  refine go_aload_n td_X4_take 29 rfl (q := 58) rfl 1 rfl ?_
  refine go_get td_X4_take 30 rfl (q := 61) rfl fl_X4_33 (Ac_15 E g7) rfl ?_
  refine go_put td_X4_take 31 rfl (q := 64) rfl flp_X4_33 (Ac_3 E g7) rfl rfl (Nat.le_of_ble_eq_true rfl) (Aps_307 E g7 (g7.1 1507)) ?_
  refine go_bvg (fun g8 => ?_)
  refine go_aload_n td_X4_take 32 rfl (q := 65) rfl 1 rfl ?_
  refine go_get td_X4_take 33 rfl (q := 68) rfl fl_X4_36 (Ac_15 E g8) rfl ?_
  refine go_iconst td_X4_take 34 rfl (q := 69) rfl kc_0 ?_
  refine go_aload_n td_X4_take 35 rfl (q := 70) rfl 0 rfl ?_
  refine go_get td_X4_take 36 rfl (q := 73) rfl fl_X4_36 (Ac_3 E g8) rfl ?_
  refine go_iconst td_X4_take 37 rfl (q := 74) rfl kc_0 ?_
  refine go_bipush td_X4_take 38 rfl (q := 76) rfl kb_12 ?_
  refine go_copy td_X4_take 39 rfl (q := 79) rfl lk_X4_70 ⟨Nat.le_of_ble_eq_true rfl, Nat.le_of_ble_eq_true rfl⟩ (Ac_16 E g8) (Ac_4 E g8) (t0 := 0) (t1 := 0) rfl rfl (Aas_4 E g8 _) ?_
  refine go_bvg (fun g9 => ?_)
  refine go_aload_n td_X4_take 40 rfl (q := 80) rfl 1 rfl ?_
  refine go_get td_X4_take 41 rfl (q := 83) rfl fl_X4_40 (Ac_15 E g9) rfl ?_
  refine go_iconst td_X4_take 42 rfl (q := 84) rfl kc_0 ?_
  refine go_aload_n td_X4_take 43 rfl (q := 85) rfl 0 rfl ?_
  refine go_get td_X4_take 44 rfl (q := 88) rfl fl_X4_40 (Ac_3 E g9) rfl ?_
  refine go_iconst td_X4_take 45 rfl (q := 89) rfl kc_0 ?_
  refine go_iconst td_X4_take 46 rfl (q := 90) rfl kc_4 ?_
  refine go_copy td_X4_take 47 rfl (q := 93) rfl lk_X4_70 ⟨Nat.le_of_ble_eq_true rfl, Nat.le_of_ble_eq_true rfl⟩ (Ac_17 E g9) (Ac_5 E g9) (t0 := 0) (t1 := 0) rfl rfl (Aas_5 E g9 _) ?_
  refine go_bvg (fun g10 => ?_)
  refine go_aload_n td_X4_take 48 rfl (q := 94) rfl 1 rfl ?_
  refine go_get td_X4_take 49 rfl (q := 97) rfl fl_X4_43 (Ac_15 E g10) rfl ?_
  refine go_iconst td_X4_take 50 rfl (q := 98) rfl kc_0 ?_
  refine go_aload_n td_X4_take 51 rfl (q := 99) rfl 0 rfl ?_
  refine go_get td_X4_take 52 rfl (q := 102) rfl fl_X4_43 (Ac_3 E g10) rfl ?_
  refine go_iconst td_X4_take 53 rfl (q := 103) rfl kc_0 ?_
  refine go_iconst td_X4_take 54 rfl (q := 104) rfl kc_4 ?_
  refine go_copy td_X4_take 55 rfl (q := 107) rfl lk_X4_70 ⟨Nat.le_of_ble_eq_true rfl, Nat.le_of_ble_eq_true rfl⟩ (Ac_18 E g10) (Ac_6 E g10) (t0 := 0) (t1 := 0) rfl rfl (Aas_6 E g10 _) ?_
  refine go_bvg (fun g11 => ?_)
  refine go_aload_n td_X4_take 56 rfl (q := 108) rfl 1 rfl ?_
  refine go_get td_X4_take 57 rfl (q := 111) rfl fl_X4_46 (Ac_15 E g11) rfl ?_
  refine go_iconst td_X4_take 58 rfl (q := 112) rfl kc_0 ?_
  refine go_aload_n td_X4_take 59 rfl (q := 113) rfl 0 rfl ?_
  refine go_get td_X4_take 60 rfl (q := 116) rfl fl_X4_46 (Ac_3 E g11) rfl ?_
  refine go_iconst td_X4_take 61 rfl (q := 117) rfl kc_0 ?_
  refine go_iconst td_X4_take 62 rfl (q := 118) rfl kc_4 ?_
  refine go_copy td_X4_take 63 rfl (q := 121) rfl lk_X4_70 ⟨Nat.le_of_ble_eq_true rfl, Nat.le_of_ble_eq_true rfl⟩ (Ac_19 E g11) (Ac_7 E g11) (t0 := 0) (t1 := 0) rfl rfl (Aas_7 E g11 _) ?_
  refine go_bvg (fun g12 => ?_)
  refine go_aload_n td_X4_take 64 rfl (q := 122) rfl 1 rfl ?_
  refine go_get td_X4_take 65 rfl (q := 125) rfl fl_X4_49 (Ac_15 E g12) rfl ?_
  refine go_iconst td_X4_take 66 rfl (q := 126) rfl kc_0 ?_
  refine go_aload_n td_X4_take 67 rfl (q := 127) rfl 0 rfl ?_
  refine go_get td_X4_take 68 rfl (q := 130) rfl fl_X4_49 (Ac_3 E g12) rfl ?_
  refine go_iconst td_X4_take 69 rfl (q := 131) rfl kc_0 ?_
  refine go_bipush td_X4_take 70 rfl (q := 133) rfl kb_8 ?_
  refine go_copy td_X4_take 71 rfl (q := 136) rfl lk_X4_70 ⟨Nat.le_of_ble_eq_true rfl, Nat.le_of_ble_eq_true rfl⟩ (Ac_20 E g12) (Ac_8 E g12) (t0 := 0) (t1 := 0) rfl rfl (Aas_8 E g12 _) ?_
  refine go_bvg (fun g13 => ?_)
  refine go_aload_n td_X4_take 72 rfl (q := 137) rfl 1 rfl ?_
  refine go_get td_X4_take 73 rfl (q := 140) rfl fl_X4_52 (Ac_15 E g13) rfl ?_
  refine go_iconst td_X4_take 74 rfl (q := 141) rfl kc_0 ?_
  refine go_aload_n td_X4_take 75 rfl (q := 142) rfl 0 rfl ?_
  refine go_get td_X4_take 76 rfl (q := 145) rfl fl_X4_52 (Ac_3 E g13) rfl ?_
  refine go_iconst td_X4_take 77 rfl (q := 146) rfl kc_0 ?_
  refine go_bipush td_X4_take 78 rfl (q := 148) rfl kb_8 ?_
  refine go_copy td_X4_take 79 rfl (q := 151) rfl lk_X4_70 ⟨Nat.le_of_ble_eq_true rfl, Nat.le_of_ble_eq_true rfl⟩ (Ac_21 E g13) (Ac_9 E g13) (t0 := 0) (t1 := 0) rfl rfl (Aas_9 E g13 _) ?_
  refine go_bvg (fun g14 => ?_)
  refine go_aload_n td_X4_take 80 rfl (q := 152) rfl 1 rfl ?_
  refine go_get td_X4_take 81 rfl (q := 155) rfl fl_X4_55 (Ac_15 E g14) rfl ?_
  refine go_iconst td_X4_take 82 rfl (q := 156) rfl kc_0 ?_
  refine go_aload_n td_X4_take 83 rfl (q := 157) rfl 0 rfl ?_
  refine go_get td_X4_take 84 rfl (q := 160) rfl fl_X4_55 (Ac_3 E g14) rfl ?_
  refine go_iconst td_X4_take 85 rfl (q := 161) rfl kc_0 ?_
  refine go_bipush td_X4_take 86 rfl (q := 163) rfl kb_6 ?_
  refine go_copy td_X4_take 87 rfl (q := 166) rfl lk_X4_70 ⟨Nat.le_of_ble_eq_true rfl, Nat.le_of_ble_eq_true rfl⟩ (Ac_22 E g14) (Ac_10 E g14) (t0 := 0) (t1 := 0) rfl rfl (Aas_10 E g14 _) ?_
  refine go_bvg (fun g15 => ?_)
  refine go_aload_n td_X4_take 88 rfl (q := 167) rfl 1 rfl ?_
  refine go_get td_X4_take 89 rfl (q := 170) rfl fl_X4_58 (Ac_15 E g15) rfl ?_
  refine go_iconst td_X4_take 90 rfl (q := 171) rfl kc_0 ?_
  refine go_aload_n td_X4_take 91 rfl (q := 172) rfl 0 rfl ?_
  refine go_get td_X4_take 92 rfl (q := 175) rfl fl_X4_58 (Ac_3 E g15) rfl ?_
  refine go_iconst td_X4_take 93 rfl (q := 176) rfl kc_0 ?_
  refine go_bipush td_X4_take 94 rfl (q := 178) rfl kb_6 ?_
  refine go_copy td_X4_take 95 rfl (q := 181) rfl lk_X4_70 ⟨Nat.le_of_ble_eq_true rfl, Nat.le_of_ble_eq_true rfl⟩ (Ac_23 E g15) (Ac_11 E g15) (t0 := 0) (t1 := 0) rfl rfl (Aas_11 E g15 _) ?_
  refine go_bvg (fun g16 => ?_)
  refine go_aload_n td_X4_take 96 rfl (q := 182) rfl 1 rfl ?_
  refine go_get td_X4_take 97 rfl (q := 185) rfl fl_X4_61 (Ac_15 E g16) rfl ?_
  refine go_iconst td_X4_take 98 rfl (q := 186) rfl kc_0 ?_
  refine go_aload_n td_X4_take 99 rfl (q := 187) rfl 0 rfl ?_
  refine go_get td_X4_take 100 rfl (q := 190) rfl fl_X4_61 (Ac_3 E g16) rfl ?_
  refine go_iconst td_X4_take 101 rfl (q := 191) rfl kc_0 ?_
  refine go_bipush td_X4_take 102 rfl (q := 193) rfl kb_6 ?_
  refine go_copy td_X4_take 103 rfl (q := 196) rfl lk_X4_70 ⟨Nat.le_of_ble_eq_true rfl, Nat.le_of_ble_eq_true rfl⟩ (Ac_24 E g16) (Ac_12 E g16) (t0 := 0) (t1 := 0) rfl rfl (Aas_12 E g16 _) ?_
  refine go_bvg (fun g17 => ?_)
  refine go_aload_n td_X4_take 104 rfl (q := 197) rfl 1 rfl ?_
  refine go_get td_X4_take 105 rfl (q := 200) rfl fl_X4_64 (Ac_15 E g17) rfl ?_
  refine go_iconst td_X4_take 106 rfl (q := 201) rfl kc_0 ?_
  refine go_aload_n td_X4_take 107 rfl (q := 202) rfl 0 rfl ?_
  refine go_get td_X4_take 108 rfl (q := 205) rfl fl_X4_64 (Ac_3 E g17) rfl ?_
  refine go_iconst td_X4_take 109 rfl (q := 206) rfl kc_0 ?_
  refine go_bipush td_X4_take 110 rfl (q := 208) rfl kb_6 ?_
  refine go_copy td_X4_take 111 rfl (q := 211) rfl lk_X4_70 ⟨Nat.le_of_ble_eq_true rfl, Nat.le_of_ble_eq_true rfl⟩ (Ac_25 E g17) (Ac_13 E g17) (t0 := 0) (t1 := 0) rfl rfl (Aas_13 E g17 _) ?_
  refine go_bvg (fun g18 => ?_)
  refine go_aload_n td_X4_take 112 rfl (q := 212) rfl 1 rfl ?_
  refine go_get td_X4_take 113 rfl (q := 215) rfl fl_X4_67 (Ac_15 E g18) rfl ?_
  refine go_iconst td_X4_take 114 rfl (q := 216) rfl kc_0 ?_
  refine go_aload_n td_X4_take 115 rfl (q := 217) rfl 0 rfl ?_
  refine go_get td_X4_take 116 rfl (q := 220) rfl fl_X4_67 (Ac_3 E g18) rfl ?_
  refine go_iconst td_X4_take 117 rfl (q := 221) rfl kc_0 ?_
  refine go_bipush td_X4_take 118 rfl (q := 223) rfl kb_6 ?_
  refine go_copy td_X4_take 119 rfl (q := 226) rfl lk_X4_70 ⟨Nat.le_of_ble_eq_true rfl, Nat.le_of_ble_eq_true rfl⟩ (Ac_26 E g18) (Ac_14 E g18) (t0 := 0) (t1 := 0) rfl rfl (Aas_14 E g18 _) ?_
  refine go_bvg (fun g19 => ?_)
  exact go_vret td_X4_take 120 rfl rfl rfl
def fA_Fleet_take (g : G) : Option (G) := bv (sS g 2700 (g.1 3100)) fun g1 => cp 4 4 0 0 4 (bv (sC g1 28 (va_cpy (g1.2.1 32) (g1.2.1 28) (0 : Int32).toNatClampNeg (0 : Int32).toNatClampNeg (4 : Int32).toNatClampNeg)) fun g2 => cp 8 8 0 0 8 (bv (sC g2 29 (va_cpy (g2.2.1 33) (g2.2.1 29) (0 : Int32).toNatClampNeg (0 : Int32).toNatClampNeg (8 : Int32).toNatClampNeg)) fun g3 => cp 8 8 0 0 8 (bv (sC g3 30 (va_cpy (g3.2.1 34) (g3.2.1 30) (0 : Int32).toNatClampNeg (0 : Int32).toNatClampNeg (8 : Int32).toNatClampNeg)) fun g4 => some g4)))
set_option maxRecDepth 20000 in
set_option maxHeartbeats 4000000 in
theorem ok_fA_Fleet_take (E : Ev)  (g : G)  : Ct (wCA E) yX1_take mi_X1_take [.ref (E.1 27), .ref (E.1 31)] (fun r => (none, r)) g (fA_Fleet_take g) := by
  refine go_enter rfl rfl (Nat.le_of_ble_eq_true rfl) (lv := [(0, .ref (E.1 27)), (1, .ref (E.1 31))]) rfl ?_
  unfold fA_Fleet_take
  refine go_aload_n td_X1_take 0 rfl (q := 1) rfl 0 rfl ?_
  refine go_aload_n td_X1_take 1 rfl (q := 2) rfl 1 rfl ?_
  refine go_get td_X1_take 2 rfl (q := 5) rfl fl_X1_9 (Ac_31 E g) rfl ?_
  refine go_put td_X1_take 3 rfl (q := 8) rfl flp_X1_9 (Ac_27 E g) rfl rfl (Nat.le_of_ble_eq_true rfl) (Aps_2700 E g (g.1 3100)) ?_
  refine go_bvg (fun g1 => ?_)
  refine go_aload_n td_X1_take 4 rfl (q := 9) rfl 1 rfl ?_
  refine go_get td_X1_take 5 rfl (q := 12) rfl fl_X1_15 (Ac_31 E g1) rfl ?_
  refine go_iconst td_X1_take 6 rfl (q := 13) rfl kc_0 ?_
  refine go_aload_n td_X1_take 7 rfl (q := 14) rfl 0 rfl ?_
  refine go_get td_X1_take 8 rfl (q := 17) rfl fl_X1_15 (Ac_27 E g1) rfl ?_
  refine go_iconst td_X1_take 9 rfl (q := 18) rfl kc_0 ?_
  refine go_iconst td_X1_take 10 rfl (q := 19) rfl kc_4 ?_
  refine go_copy td_X1_take 11 rfl (q := 22) rfl lk_X1_25 ⟨Nat.le_of_ble_eq_true rfl, Nat.le_of_ble_eq_true rfl⟩ (Ac_32 E g1) (Ac_28 E g1) (t0 := 0) (t1 := 0) rfl rfl (Aas_28 E g1 _) ?_
  refine go_bvg (fun g2 => ?_)
  refine go_aload_n td_X1_take 12 rfl (q := 23) rfl 1 rfl ?_
  refine go_get td_X1_take 13 rfl (q := 26) rfl fl_X1_19 (Ac_31 E g2) rfl ?_
  refine go_iconst td_X1_take 14 rfl (q := 27) rfl kc_0 ?_
  refine go_aload_n td_X1_take 15 rfl (q := 28) rfl 0 rfl ?_
  refine go_get td_X1_take 16 rfl (q := 31) rfl fl_X1_19 (Ac_27 E g2) rfl ?_
  refine go_iconst td_X1_take 17 rfl (q := 32) rfl kc_0 ?_
  refine go_bipush td_X1_take 18 rfl (q := 34) rfl kb_8 ?_
  refine go_copy td_X1_take 19 rfl (q := 37) rfl lk_X1_25 ⟨Nat.le_of_ble_eq_true rfl, Nat.le_of_ble_eq_true rfl⟩ (Ac_33 E g2) (Ac_29 E g2) (t0 := 0) (t1 := 0) rfl rfl (Aas_29 E g2 _) ?_
  refine go_bvg (fun g3 => ?_)
  refine go_aload_n td_X1_take 20 rfl (q := 38) rfl 1 rfl ?_
  refine go_get td_X1_take 21 rfl (q := 41) rfl fl_X1_22 (Ac_31 E g3) rfl ?_
  refine go_iconst td_X1_take 22 rfl (q := 42) rfl kc_0 ?_
  refine go_aload_n td_X1_take 23 rfl (q := 43) rfl 0 rfl ?_
  refine go_get td_X1_take 24 rfl (q := 46) rfl fl_X1_22 (Ac_27 E g3) rfl ?_
  refine go_iconst td_X1_take 25 rfl (q := 47) rfl kc_0 ?_
  refine go_bipush td_X1_take 26 rfl (q := 49) rfl kb_8 ?_
  refine go_copy td_X1_take 27 rfl (q := 52) rfl lk_X1_25 ⟨Nat.le_of_ble_eq_true rfl, Nat.le_of_ble_eq_true rfl⟩ (Ac_34 E g3) (Ac_30 E g3) (t0 := 0) (t1 := 0) rfl rfl (Aas_30 E g3 _) ?_
  refine go_bvg (fun g4 => ?_)
  exact go_vret td_X1_take 28 rfl rfl rfl
def fA_Sky_adopt (g : G) : Option (G) := bv (sS g 11801 (((1 : Int32) <<< ((g.1 300) &&& 31)) - 1)) fun g1 => bv (sS g1 11802 0) fun g2 => Lp (α := Int32 × G) (fun rec3 s3 => (if (s3.2.1 301) ≤ s3.1 then Lp (α := Int32 × G) (fun rec4 s4 => (if 8 ≤ s4.1 then some s4.2 else ck 8 s4.1 (bv (sA s4.2 121 (s4.1 : Int32).toNatClampNeg (-1)) fun g5 => rec4 (s4.1 + 1, g5)))) FU (0, s3.2) else lj (α := UInt32) (fun b6 => ck 12 s3.1 (bv (sH s3.2 (s3.1 : Int32).toNatClampNeg b6) fun g7 => rec3 (s3.1 + 1, g7))) fun J6 => (if (s3.2.1 304) ≤ 0 then J6 FP.fconst0 else ag 12 (s3.2.2.1 4) s3.1 fun x8 => nf (FP.fdiv (FP.i2f x8) (FP.i2f (s3.2.1 304))) (J6 (FP.fdiv (FP.i2f x8) (FP.i2f (s3.2.1 304))))))) FU (0, g2)
set_option maxRecDepth 20000 in
set_option maxHeartbeats 4000000 in
theorem ok_fA_Sky_adopt (E : Ev)  (g : G)  : Ct (wCA E) yX6_adopt mi_X6_adopt [.ref (E.1 118)] (fun r => (none, r)) g (fA_Sky_adopt g) := by
  refine go_enter rfl rfl (Nat.le_of_ble_eq_true rfl) (lv := [(0, .ref (E.1 118))]) rfl ?_
  unfold fA_Sky_adopt
  refine go_aload_n td_X6_adopt 0 rfl (q := 1) rfl 0 rfl ?_
  refine go_iconst td_X6_adopt 1 rfl (q := 2) rfl kc_1 ?_
  refine go_aload_n td_X6_adopt 2 rfl (q := 3) rfl 0 rfl ?_
  refine go_get td_X6_adopt 3 rfl (q := 6) rfl fl_X6_53 (Ac_118 E g) rfl ?_
  refine go_get td_X6_adopt 4 rfl (q := 9) rfl fl_X6_57 (Ac_3 E g) rfl ?_
  refine go_ishl td_X6_adopt 5 rfl (q := 10) rfl ?_
  refine go_iconst td_X6_adopt 6 rfl (q := 11) rfl kc_1 ?_
  refine go_isub td_X6_adopt 7 rfl (q := 12) rfl ?_
  refine go_put td_X6_adopt 8 rfl (q := 15) rfl flp_X6_9 (Ac_118 E g) rfl rfl (Nat.le_of_ble_eq_true rfl) (Aps_11801 E g (((1 : Int32) <<< ((g.1 300) &&& 31)) - 1)) ?_
  refine go_bvg (fun g1 => ?_)
  refine go_aload_n td_X6_adopt 9 rfl (q := 16) rfl 0 rfl ?_
  refine go_iconst td_X6_adopt 10 rfl (q := 17) rfl kc_0 ?_
  refine go_put td_X6_adopt 11 rfl (q := 20) rfl flp_X6_15 (Ac_118 E g1) rfl rfl (Nat.le_of_ble_eq_true rfl) (Aps_11802 E g1 0) ?_
  refine go_bvg (fun g2 => ?_)
  refine go_iconst td_X6_adopt 12 rfl (q := 21) rfl kc_0 ?_
  refine go_istore_n [(1, .int 0), (0, .ref (E.1 118))] td_X6_adopt 13 rfl (q := 22) rfl (Nat.le_of_ble_eq_true rfl) rfl ?_
  refine go_pick [1, 0] (lv' := [(0, .ref (E.1 118)), (1, .int 0)]) rfl ?_
  refine (show ∀ (u3_0 : Int32) (u3_1 : G), Go (wCA E) _ _ u3_1 22 [(0, .ref (E.1 118)), (1, .int u3_0)] [] (Lp (α := Int32 × G) _ FU (u3_0, u3_1)) from ?_) 0 g2
  intro u3_0 u3_1
  refine go_Lp (α := Int32 × G) (fun s3 => s3.2) (fun s3 => [(0, .ref (E.1 118)), (1, .int s3.1)]) ?_ FU (u3_0, u3_1)
  intro rec3 hrec3 s3
  have krec3 : ∀ (u3_0 : Int32) (u3_1 : G), Go (wCA E) _ _ u3_1 22 [(0, .ref (E.1 118)), (1, .int u3_0)] [] (rec3 (u3_0, u3_1)) := fun u3_0 u3_1 => hrec3 (u3_0, u3_1)
  refine go_iload_n td_X6_adopt 14 rfl (q := 23) rfl 1 rfl ?_
  refine go_aload_n td_X6_adopt 15 rfl (q := 24) rfl 0 rfl ?_
  refine go_get td_X6_adopt 16 rfl (q := 27) rfl fl_X6_53 (Ac_118 E s3.2) rfl ?_
  refine go_get td_X6_adopt 17 rfl (q := 30) rfl fl_X6_62 (Ac_3 E s3.2) rfl ?_
  refine go_icmp_ge 78 td_X6_adopt 18 rfl rfl (q := 33) rfl (fun _ => ?_) (fun _ => ?_)
  · refine go_iconst td_X6_adopt 42 rfl (q := 79) rfl kc_0 ?_
    refine go_istore_n [(1, .int 0), (0, .ref (E.1 118))] td_X6_adopt 43 rfl (q := 80) rfl (Nat.le_of_ble_eq_true rfl) rfl ?_
    refine go_pick [1, 0] (lv' := [(0, .ref (E.1 118)), (1, .int 0)]) rfl ?_
    refine (show ∀ (u4_0 : Int32) (u4_1 : G), Go (wCA E) _ _ u4_1 80 [(0, .ref (E.1 118)), (1, .int u4_0)] [] (Lp (α := Int32 × G) _ FU (u4_0, u4_1)) from ?_) 0 s3.2
    intro u4_0 u4_1
    refine go_Lp (α := Int32 × G) (fun s4 => s4.2) (fun s4 => [(0, .ref (E.1 118)), (1, .int s4.1)]) ?_ FU (u4_0, u4_1)
    intro rec4 hrec4 s4
    have krec4 : ∀ (u4_0 : Int32) (u4_1 : G), Go (wCA E) _ _ u4_1 80 [(0, .ref (E.1 118)), (1, .int u4_0)] [] (rec4 (u4_0, u4_1)) := fun u4_0 u4_1 => hrec4 (u4_0, u4_1)
    refine go_iload_n td_X6_adopt 44 rfl (q := 81) rfl 1 rfl ?_
    refine go_bipush td_X6_adopt 45 rfl (q := 83) rfl kb_8 ?_
    refine go_icmp_ge 99 td_X6_adopt 46 rfl rfl (q := 86) rfl (fun _ => ?_) (fun _ => ?_)
    · exact go_vret td_X6_adopt 54 rfl rfl rfl
    · refine go_aload_n td_X6_adopt 47 rfl (q := 87) rfl 0 rfl ?_
      refine go_get td_X6_adopt 48 rfl (q := 90) rfl fl_X6_26 (Ac_118 E s4.2) rfl ?_
      refine go_iload_n td_X6_adopt 49 rfl (q := 91) rfl 1 rfl ?_
      refine go_iconst td_X6_adopt 50 rfl (q := 92) rfl kc_m1 ?_
      refine go_ast td_X6_adopt 51 rfl (q := 93) rfl (Ac_121 E s4.2) (t0 := 0) rfl (Aas_121 E s4.2 _) ?_
      refine go_bvg (fun g5 => ?_)
      refine go_iinc [(1, .int (s4.1 + 1)), (0, .ref (E.1 118))] td_X6_adopt 52 rfl (q := 96) rfl 1 rfl kc_1 (Nat.le_of_ble_eq_true rfl) rfl ?_
      refine go_goto td_X6_adopt 53 rfl (q := 80) rfl ?_
      refine go_pick [1, 0] (lv' := [(0, .ref (E.1 118)), (1, .int (s4.1 + 1))]) rfl ?_
      exact krec4 (s4.1 + 1) g5
  · refine go_aload_n td_X6_adopt 19 rfl (q := 34) rfl 0 rfl ?_
    refine go_get td_X6_adopt 20 rfl (q := 37) rfl fl_X6_22 (Ac_118 E s3.2) rfl ?_
    refine go_iload_n td_X6_adopt 21 rfl (q := 38) rfl 1 rfl ?_
    refine go_aload_n td_X6_adopt 22 rfl (q := 39) rfl 0 rfl ?_
    refine go_get td_X6_adopt 23 rfl (q := 42) rfl fl_X6_53 (Ac_118 E s3.2) rfl ?_
    refine go_get td_X6_adopt 24 rfl (q := 45) rfl fl_X6_65 (Ac_3 E s3.2) rfl ?_
    refine go_ljX (α := UInt32) (fun b6 => [(0, .ref (E.1 118)), (1, .int s3.1)]) (fun b6 => [.float b6, .int s3.1, .ref (E.1 120)]) (fun b6 => s3.2) 71 ?_ ?_
    · intro b6
      refine go_fast td_X6_adopt 39 rfl (q := 72) rfl (Ac_120 E s3.2) (t0 := 1) rfl (Afs_120 E s3.2 _ _) ?_
      refine go_bvg (fun g7 => ?_)
      refine go_iinc [(1, .int (s3.1 + 1)), (0, .ref (E.1 118))] td_X6_adopt 40 rfl (q := 75) rfl 1 rfl kc_1 (Nat.le_of_ble_eq_true rfl) rfl ?_
      refine go_goto td_X6_adopt 41 rfl (q := 22) rfl ?_
      refine go_pick [1, 0] (lv' := [(0, .ref (E.1 118)), (1, .int (s3.1 + 1))]) rfl ?_
      exact krec3 (s3.1 + 1) g7
    intro J6 hJ6
    have kJ6 : ∀ (u6_0 : UInt32), Go (wCA E) _ _ s3.2 71 [(0, .ref (E.1 118)), (1, .int s3.1)] [.float u6_0, .int s3.1, .ref (E.1 120)] (J6 u6_0) := fun u6_0 => hJ6 u6_0
    refine go_if_le 70 td_X6_adopt 25 rfl rfl (q := 48) rfl (fun _ => ?_) (fun _ => ?_)
    · refine go_fconst0 td_X6_adopt 38 rfl (q := 71) rfl ?_
      refine go_pick [0, 1] (lv' := [(0, .ref (E.1 118)), (1, .int s3.1)]) rfl ?_
      exact kJ6 FP.fconst0
    · refine go_aload_n td_X6_adopt 26 rfl (q := 49) rfl 0 rfl ?_
      refine go_get td_X6_adopt 27 rfl (q := 52) rfl fl_X6_53 (Ac_118 E s3.2) rfl ?_
      refine go_get td_X6_adopt 28 rfl (q := 55) rfl fl_X6_68 (Ac_3 E s3.2) rfl ?_
      refine go_iload_n td_X6_adopt 29 rfl (q := 56) rfl 1 rfl ?_
      refine go_ald td_X6_adopt 30 rfl (q := 57) rfl (Ac_4 E s3.2) (t0 := 0) rfl (fun x8 => ?_)
      refine go_i2f td_X6_adopt 31 rfl (q := 58) rfl ?_
      refine go_aload_n td_X6_adopt 32 rfl (q := 59) rfl 0 rfl ?_
      refine go_get td_X6_adopt 33 rfl (q := 62) rfl fl_X6_53 (Ac_118 E s3.2) rfl ?_
      refine go_get td_X6_adopt 34 rfl (q := 65) rfl fl_X6_65 (Ac_3 E s3.2) rfl ?_
      refine go_i2f td_X6_adopt 35 rfl (q := 66) rfl ?_
      refine go_fdiv td_X6_adopt 36 rfl (q := 67) rfl ?_
      refine go_goto td_X6_adopt 37 rfl (q := 71) rfl ?_
      refine go_pick [0, 1] (lv' := [(0, .ref (E.1 118)), (1, .int s3.1)]) rfl ?_
      exact kJ6 (FP.fdiv (FP.i2f x8) (FP.i2f (s3.2.1 304)))
def fA_History_forget (g : G) : Option (G) := bv (sS g 3600 0) fun g1 => some g1
set_option maxRecDepth 20000 in
set_option maxHeartbeats 4000000 in
theorem ok_fA_History_forget (E : Ev)  (g : G)  : Ct (wCA E) yX2_forget mi_X2_forget [.ref (E.1 36)] (fun r => (none, r)) g (fA_History_forget g) := by
  refine go_enter rfl rfl (Nat.le_of_ble_eq_true rfl) (lv := [(0, .ref (E.1 36))]) rfl ?_
  unfold fA_History_forget
  refine go_aload_n td_X2_forget 0 rfl (q := 1) rfl 0 rfl ?_
  refine go_iconst td_X2_forget 1 rfl (q := 2) rfl kc_0 ?_
  refine go_put td_X2_forget 2 rfl (q := 5) rfl flp_X2_9 (Ac_36 E g) rfl rfl (Nat.le_of_ble_eq_true rfl) (Aps_3600 E g 0) ?_
  refine go_bvg (fun g1 => ?_)
  exact go_vret td_X2_forget 3 rfl rfl rfl
def fA_Notes_forget (g : G) : Option (G) := bv (sS g 13800 0) fun g1 => some g1
set_option maxRecDepth 20000 in
set_option maxHeartbeats 4000000 in
theorem ok_fA_Notes_forget (E : Ev)  (g : G)  : Ct (wCA E) yX3_forget mi_X3_forget [.ref (E.1 138)] (fun r => (none, r)) g (fA_Notes_forget g) := by
  refine go_enter rfl rfl (Nat.le_of_ble_eq_true rfl) (lv := [(0, .ref (E.1 138))]) rfl ?_
  unfold fA_Notes_forget
  refine go_aload_n td_X3_forget 0 rfl (q := 1) rfl 0 rfl ?_
  refine go_iconst td_X3_forget 1 rfl (q := 2) rfl kc_0 ?_
  refine go_put td_X3_forget 2 rfl (q := 5) rfl flp_X3_9 (Ac_138 E g) rfl rfl (Nat.le_of_ble_eq_true rfl) (Aps_13800 E g 0) ?_
  refine go_bvg (fun g1 => ?_)
  exact go_vret td_X3_forget 3 rfl rfl rfl
def fA_D_desk (g : G) : Option (Int32 × G) := Option.bind (fA_Reader_read g) fun x1 => Option.bind (fA_Tape_cutTo 0 x1.2) fun x2 => bv (sS x2 15 (x2.1 3500)) fun g3 => bv (sS g3 16 (g3.1 3501)) fun g4 => (if x1.1 = 0 then Option.bind (fA_D_refuse 1 g4) fun x11 => some (x11.1, x11.2) else Option.bind (fA_Plan_take g4) fun x5 => Option.bind (fA_Fleet_take x5) fun x6 => Option.bind (fA_Sky_adopt x6) fun x7 => Option.bind (fA_History_forget x7) fun x8 => Option.bind (fA_Notes_forget x8) fun x9 => bv (sS x9 18 0) fun g10 => some (g10.1 3502, g10))
set_option maxRecDepth 20000 in
set_option maxHeartbeats 4000000 in
theorem ok_fA_D_desk (E : Ev)  (g : G)  : Ct (wCA E) yX11_desk mi_X11_desk [.ref (E.1 0)] (fun r => (some (.int r.1), r.2)) g (fA_D_desk g) := by
  refine go_enter rfl rfl (Nat.le_of_ble_eq_true rfl) (lv := [(0, .ref (E.1 0))]) rfl ?_
  unfold fA_D_desk
  refine go_aload_n td_X11_desk 0 rfl (q := 1) rfl 0 rfl ?_
  refine go_get td_X11_desk 1 rfl (q := 4) rfl fl_X11_41 (Ac_0 E g) rfl ?_
  refine go_callV td_X11_desk 2 rfl (q := 7) rfl (XkA E) lk_X11_137 (ok_fA_Reader_read E g) ⟨rfl, rfl, Nat.le_of_ble_eq_true rfl, Nat.le_of_ble_eq_true rfl⟩ rfl rfl (Nat.le_of_ble_eq_true rfl) (Ac_35 E g) rfl (fun x1 => ?_)
  show Go (wCA E) _ _ x1.2 7 _ [.int x1.1] _
  refine go_istore_n [(1, .int x1.1), (0, .ref (E.1 0))] td_X11_desk 3 rfl (q := 8) rfl (Nat.le_of_ble_eq_true rfl) rfl ?_
  refine go_aload_n td_X11_desk 4 rfl (q := 9) rfl 1 rfl ?_
  refine go_get td_X11_desk 5 rfl (q := 12) rfl fl_X11_12 (Ac_0 E x1.2) rfl ?_
  refine go_iconst td_X11_desk 6 rfl (q := 13) rfl kc_0 ?_
  refine go_callV td_X11_desk 7 rfl (q := 16) rfl (XkA E) lk_X11_134 (ok_fA_Tape_cutTo E 0 x1.2) ⟨rfl, rfl, Nat.le_of_ble_eq_true rfl, Nat.le_of_ble_eq_true rfl⟩ rfl rfl (Nat.le_of_ble_eq_true rfl) (Ac_1 E x1.2) rfl (fun x2 => ?_)
  show Go (wCA E) _ _ x2 16 _ [] _
  refine go_aload_n td_X11_desk 8 rfl (q := 17) rfl 1 rfl ?_
  refine go_aload_n td_X11_desk 9 rfl (q := 18) rfl 1 rfl ?_
  refine go_get td_X11_desk 10 rfl (q := 21) rfl fl_X11_41 (Ac_0 E x2) rfl ?_
  refine go_get td_X11_desk 11 rfl (q := 24) rfl fl_X11_141 (Ac_35 E x2) rfl ?_
  refine go_put td_X11_desk 12 rfl (q := 27) rfl flp_X11_104 (Ac_0 E x2) rfl rfl (Nat.le_of_ble_eq_true rfl) (Aps_15 E x2 (x2.1 3500)) ?_
  refine go_bvg (fun g3 => ?_)
  refine go_aload_n td_X11_desk 13 rfl (q := 28) rfl 1 rfl ?_
  refine go_aload_n td_X11_desk 14 rfl (q := 29) rfl 1 rfl ?_
  refine go_get td_X11_desk 15 rfl (q := 32) rfl fl_X11_41 (Ac_0 E g3) rfl ?_
  refine go_get td_X11_desk 16 rfl (q := 35) rfl fl_X11_144 (Ac_35 E g3) rfl ?_
  refine go_put td_X11_desk 17 rfl (q := 38) rfl flp_X11_107 (Ac_0 E g3) rfl rfl (Nat.le_of_ble_eq_true rfl) (Aps_16 E g3 (g3.1 3501)) ?_
  refine go_bvg (fun g4 => ?_)
  refine go_iload_n td_X11_desk 18 rfl (q := 39) rfl 0 rfl ?_
  refine go_if_ne 48 td_X11_desk 19 rfl rfl (q := 42) rfl (fun _ => ?_) (fun _ => ?_)
  · refine go_aload_n td_X11_desk 24 rfl (q := 49) rfl 1 rfl ?_
    refine go_get td_X11_desk 25 rfl (q := 52) rfl fl_X11_19 (Ac_0 E g4) rfl ?_
    refine go_aload_n td_X11_desk 26 rfl (q := 53) rfl 1 rfl ?_
    refine go_get td_X11_desk 27 rfl (q := 56) rfl fl_X11_23 (Ac_0 E g4) rfl ?_
    refine go_callV td_X11_desk 28 rfl (q := 59) rfl (XkA E) lk_X11_147 (ok_fA_Plan_take E g4) ⟨rfl, rfl, Nat.le_of_ble_eq_true rfl, Nat.le_of_ble_eq_true rfl⟩ rfl rfl (Nat.le_of_ble_eq_true rfl) (Ac_3 E g4) rfl (fun x5 => ?_)
    show Go (wCA E) _ _ x5 59 _ [] _
    refine go_aload_n td_X11_desk 29 rfl (q := 60) rfl 1 rfl ?_
    refine go_get td_X11_desk 30 rfl (q := 63) rfl fl_X11_29 (Ac_0 E x5) rfl ?_
    refine go_aload_n td_X11_desk 31 rfl (q := 64) rfl 1 rfl ?_
    refine go_get td_X11_desk 32 rfl (q := 67) rfl fl_X11_33 (Ac_0 E x5) rfl ?_
    refine go_callV td_X11_desk 33 rfl (q := 70) rfl (XkA E) lk_X11_150 (ok_fA_Fleet_take E x5) ⟨rfl, rfl, Nat.le_of_ble_eq_true rfl, Nat.le_of_ble_eq_true rfl⟩ rfl rfl (Nat.le_of_ble_eq_true rfl) (Ac_27 E x5) rfl (fun x6 => ?_)
    show Go (wCA E) _ _ x6 70 _ [] _
    refine go_aload_n td_X11_desk 34 rfl (q := 71) rfl 1 rfl ?_
    refine go_get td_X11_desk 35 rfl (q := 74) rfl fl_X11_57 (Ac_0 E x6) rfl ?_
    refine go_callV td_X11_desk 36 rfl (q := 77) rfl (XkA E) lk_X11_153 (ok_fA_Sky_adopt E x6) ⟨rfl, rfl, Nat.le_of_ble_eq_true rfl, Nat.le_of_ble_eq_true rfl⟩ rfl rfl (Nat.le_of_ble_eq_true rfl) (Ac_118 E x6) rfl (fun x7 => ?_)
    show Go (wCA E) _ _ x7 77 _ [] _
    refine go_aload_n td_X11_desk 37 rfl (q := 78) rfl 1 rfl ?_
    refine go_get td_X11_desk 38 rfl (q := 81) rfl fl_X11_48 (Ac_0 E x7) rfl ?_
    refine go_callV td_X11_desk 39 rfl (q := 84) rfl (XkA E) lk_X11_156 (ok_fA_History_forget E x7) ⟨rfl, rfl, Nat.le_of_ble_eq_true rfl, Nat.le_of_ble_eq_true rfl⟩ rfl rfl (Nat.le_of_ble_eq_true rfl) (Ac_36 E x7) rfl (fun x8 => ?_)
    show Go (wCA E) _ _ x8 84 _ [] _
    refine go_aload_n td_X11_desk 40 rfl (q := 85) rfl 1 rfl ?_
    refine go_get td_X11_desk 41 rfl (q := 88) rfl fl_X11_89 (Ac_0 E x8) rfl ?_
    refine go_callV td_X11_desk 42 rfl (q := 91) rfl (XkA E) lk_X11_159 (ok_fA_Notes_forget E x8) ⟨rfl, rfl, Nat.le_of_ble_eq_true rfl, Nat.le_of_ble_eq_true rfl⟩ rfl rfl (Nat.le_of_ble_eq_true rfl) (Ac_138 E x8) rfl (fun x9 => ?_)
    show Go (wCA E) _ _ x9 91 _ [] _
    refine go_aload_n td_X11_desk 43 rfl (q := 92) rfl 1 rfl ?_
    refine go_iconst td_X11_desk 44 rfl (q := 93) rfl kc_0 ?_
    refine go_put td_X11_desk 45 rfl (q := 96) rfl flp_X11_114 (Ac_0 E x9) rfl rfl (Nat.le_of_ble_eq_true rfl) (Aps_18 E x9 0) ?_
    refine go_bvg (fun g10 => ?_)
    refine go_aload_n td_X11_desk 46 rfl (q := 97) rfl 1 rfl ?_
    refine go_get td_X11_desk 47 rfl (q := 100) rfl fl_X11_41 (Ac_0 E g10) rfl ?_
    refine go_get td_X11_desk 48 rfl (q := 103) rfl fl_X11_160 (Ac_35 E g10) rfl ?_
    exact go_iret td_X11_desk 49 rfl rfl rfl
  · refine go_aload_n td_X11_desk 20 rfl (q := 43) rfl 1 rfl ?_
    refine go_iconst td_X11_desk 21 rfl (q := 44) rfl kc_1 ?_
    refine go_callV td_X11_desk 22 rfl (q := 47) rfl (XkA E) lk_X11_122 (ok_fA_D_refuse E 1 g4) ⟨rfl, rfl, Nat.le_of_ble_eq_true rfl, Nat.le_of_ble_eq_true rfl⟩ rfl rfl (Nat.le_of_ble_eq_true rfl) (Ac_0 E g4) rfl (fun x11 => ?_)
    show Go (wCA E) _ _ x11.2 47 _ [.int x11.1] _
    exact go_iret td_X11_desk 23 rfl rfl rfl
def fA_D_fault (a1 : Int32) (g : G) : Option (Int32) := (if a1 = 0 then some (g.1 15) else if a1 = 1 then some (g.1 16) else some (-1))
set_option maxRecDepth 20000 in
set_option maxHeartbeats 4000000 in
theorem ok_fA_D_fault (E : Ev) (a1 : Int32) (g : G)  : Ct (wCA E) yX11_fault mi_X11_fault [.ref (E.1 0), .int a1] (fun r => (some (.int r), g)) g (fA_D_fault a1 g) := by
  refine go_enter rfl rfl (Nat.le_of_ble_eq_true rfl) (lv := [(0, .ref (E.1 0)), (1, .int a1)]) rfl ?_
  unfold fA_D_fault
  refine go_iload_n td_X11_fault 0 rfl (q := 1) rfl 1 rfl ?_
  refine go_lcase (v := 0) 28 td_X11_fault 1 rfl ⟨by decide, rfl, rfl⟩ ?_ (fun n1 => ?_)
  · refine go_aload_n td_X11_fault 2 rfl (q := 29) rfl 0 rfl ?_
    refine go_get td_X11_fault 3 rfl (q := 32) rfl fl_X11_104 (Ac_0 E g) rfl ?_
    exact go_iret td_X11_fault 4 rfl rfl rfl
  refine go_lcase (v := 1) 33 td_X11_fault 1 rfl ⟨by decide, rfl, rfl⟩ ?_ (fun n2 => ?_)
  · refine go_aload_n td_X11_fault 5 rfl (q := 34) rfl 0 rfl ?_
    refine go_get td_X11_fault 6 rfl (q := 37) rfl fl_X11_107 (Ac_0 E g) rfl ?_
    exact go_iret td_X11_fault 7 rfl rfl rfl
  refine go_ldef 38 td_X11_fault 1 rfl (sw_X11_fault_1 n1 n2) rfl ?_
  refine go_iconst td_X11_fault 8 rfl (q := 39) rfl kc_m1 ?_
  exact go_iret td_X11_fault 9 rfl rfl rfl
def fA_Integer_bitCount (a1 : Int32) (g : G) : Option (Int32) := bv (a1 - ((((a1 : Int32).toUInt32 >>> ((1 : Int32).toUInt32 &&& Int32.toUInt32 31)).toInt32) &&& 1431655765)) fun x1 => bv ((x1 &&& 858993459) + ((((x1 : Int32).toUInt32 >>> ((2 : Int32).toUInt32 &&& Int32.toUInt32 31)).toInt32) &&& 858993459)) fun x2 => bv ((x2 + (((x2 : Int32).toUInt32 >>> ((4 : Int32).toUInt32 &&& Int32.toUInt32 31)).toInt32)) &&& 252645135) fun x3 => bv (x3 + (((x3 : Int32).toUInt32 >>> ((8 : Int32).toUInt32 &&& Int32.toUInt32 31)).toInt32)) fun x4 => bv (x4 + (((x4 : Int32).toUInt32 >>> ((16 : Int32).toUInt32 &&& Int32.toUInt32 31)).toInt32)) fun x5 => some (x5 &&& 63)
set_option maxRecDepth 20000 in
set_option maxHeartbeats 4000000 in
theorem ok_fA_Integer_bitCount (E : Ev) (a1 : Int32) (g : G)  : Ct (wCA E) yJ6_bitCount_0f7a4 mi_J6_bitCount_0f7a4 [.int a1] (fun r => (some (.int r), g)) g (fA_Integer_bitCount a1 g) := by
  refine go_enter rfl rfl (Nat.le_of_ble_eq_true rfl) (lv := [(0, .int a1)]) rfl ?_
  unfold fA_Integer_bitCount
  refine go_iload_n td_J6_bitCount_0f7a4 0 rfl (q := 1) rfl 0 rfl ?_
  refine go_iload_n td_J6_bitCount_0f7a4 1 rfl (q := 2) rfl 0 rfl ?_
  refine go_iconst td_J6_bitCount_0f7a4 2 rfl (q := 3) rfl kc_1 ?_
  refine go_iushr td_J6_bitCount_0f7a4 3 rfl (q := 4) rfl ?_
  refine go_ldcw td_J6_bitCount_0f7a4 4 rfl (q := 7) rfl cn_J6_265 ?_
  refine go_iand td_J6_bitCount_0f7a4 5 rfl (q := 8) rfl ?_
  refine go_isub td_J6_bitCount_0f7a4 6 rfl (q := 9) rfl ?_
  refine go_bvi (fun x1 => ?_)
  refine go_istore_n [(0, .int x1)] td_J6_bitCount_0f7a4 7 rfl (q := 10) rfl (Nat.le_of_ble_eq_true rfl) rfl ?_
  refine go_iload_n td_J6_bitCount_0f7a4 8 rfl (q := 11) rfl 0 rfl ?_
  refine go_ldcw td_J6_bitCount_0f7a4 9 rfl (q := 14) rfl cn_J6_266 ?_
  refine go_iand td_J6_bitCount_0f7a4 10 rfl (q := 15) rfl ?_
  refine go_iload_n td_J6_bitCount_0f7a4 11 rfl (q := 16) rfl 0 rfl ?_
  refine go_iconst td_J6_bitCount_0f7a4 12 rfl (q := 17) rfl kc_2 ?_
  refine go_iushr td_J6_bitCount_0f7a4 13 rfl (q := 18) rfl ?_
  refine go_ldcw td_J6_bitCount_0f7a4 14 rfl (q := 21) rfl cn_J6_266 ?_
  refine go_iand td_J6_bitCount_0f7a4 15 rfl (q := 22) rfl ?_
  refine go_iadd td_J6_bitCount_0f7a4 16 rfl (q := 23) rfl ?_
  refine go_bvi (fun x2 => ?_)
  refine go_istore_n [(0, .int x2)] td_J6_bitCount_0f7a4 17 rfl (q := 24) rfl (Nat.le_of_ble_eq_true rfl) rfl ?_
  refine go_iload_n td_J6_bitCount_0f7a4 18 rfl (q := 25) rfl 0 rfl ?_
  refine go_iload_n td_J6_bitCount_0f7a4 19 rfl (q := 26) rfl 0 rfl ?_
  refine go_iconst td_J6_bitCount_0f7a4 20 rfl (q := 27) rfl kc_4 ?_
  refine go_iushr td_J6_bitCount_0f7a4 21 rfl (q := 28) rfl ?_
  refine go_iadd td_J6_bitCount_0f7a4 22 rfl (q := 29) rfl ?_
  refine go_ldcw td_J6_bitCount_0f7a4 23 rfl (q := 32) rfl cn_J6_267 ?_
  refine go_iand td_J6_bitCount_0f7a4 24 rfl (q := 33) rfl ?_
  refine go_bvi (fun x3 => ?_)
  refine go_istore_n [(0, .int x3)] td_J6_bitCount_0f7a4 25 rfl (q := 34) rfl (Nat.le_of_ble_eq_true rfl) rfl ?_
  refine go_iload_n td_J6_bitCount_0f7a4 26 rfl (q := 35) rfl 0 rfl ?_
  refine go_iload_n td_J6_bitCount_0f7a4 27 rfl (q := 36) rfl 0 rfl ?_
  refine go_bipush td_J6_bitCount_0f7a4 28 rfl (q := 38) rfl kb_8 ?_
  refine go_iushr td_J6_bitCount_0f7a4 29 rfl (q := 39) rfl ?_
  refine go_iadd td_J6_bitCount_0f7a4 30 rfl (q := 40) rfl ?_
  refine go_bvi (fun x4 => ?_)
  refine go_istore_n [(0, .int x4)] td_J6_bitCount_0f7a4 31 rfl (q := 41) rfl (Nat.le_of_ble_eq_true rfl) rfl ?_
  refine go_iload_n td_J6_bitCount_0f7a4 32 rfl (q := 42) rfl 0 rfl ?_
  refine go_iload_n td_J6_bitCount_0f7a4 33 rfl (q := 43) rfl 0 rfl ?_
  refine go_bipush td_J6_bitCount_0f7a4 34 rfl (q := 45) rfl kb_16 ?_
  refine go_iushr td_J6_bitCount_0f7a4 35 rfl (q := 46) rfl ?_
  refine go_iadd td_J6_bitCount_0f7a4 36 rfl (q := 47) rfl ?_
  refine go_bvi (fun x5 => ?_)
  refine go_istore_n [(0, .int x5)] td_J6_bitCount_0f7a4 37 rfl (q := 48) rfl (Nat.le_of_ble_eq_true rfl) rfl ?_
  refine go_iload_n td_J6_bitCount_0f7a4 38 rfl (q := 49) rfl 0 rfl ?_
  refine go_bipush td_J6_bitCount_0f7a4 39 rfl (q := 51) rfl kb_63 ?_
  refine go_iand td_J6_bitCount_0f7a4 40 rfl (q := 52) rfl ?_
  exact go_iret td_J6_bitCount_0f7a4 41 rfl rfl rfl
def fA_D_has (a1 : Int32) (g : G) : Option (Int32) := (if a1 = 0 then some (g.1 300) else if a1 = 1 then some (g.1 301) else if a1 = 2 then some (g.1 302) else if a1 = 3 then some (g.1 305) else if a1 = 4 then some (g.1 306) else if a1 = 5 then Option.bind (fA_Integer_bitCount (g.1 2700) g) fun x6 => some x6 else if a1 = 6 then some (g.1 307) else if a1 = 7 then some (g.1 303) else if a1 = 8 then some (g.1 304) else if a1 = 9 then some (g.1 13800) else if a1 = 10 then some (g.1 3600) else if a1 = 11 then some ((g.2.2.1 : Int64).toInt32) else some (-1))
set_option maxRecDepth 20000 in
set_option maxHeartbeats 4000000 in
theorem ok_fA_D_has (E : Ev) (a1 : Int32) (g : G)  : Ct (wCA E) yX11_has mi_X11_has [.ref (E.1 0), .int a1] (fun r => (some (.int r), g)) g (fA_D_has a1 g) := by
  refine go_enter rfl rfl (Nat.le_of_ble_eq_true rfl) (lv := [(0, .ref (E.1 0)), (1, .int a1)]) rfl ?_
  unfold fA_D_has
  refine go_iload_n td_X11_has 0 rfl (q := 1) rfl 1 rfl ?_
  refine go_tcase (v := 0) 64 td_X11_has 1 rfl ⟨by decide, by decide, rfl, rfl⟩ ?_ (fun n1 => ?_)
  · refine go_aload_n td_X11_has 2 rfl (q := 65) rfl 0 rfl ?_
    refine go_get td_X11_has 3 rfl (q := 68) rfl fl_X11_19 (Ac_0 E g) rfl ?_
    refine go_get td_X11_has 4 rfl (q := 71) rfl fl_X11_163 (Ac_3 E g) rfl ?_
    exact go_iret td_X11_has 5 rfl rfl rfl
  refine go_tcase (v := 1) 72 td_X11_has 1 rfl ⟨by decide, by decide, rfl, rfl⟩ ?_ (fun n2 => ?_)
  · refine go_aload_n td_X11_has 6 rfl (q := 73) rfl 0 rfl ?_
    refine go_get td_X11_has 7 rfl (q := 76) rfl fl_X11_19 (Ac_0 E g) rfl ?_
    refine go_get td_X11_has 8 rfl (q := 79) rfl fl_X11_166 (Ac_3 E g) rfl ?_
    exact go_iret td_X11_has 9 rfl rfl rfl
  refine go_tcase (v := 2) 80 td_X11_has 1 rfl ⟨by decide, by decide, rfl, rfl⟩ ?_ (fun n3 => ?_)
  · refine go_aload_n td_X11_has 10 rfl (q := 81) rfl 0 rfl ?_
    refine go_get td_X11_has 11 rfl (q := 84) rfl fl_X11_19 (Ac_0 E g) rfl ?_
    refine go_get td_X11_has 12 rfl (q := 87) rfl fl_X11_169 (Ac_3 E g) rfl ?_
    exact go_iret td_X11_has 13 rfl rfl rfl
  refine go_tcase (v := 3) 88 td_X11_has 1 rfl ⟨by decide, by decide, rfl, rfl⟩ ?_ (fun n4 => ?_)
  · refine go_aload_n td_X11_has 14 rfl (q := 89) rfl 0 rfl ?_
    refine go_get td_X11_has 15 rfl (q := 92) rfl fl_X11_19 (Ac_0 E g) rfl ?_
    refine go_get td_X11_has 16 rfl (q := 95) rfl fl_X11_172 (Ac_3 E g) rfl ?_
    exact go_iret td_X11_has 17 rfl rfl rfl
  refine go_tcase (v := 4) 96 td_X11_has 1 rfl ⟨by decide, by decide, rfl, rfl⟩ ?_ (fun n5 => ?_)
  · refine go_aload_n td_X11_has 18 rfl (q := 97) rfl 0 rfl ?_
    refine go_get td_X11_has 19 rfl (q := 100) rfl fl_X11_19 (Ac_0 E g) rfl ?_
    refine go_get td_X11_has 20 rfl (q := 103) rfl fl_X11_175 (Ac_3 E g) rfl ?_
    exact go_iret td_X11_has 21 rfl rfl rfl
  refine go_tcase (v := 5) 104 td_X11_has 1 rfl ⟨by decide, by decide, rfl, rfl⟩ ?_ (fun n7 => ?_)
  · refine go_aload_n td_X11_has 22 rfl (q := 105) rfl 0 rfl ?_
    refine go_get td_X11_has 23 rfl (q := 108) rfl fl_X11_29 (Ac_0 E g) rfl ?_
    refine go_get td_X11_has 24 rfl (q := 111) rfl fl_X11_178 (Ac_27 E g) rfl ?_
    refine go_callS td_X11_has 25 rfl (q := 114) rfl (XkA E) lk_X11_181 (ok_fA_Integer_bitCount E (g.1 2700) g) ⟨rfl, rfl, Nat.le_of_ble_eq_true rfl, Nat.le_of_ble_eq_true rfl⟩ rfl rfl (Nat.le_of_ble_eq_true rfl) (fun x6 => ?_)
    show Go (wCA E) _ _ g 114 _ [.int x6] _
    exact go_iret td_X11_has 26 rfl rfl rfl
  refine go_tcase (v := 6) 115 td_X11_has 1 rfl ⟨by decide, by decide, rfl, rfl⟩ ?_ (fun n8 => ?_)
  · refine go_aload_n td_X11_has 27 rfl (q := 116) rfl 0 rfl ?_
    refine go_get td_X11_has 28 rfl (q := 119) rfl fl_X11_19 (Ac_0 E g) rfl ?_
    refine go_get td_X11_has 29 rfl (q := 122) rfl fl_X11_186 (Ac_3 E g) rfl ?_
    exact go_iret td_X11_has 30 rfl rfl rfl
  refine go_tcase (v := 7) 123 td_X11_has 1 rfl ⟨by decide, by decide, rfl, rfl⟩ ?_ (fun n9 => ?_)
  · refine go_aload_n td_X11_has 31 rfl (q := 124) rfl 0 rfl ?_
    refine go_get td_X11_has 32 rfl (q := 127) rfl fl_X11_19 (Ac_0 E g) rfl ?_
    refine go_get td_X11_has 33 rfl (q := 130) rfl fl_X11_189 (Ac_3 E g) rfl ?_
    exact go_iret td_X11_has 34 rfl rfl rfl
  refine go_tcase (v := 8) 131 td_X11_has 1 rfl ⟨by decide, by decide, rfl, rfl⟩ ?_ (fun n10 => ?_)
  · refine go_aload_n td_X11_has 35 rfl (q := 132) rfl 0 rfl ?_
    refine go_get td_X11_has 36 rfl (q := 135) rfl fl_X11_19 (Ac_0 E g) rfl ?_
    refine go_get td_X11_has 37 rfl (q := 138) rfl fl_X11_192 (Ac_3 E g) rfl ?_
    exact go_iret td_X11_has 38 rfl rfl rfl
  refine go_tcase (v := 9) 139 td_X11_has 1 rfl ⟨by decide, by decide, rfl, rfl⟩ ?_ (fun n11 => ?_)
  · refine go_aload_n td_X11_has 39 rfl (q := 140) rfl 0 rfl ?_
    refine go_get td_X11_has 40 rfl (q := 143) rfl fl_X11_89 (Ac_0 E g) rfl ?_
    refine go_get td_X11_has 41 rfl (q := 146) rfl fl_X11_195 (Ac_138 E g) rfl ?_
    exact go_iret td_X11_has 42 rfl rfl rfl
  refine go_tcase (v := 10) 147 td_X11_has 1 rfl ⟨by decide, by decide, rfl, rfl⟩ ?_ (fun n12 => ?_)
  · refine go_aload_n td_X11_has 43 rfl (q := 148) rfl 0 rfl ?_
    refine go_get td_X11_has 44 rfl (q := 151) rfl fl_X11_48 (Ac_0 E g) rfl ?_
    refine go_get td_X11_has 45 rfl (q := 154) rfl fl_X11_198 (Ac_36 E g) rfl ?_
    exact go_iret td_X11_has 46 rfl rfl rfl
  refine go_tcase (v := 11) 155 td_X11_has 1 rfl ⟨by decide, by decide, rfl, rfl⟩ ?_ (fun n13 => ?_)
  · refine go_aload_n td_X11_has 47 rfl (q := 156) rfl 0 rfl ?_
    refine go_get td_X11_has 48 rfl (q := 159) rfl fl_X11_110 (Ac_0 E g) rfl ?_
    refine go_l2i td_X11_has 49 rfl (q := 160) rfl ?_
    exact go_iret td_X11_has 50 rfl rfl rfl
  refine go_tdef 161 td_X11_has 1 rfl (sw_X11_has_1 n1 n2 n3 n4 n5 n7 n8 n9 n10 n11 n12 n13) rfl ?_
  refine go_iconst td_X11_has 51 rfl (q := 162) rfl kc_m1 ?_
  exact go_iret td_X11_has 52 rfl rfl rfl
def fA_Plan_hasSite (a1 : Int32) (g : G) : Option (Int32) := (if a1 < 0 then some 0 else (if (g.1 307) ≤ a1 then some 0 else some 1))
set_option maxRecDepth 20000 in
set_option maxHeartbeats 4000000 in
theorem ok_fA_Plan_hasSite (E : Ev) (a1 : Int32) (g : G)  : Ct (wCA E) yX4_hasSite mi_X4_hasSite [.ref (E.1 3), .int a1] (fun r => (some (.int r), g)) g (fA_Plan_hasSite a1 g) := by
  refine go_enter rfl rfl (Nat.le_of_ble_eq_true rfl) (lv := [(0, .ref (E.1 3)), (1, .int a1)]) rfl ?_
  unfold fA_Plan_hasSite
  refine go_iload_n td_X4_hasSite 0 rfl (q := 1) rfl 1 rfl ?_
  refine go_if_lt 16 td_X4_hasSite 1 rfl rfl (q := 4) rfl (fun _ => ?_) (fun _ => ?_)
  · refine go_iconst td_X4_hasSite 8 rfl (q := 17) rfl kc_0 ?_
    exact go_zret td_X4_hasSite 9 rfl rfl rfl rfl
  · refine go_iload_n td_X4_hasSite 2 rfl (q := 5) rfl 1 rfl ?_
    refine go_aload_n td_X4_hasSite 3 rfl (q := 6) rfl 0 rfl ?_
    refine go_get td_X4_hasSite 4 rfl (q := 9) rfl fl_X4_33 (Ac_3 E g) rfl ?_
    refine go_icmp_ge 16 td_X4_hasSite 5 rfl rfl (q := 12) rfl (fun _ => ?_) (fun _ => ?_)
    · refine go_iconst td_X4_hasSite 8 rfl (q := 17) rfl kc_0 ?_
      exact go_zret td_X4_hasSite 9 rfl rfl rfl rfl
    · refine go_iconst td_X4_hasSite 6 rfl (q := 13) rfl kc_1 ?_
      refine go_goto td_X4_hasSite 7 rfl (q := 17) rfl ?_
      exact go_zret td_X4_hasSite 9 rfl rfl rfl rfl
def fA_Words_letterOf (a1 : Int32) (a2 : Int32) (g : G) : Option (Int32) := some ((a1 >>> ((25 - (5 * a2)) &&& 31)) &&& 31)
set_option maxRecDepth 20000 in
set_option maxHeartbeats 4000000 in
theorem ok_fA_Words_letterOf (E : Ev) (a1 : Int32) (a2 : Int32) (g : G)  : Ct (wCA E) yX10_letterOf mi_X10_letterOf [.int a1, .int a2] (fun r => (some (.int r), g)) g (fA_Words_letterOf a1 a2 g) := by
  refine go_enter rfl rfl (Nat.le_of_ble_eq_true rfl) (lv := [(0, .int a1), (1, .int a2)]) rfl ?_
  unfold fA_Words_letterOf
  refine go_iload_n td_X10_letterOf 0 rfl (q := 1) rfl 0 rfl ?_
  refine go_bipush td_X10_letterOf 1 rfl (q := 3) rfl kb_25 ?_
  refine go_iconst td_X10_letterOf 2 rfl (q := 4) rfl kc_5 ?_
  refine go_iload_n td_X10_letterOf 3 rfl (q := 5) rfl 1 rfl ?_
  refine go_imul td_X10_letterOf 4 rfl (q := 6) rfl ?_
  refine go_isub td_X10_letterOf 5 rfl (q := 7) rfl ?_
  refine go_ishr td_X10_letterOf 6 rfl (q := 8) rfl ?_
  refine go_bipush td_X10_letterOf 7 rfl (q := 10) rfl kb_31 ?_
  refine go_iand td_X10_letterOf 8 rfl (q := 11) rfl ?_
  exact go_iret td_X10_letterOf 9 rfl rfl rfl
def fA_Plan_hasCraft (a1 : Int32) (g : G) : Option (Int32) := (if a1 < 0 then some 0 else (if (g.1 306) ≤ a1 then some 0 else some 1))
set_option maxRecDepth 20000 in
set_option maxHeartbeats 4000000 in
theorem ok_fA_Plan_hasCraft (E : Ev) (a1 : Int32) (g : G)  : Ct (wCA E) yX4_hasCraft mi_X4_hasCraft [.ref (E.1 3), .int a1] (fun r => (some (.int r), g)) g (fA_Plan_hasCraft a1 g) := by
  refine go_enter rfl rfl (Nat.le_of_ble_eq_true rfl) (lv := [(0, .ref (E.1 3)), (1, .int a1)]) rfl ?_
  unfold fA_Plan_hasCraft
  refine go_iload_n td_X4_hasCraft 0 rfl (q := 1) rfl 1 rfl ?_
  refine go_if_lt 16 td_X4_hasCraft 1 rfl rfl (q := 4) rfl (fun _ => ?_) (fun _ => ?_)
  · refine go_iconst td_X4_hasCraft 8 rfl (q := 17) rfl kc_0 ?_
    exact go_zret td_X4_hasCraft 9 rfl rfl rfl rfl
  · refine go_iload_n td_X4_hasCraft 2 rfl (q := 5) rfl 1 rfl ?_
    refine go_aload_n td_X4_hasCraft 3 rfl (q := 6) rfl 0 rfl ?_
    refine go_get td_X4_hasCraft 4 rfl (q := 9) rfl fl_X4_30 (Ac_3 E g) rfl ?_
    refine go_icmp_ge 16 td_X4_hasCraft 5 rfl rfl (q := 12) rfl (fun _ => ?_) (fun _ => ?_)
    · refine go_iconst td_X4_hasCraft 8 rfl (q := 17) rfl kc_0 ?_
      exact go_zret td_X4_hasCraft 9 rfl rfl rfl rfl
    · refine go_iconst td_X4_hasCraft 6 rfl (q := 13) rfl kc_1 ?_
      refine go_goto td_X4_hasCraft 7 rfl (q := 17) rfl ?_
      exact go_zret td_X4_hasCraft 9 rfl rfl rfl rfl
def fA_Plan_hasPlane (a1 : Int32) (g : G) : Option (Int32) := (if a1 < 0 then some 0 else (if (g.1 305) ≤ a1 then some 0 else some 1))
set_option maxRecDepth 20000 in
set_option maxHeartbeats 4000000 in
theorem ok_fA_Plan_hasPlane (E : Ev) (a1 : Int32) (g : G)  : Ct (wCA E) yX4_hasPlane mi_X4_hasPlane [.ref (E.1 3), .int a1] (fun r => (some (.int r), g)) g (fA_Plan_hasPlane a1 g) := by
  refine go_enter rfl rfl (Nat.le_of_ble_eq_true rfl) (lv := [(0, .ref (E.1 3)), (1, .int a1)]) rfl ?_
  unfold fA_Plan_hasPlane
  refine go_iload_n td_X4_hasPlane 0 rfl (q := 1) rfl 1 rfl ?_
  refine go_if_lt 16 td_X4_hasPlane 1 rfl rfl (q := 4) rfl (fun _ => ?_) (fun _ => ?_)
  · refine go_iconst td_X4_hasPlane 8 rfl (q := 17) rfl kc_0 ?_
    exact go_zret td_X4_hasPlane 9 rfl rfl rfl rfl
  · refine go_iload_n td_X4_hasPlane 2 rfl (q := 5) rfl 1 rfl ?_
    refine go_aload_n td_X4_hasPlane 3 rfl (q := 6) rfl 0 rfl ?_
    refine go_get td_X4_hasPlane 4 rfl (q := 9) rfl fl_X4_27 (Ac_3 E g) rfl ?_
    refine go_icmp_ge 16 td_X4_hasPlane 5 rfl rfl (q := 12) rfl (fun _ => ?_) (fun _ => ?_)
    · refine go_iconst td_X4_hasPlane 8 rfl (q := 17) rfl kc_0 ?_
      exact go_zret td_X4_hasPlane 9 rfl rfl rfl rfl
    · refine go_iconst td_X4_hasPlane 6 rfl (q := 13) rfl kc_1 ?_
      refine go_goto td_X4_hasPlane 7 rfl (q := 17) rfl ?_
      exact go_zret td_X4_hasPlane 9 rfl rfl rfl rfl
def fA_D_letter (a1 : Int32) (a2 : Int32) (a3 : Int32) (g : G) : Option (Int32) := (if a3 < 0 then some (-1) else (if a3 < 6 then lj (α := Unit) (fun b1 => lj (α := Unit) (fun b2 => (if a1 = 2 then Option.bind (fA_Plan_hasSite a2 g) fun x3 => (if x3 = 0 then some (-1) else ag 6 (g.2.1 10) a2 fun x4 => Option.bind (fA_Words_letterOf x4 a3 g) fun x5 => some x5) else some (-1))) fun J2 => (if a1 = 1 then Option.bind (fA_Plan_hasCraft a2 g) fun x6 => (if x6 = 0 then J2 () else ag 8 (g.2.1 8) a2 fun x7 => Option.bind (fA_Words_letterOf x7 a3 g) fun x8 => some x8) else J2 ())) fun J1 => (if a1 = 0 then Option.bind (fA_Plan_hasPlane a2 g) fun x9 => (if x9 = 0 then J1 () else ag 4 (g.2.1 5) a2 fun x10 => Option.bind (fA_Words_letterOf x10 a3 g) fun x11 => some x11) else J1 ()) else some (-1)))
set_option maxRecDepth 20000 in
set_option maxHeartbeats 4000000 in
theorem ok_fA_D_letter (E : Ev) (a1 : Int32) (a2 : Int32) (a3 : Int32) (g : G)  : Ct (wCA E) yX11_letter mi_X11_letter [.ref (E.1 0), .int a1, .int a2, .int a3] (fun r => (some (.int r), g)) g (fA_D_letter a1 a2 a3 g) := by
  refine go_enter rfl rfl (Nat.le_of_ble_eq_true rfl) (lv := [(0, .ref (E.1 0)), (1, .int a1), (2, .int a2), (3, .int a3)]) rfl ?_
  unfold fA_D_letter
  refine go_iload_n td_X11_letter 0 rfl (q := 1) rfl 3 rfl ?_
  refine go_if_lt 10 td_X11_letter 1 rfl rfl (q := 4) rfl (fun _ => ?_) (fun _ => ?_)
  · refine go_iconst td_X11_letter 5 rfl (q := 11) rfl kc_m1 ?_
    exact go_iret td_X11_letter 6 rfl rfl rfl
  · refine go_iload_n td_X11_letter 2 rfl (q := 5) rfl 3 rfl ?_
    refine go_bipush td_X11_letter 3 rfl (q := 7) rfl kb_6 ?_
    refine go_icmp_lt 12 td_X11_letter 4 rfl rfl (q := 10) rfl (fun _ => ?_) (fun _ => ?_)
    · refine go_iload_n td_X11_letter 7 rfl (q := 13) rfl 1 rfl ?_
      refine go_ljX (α := Unit) (fun b1 => [(0, .ref (E.1 0)), (1, .int a1), (2, .int a2), (3, .int a3)]) (fun b1 => []) (fun b1 => g) 41 ?_ ?_
      · intro b1
        refine go_iload_n td_X11_letter 22 rfl (q := 42) rfl 1 rfl ?_
        refine go_iconst td_X11_letter 23 rfl (q := 43) rfl kc_1 ?_
        refine go_ljX (α := Unit) (fun b2 => [(0, .ref (E.1 0)), (1, .int a1), (2, .int a2), (3, .int a3)]) (fun b2 => []) (fun b2 => g) 71 ?_ ?_
        · intro b2
          refine go_iload_n td_X11_letter 38 rfl (q := 72) rfl 1 rfl ?_
          refine go_iconst td_X11_letter 39 rfl (q := 73) rfl kc_2 ?_
          refine go_icmp_ne 101 td_X11_letter 40 rfl rfl (q := 76) rfl (fun _ => ?_) (fun _ => ?_)
          · refine go_iconst td_X11_letter 54 rfl (q := 102) rfl kc_m1 ?_
            exact go_iret td_X11_letter 55 rfl rfl rfl
          · refine go_aload_n td_X11_letter 41 rfl (q := 77) rfl 0 rfl ?_
            refine go_get td_X11_letter 42 rfl (q := 80) rfl fl_X11_19 (Ac_0 E g) rfl ?_
            refine go_iload_n td_X11_letter 43 rfl (q := 81) rfl 2 rfl ?_
            refine go_callV td_X11_letter 44 rfl (q := 84) rfl (XkA E) lk_X11_217 (ok_fA_Plan_hasSite E a2 g) ⟨rfl, rfl, Nat.le_of_ble_eq_true rfl, Nat.le_of_ble_eq_true rfl⟩ rfl rfl (Nat.le_of_ble_eq_true rfl) (Ac_3 E g) rfl (fun x3 => ?_)
            show Go (wCA E) _ _ g 84 _ [.int x3] _
            refine go_if_eq 101 td_X11_letter 45 rfl rfl (q := 87) rfl (fun _ => ?_) (fun _ => ?_)
            · refine go_iconst td_X11_letter 54 rfl (q := 102) rfl kc_m1 ?_
              exact go_iret td_X11_letter 55 rfl rfl rfl
            · refine go_aload_n td_X11_letter 46 rfl (q := 88) rfl 0 rfl ?_
              refine go_get td_X11_letter 47 rfl (q := 91) rfl fl_X11_19 (Ac_0 E g) rfl ?_
              refine go_get td_X11_letter 48 rfl (q := 94) rfl fl_X11_220 (Ac_3 E g) rfl ?_
              refine go_iload_n td_X11_letter 49 rfl (q := 95) rfl 2 rfl ?_
              refine go_ald td_X11_letter 50 rfl (q := 96) rfl (Ac_10 E g) (t0 := 0) rfl (fun x4 => ?_)
              refine go_iload_n td_X11_letter 51 rfl (q := 97) rfl 3 rfl ?_
              refine go_callS td_X11_letter 52 rfl (q := 100) rfl (XkA E) lk_X11_207 (ok_fA_Words_letterOf E x4 a3 g) ⟨rfl, rfl, Nat.le_of_ble_eq_true rfl, Nat.le_of_ble_eq_true rfl⟩ rfl rfl (Nat.le_of_ble_eq_true rfl) (fun x5 => ?_)
              show Go (wCA E) _ _ g 100 _ [.int x5] _
              exact go_iret td_X11_letter 53 rfl rfl rfl
        intro J2 hJ2
        have kJ2 : Go (wCA E) _ _ g 71 [(0, .ref (E.1 0)), (1, .int a1), (2, .int a2), (3, .int a3)] [] (J2 ()) := hJ2 ()
        refine go_icmp_ne 71 td_X11_letter 24 rfl rfl (q := 46) rfl (fun _ => ?_) (fun _ => ?_)
        · refine go_pick [0, 1, 2, 3] (lv' := [(0, .ref (E.1 0)), (1, .int a1), (2, .int a2), (3, .int a3)]) rfl ?_
          exact kJ2 
        · refine go_aload_n td_X11_letter 25 rfl (q := 47) rfl 0 rfl ?_
          refine go_get td_X11_letter 26 rfl (q := 50) rfl fl_X11_19 (Ac_0 E g) rfl ?_
          refine go_iload_n td_X11_letter 27 rfl (q := 51) rfl 2 rfl ?_
          refine go_callV td_X11_letter 28 rfl (q := 54) rfl (XkA E) lk_X11_211 (ok_fA_Plan_hasCraft E a2 g) ⟨rfl, rfl, Nat.le_of_ble_eq_true rfl, Nat.le_of_ble_eq_true rfl⟩ rfl rfl (Nat.le_of_ble_eq_true rfl) (Ac_3 E g) rfl (fun x6 => ?_)
          show Go (wCA E) _ _ g 54 _ [.int x6] _
          refine go_if_eq 71 td_X11_letter 29 rfl rfl (q := 57) rfl (fun _ => ?_) (fun _ => ?_)
          · refine go_pick [0, 1, 2, 3] (lv' := [(0, .ref (E.1 0)), (1, .int a1), (2, .int a2), (3, .int a3)]) rfl ?_
            exact kJ2 
          · refine go_aload_n td_X11_letter 30 rfl (q := 58) rfl 0 rfl ?_
            refine go_get td_X11_letter 31 rfl (q := 61) rfl fl_X11_19 (Ac_0 E g) rfl ?_
            refine go_get td_X11_letter 32 rfl (q := 64) rfl fl_X11_214 (Ac_3 E g) rfl ?_
            refine go_iload_n td_X11_letter 33 rfl (q := 65) rfl 2 rfl ?_
            refine go_ald td_X11_letter 34 rfl (q := 66) rfl (Ac_8 E g) (t0 := 0) rfl (fun x7 => ?_)
            refine go_iload_n td_X11_letter 35 rfl (q := 67) rfl 3 rfl ?_
            refine go_callS td_X11_letter 36 rfl (q := 70) rfl (XkA E) lk_X11_207 (ok_fA_Words_letterOf E x7 a3 g) ⟨rfl, rfl, Nat.le_of_ble_eq_true rfl, Nat.le_of_ble_eq_true rfl⟩ rfl rfl (Nat.le_of_ble_eq_true rfl) (fun x8 => ?_)
            show Go (wCA E) _ _ g 70 _ [.int x8] _
            exact go_iret td_X11_letter 37 rfl rfl rfl
      intro J1 hJ1
      have kJ1 : Go (wCA E) _ _ g 41 [(0, .ref (E.1 0)), (1, .int a1), (2, .int a2), (3, .int a3)] [] (J1 ()) := hJ1 ()
      refine go_if_ne 41 td_X11_letter 8 rfl rfl (q := 16) rfl (fun _ => ?_) (fun _ => ?_)
      · refine go_pick [0, 1, 2, 3] (lv' := [(0, .ref (E.1 0)), (1, .int a1), (2, .int a2), (3, .int a3)]) rfl ?_
        exact kJ1 
      · refine go_aload_n td_X11_letter 9 rfl (q := 17) rfl 0 rfl ?_
        refine go_get td_X11_letter 10 rfl (q := 20) rfl fl_X11_19 (Ac_0 E g) rfl ?_
        refine go_iload_n td_X11_letter 11 rfl (q := 21) rfl 2 rfl ?_
        refine go_callV td_X11_letter 12 rfl (q := 24) rfl (XkA E) lk_X11_201 (ok_fA_Plan_hasPlane E a2 g) ⟨rfl, rfl, Nat.le_of_ble_eq_true rfl, Nat.le_of_ble_eq_true rfl⟩ rfl rfl (Nat.le_of_ble_eq_true rfl) (Ac_3 E g) rfl (fun x9 => ?_)
        show Go (wCA E) _ _ g 24 _ [.int x9] _
        refine go_if_eq 41 td_X11_letter 13 rfl rfl (q := 27) rfl (fun _ => ?_) (fun _ => ?_)
        · refine go_pick [0, 1, 2, 3] (lv' := [(0, .ref (E.1 0)), (1, .int a1), (2, .int a2), (3, .int a3)]) rfl ?_
          exact kJ1 
        · refine go_aload_n td_X11_letter 14 rfl (q := 28) rfl 0 rfl ?_
          refine go_get td_X11_letter 15 rfl (q := 31) rfl fl_X11_19 (Ac_0 E g) rfl ?_
          refine go_get td_X11_letter 16 rfl (q := 34) rfl fl_X11_204 (Ac_3 E g) rfl ?_
          refine go_iload_n td_X11_letter 17 rfl (q := 35) rfl 2 rfl ?_
          refine go_ald td_X11_letter 18 rfl (q := 36) rfl (Ac_5 E g) (t0 := 0) rfl (fun x10 => ?_)
          refine go_iload_n td_X11_letter 19 rfl (q := 37) rfl 3 rfl ?_
          refine go_callS td_X11_letter 20 rfl (q := 40) rfl (XkA E) lk_X11_207 (ok_fA_Words_letterOf E x10 a3 g) ⟨rfl, rfl, Nat.le_of_ble_eq_true rfl, Nat.le_of_ble_eq_true rfl⟩ rfl rfl (Nat.le_of_ble_eq_true rfl) (fun x11 => ?_)
          show Go (wCA E) _ _ g 40 _ [.int x11] _
          exact go_iret td_X11_letter 21 rfl rfl rfl
    · refine go_iconst td_X11_letter 5 rfl (q := 11) rfl kc_m1 ?_
      exact go_iret td_X11_letter 6 rfl rfl rfl
