def fA_D_carry (a1 : Int32) (a2 : Int32) (a3 : Int32) (g : G) : Option (Int32 × G) := Option.bind (fA_D_isTick a1 g) fun x1 => (if x1 = 0 then some ((-1), g) else Option.bind (fA_Plan_hasSite a2 g) fun x2 => (if x2 = 0 then some ((-1), g) else Option.bind (fA_Plan_hasSite a3 g) fun x3 => (if x3 = 0 then some ((-1), g) else Option.bind (fA_D_look g) fun x4 => Option.bind (fA_Courier_start a2 x4) fun x5 => Lp (α := Int32 × G) (fun rec6 s6 => (if (2 * (s6.2.1 303)) < s6.1 then some ((-1), s6.2) else Option.bind (fA_Courier_hasReached a3 s6.2) fun x7 => (if x7 = 0 then Option.bind (fA_D_inCycle (a1 + s6.1) s6.2) fun x8 => Option.bind (fA_Courier_step (s6.2.1 2700) x8 s6.2) fun x9 => rec6 (s6.1 + 1, x9) else some (s6.1, s6.2)))) FU (0, x5))))
set_option maxRecDepth 20000 in
set_option maxHeartbeats 4000000 in
theorem ok_fA_D_carry (E : Ev) (a1 : Int32) (a2 : Int32) (a3 : Int32) (g : G)  : Ct (wCA E) yX11_carry mi_X11_carry [.ref (E.1 0), .int a1, .int a2, .int a3] (fun r => (some (.int r.1), r.2)) g (fA_D_carry a1 a2 a3 g) := by
  refine go_enter rfl rfl (Nat.le_of_ble_eq_true rfl) (lv := [(0, .ref (E.1 0)), (1, .int a1), (2, .int a2), (3, .int a3)]) rfl ?_
  unfold fA_D_carry
  refine go_aload_n td_X11_carry 0 rfl (q := 1) rfl 0 rfl ?_
  refine go_iload_n td_X11_carry 1 rfl (q := 2) rfl 1 rfl ?_
  refine go_callV td_X11_carry 2 rfl (q := 5) rfl (XkA E) lk_X11_266 (ok_fA_D_isTick E a1 g) ⟨rfl, rfl, Nat.le_of_ble_eq_true rfl, Nat.le_of_ble_eq_true rfl⟩ rfl rfl (Nat.le_of_ble_eq_true rfl) (Ac_0 E g) rfl (fun x1 => ?_)
  show Go (wCA E) _ _ g 5 _ [.int x1] _
  refine go_if_eq 30 td_X11_carry 3 rfl rfl (q := 8) rfl (fun _ => ?_) (fun _ => ?_)
  · refine go_iconst td_X11_carry 14 rfl (q := 31) rfl kc_m1 ?_
    exact go_iret td_X11_carry 15 rfl rfl rfl
  · refine go_aload_n td_X11_carry 4 rfl (q := 9) rfl 0 rfl ?_
    refine go_get td_X11_carry 5 rfl (q := 12) rfl fl_X11_19 (Ac_0 E g) rfl ?_
    refine go_iload_n td_X11_carry 6 rfl (q := 13) rfl 2 rfl ?_
    refine go_callV td_X11_carry 7 rfl (q := 16) rfl (XkA E) lk_X11_217 (ok_fA_Plan_hasSite E a2 g) ⟨rfl, rfl, Nat.le_of_ble_eq_true rfl, Nat.le_of_ble_eq_true rfl⟩ rfl rfl (Nat.le_of_ble_eq_true rfl) (Ac_3 E g) rfl (fun x2 => ?_)
    show Go (wCA E) _ _ g 16 _ [.int x2] _
    refine go_if_eq 30 td_X11_carry 8 rfl rfl (q := 19) rfl (fun _ => ?_) (fun _ => ?_)
    · refine go_iconst td_X11_carry 14 rfl (q := 31) rfl kc_m1 ?_
      exact go_iret td_X11_carry 15 rfl rfl rfl
    · refine go_aload_n td_X11_carry 9 rfl (q := 20) rfl 0 rfl ?_
      refine go_get td_X11_carry 10 rfl (q := 23) rfl fl_X11_19 (Ac_0 E g) rfl ?_
      refine go_iload_n td_X11_carry 11 rfl (q := 24) rfl 3 rfl ?_
      refine go_callV td_X11_carry 12 rfl (q := 27) rfl (XkA E) lk_X11_217 (ok_fA_Plan_hasSite E a3 g) ⟨rfl, rfl, Nat.le_of_ble_eq_true rfl, Nat.le_of_ble_eq_true rfl⟩ rfl rfl (Nat.le_of_ble_eq_true rfl) (Ac_3 E g) rfl (fun x3 => ?_)
      show Go (wCA E) _ _ g 27 _ [.int x3] _
      refine go_if_ne 32 td_X11_carry 13 rfl rfl (q := 30) rfl (fun _ => ?_) (fun _ => ?_)
      · refine go_aload_n td_X11_carry 16 rfl (q := 33) rfl 0 rfl ?_
        refine go_callV td_X11_carry 17 rfl (q := 36) rfl (XkA E) lk_X11_247 (ok_fA_D_look E g) ⟨rfl, rfl, Nat.le_of_ble_eq_true rfl, Nat.le_of_ble_eq_true rfl⟩ rfl rfl (Nat.le_of_ble_eq_true rfl) (Ac_0 E g) rfl (fun x4 => ?_)
        show Go (wCA E) _ _ x4 36 _ [] _
        refine go_aload_n td_X11_carry 18 rfl (q := 37) rfl 0 rfl ?_
        refine go_get td_X11_carry 19 rfl (q := 40) rfl fl_X11_82 (Ac_0 E x4) rfl ?_
        refine go_iload_n td_X11_carry 20 rfl (q := 41) rfl 2 rfl ?_
        refine go_callV td_X11_carry 21 rfl (q := 44) rfl (XkA E) lk_X11_409 (ok_fA_Courier_start E a2 x4) ⟨rfl, rfl, Nat.le_of_ble_eq_true rfl, Nat.le_of_ble_eq_true rfl⟩ rfl rfl (Nat.le_of_ble_eq_true rfl) (Ac_137 E x4) rfl (fun x5 => ?_)
        show Go (wCA E) _ _ x5 44 _ [] _
        refine go_iconst td_X11_carry 22 rfl (q := 45) rfl kc_0 ?_
        refine go_istore [(4, .int 0), (0, .ref (E.1 0)), (1, .int a1), (2, .int a2), (3, .int a3)] td_X11_carry 23 rfl (q := 47) rfl (Nat.le_of_ble_eq_true rfl) rfl ?_
        refine go_pick [1, 2, 4, 0] (lv' := [(0, .ref (E.1 0)), (1, .int a1), (3, .int a3), (4, .int 0)]) rfl ?_
        refine (show ∀ (u6_0 : Int32) (u6_1 : G), Go (wCA E) _ _ u6_1 47 [(0, .ref (E.1 0)), (1, .int a1), (3, .int a3), (4, .int u6_0)] [] (Lp (α := Int32 × G) _ FU (u6_0, u6_1)) from ?_) 0 x5
        intro u6_0 u6_1
        refine go_Lp (α := Int32 × G) (fun s6 => s6.2) (fun s6 => [(0, .ref (E.1 0)), (1, .int a1), (3, .int a3), (4, .int s6.1)]) ?_ FU (u6_0, u6_1)
        intro rec6 hrec6 s6
        have krec6 : ∀ (u6_0 : Int32) (u6_1 : G), Go (wCA E) _ _ u6_1 47 [(0, .ref (E.1 0)), (1, .int a1), (3, .int a3), (4, .int u6_0)] [] (rec6 (u6_0, u6_1)) := fun u6_0 u6_1 => hrec6 (u6_0, u6_1)
        refine go_iload td_X11_carry 24 rfl (q := 49) rfl 3 rfl ?_
        refine go_iconst td_X11_carry 25 rfl (q := 50) rfl kc_2 ?_
        refine go_aload_n td_X11_carry 26 rfl (q := 51) rfl 0 rfl ?_
        refine go_get td_X11_carry 27 rfl (q := 54) rfl fl_X11_19 (Ac_0 E s6.2) rfl ?_
        refine go_get td_X11_carry 28 rfl (q := 57) rfl fl_X11_189 (Ac_3 E s6.2) rfl ?_
        refine go_imul td_X11_carry 29 rfl (q := 58) rfl ?_
        refine go_icmp_gt 103 td_X11_carry 30 rfl rfl (q := 61) rfl (fun _ => ?_) (fun _ => ?_)
        · refine go_iconst td_X11_carry 51 rfl (q := 104) rfl kc_m1 ?_
          exact go_iret td_X11_carry 52 rfl rfl rfl
        · refine go_aload_n td_X11_carry 31 rfl (q := 62) rfl 0 rfl ?_
          refine go_get td_X11_carry 32 rfl (q := 65) rfl fl_X11_82 (Ac_0 E s6.2) rfl ?_
          refine go_iload_n td_X11_carry 33 rfl (q := 66) rfl 2 rfl ?_
          refine go_callV td_X11_carry 34 rfl (q := 69) rfl (XkA E) lk_X11_412 (ok_fA_Courier_hasReached E a3 s6.2) ⟨rfl, rfl, Nat.le_of_ble_eq_true rfl, Nat.le_of_ble_eq_true rfl⟩ rfl rfl (Nat.le_of_ble_eq_true rfl) (Ac_137 E s6.2) rfl (fun x7 => ?_)
          show Go (wCA E) _ _ s6.2 69 _ [.int x7] _
          refine go_if_eq 75 td_X11_carry 35 rfl rfl (q := 72) rfl (fun _ => ?_) (fun _ => ?_)
          · refine go_aload_n td_X11_carry 38 rfl (q := 76) rfl 0 rfl ?_
            refine go_get td_X11_carry 39 rfl (q := 79) rfl fl_X11_82 (Ac_0 E s6.2) rfl ?_
            refine go_aload_n td_X11_carry 40 rfl (q := 80) rfl 0 rfl ?_
            refine go_get td_X11_carry 41 rfl (q := 83) rfl fl_X11_29 (Ac_0 E s6.2) rfl ?_
            refine go_get td_X11_carry 42 rfl (q := 86) rfl fl_X11_178 (Ac_27 E s6.2) rfl ?_
            refine go_aload_n td_X11_carry 43 rfl (q := 87) rfl 0 rfl ?_
            refine go_iload_n td_X11_carry 44 rfl (q := 88) rfl 1 rfl ?_
            refine go_iload td_X11_carry 45 rfl (q := 90) rfl 3 rfl ?_
            refine go_iadd td_X11_carry 46 rfl (q := 91) rfl ?_
            refine go_callV td_X11_carry 47 rfl (q := 94) rfl (XkA E) lk_X11_269 (ok_fA_D_inCycle E (a1 + s6.1) s6.2) ⟨rfl, rfl, Nat.le_of_ble_eq_true rfl, Nat.le_of_ble_eq_true rfl⟩ rfl rfl (Nat.le_of_ble_eq_true rfl) (Ac_0 E s6.2) rfl (fun x8 => ?_)
            show Go (wCA E) _ _ s6.2 94 _ [.int x8, .int (s6.2.1 2700), .ref (E.1 137)] _
            refine go_callV td_X11_carry 48 rfl (q := 97) rfl (XkA E) lk_X11_415 (ok_fA_Courier_step E (s6.2.1 2700) x8 s6.2) ⟨rfl, rfl, Nat.le_of_ble_eq_true rfl, Nat.le_of_ble_eq_true rfl⟩ rfl rfl (Nat.le_of_ble_eq_true rfl) (Ac_137 E s6.2) rfl (fun x9 => ?_)
            show Go (wCA E) _ _ x9 97 _ [] _
            refine go_iinc [(4, .int (s6.1 + 1)), (0, .ref (E.1 0)), (1, .int a1), (3, .int a3)] td_X11_carry 49 rfl (q := 100) rfl 3 rfl kc_1 (Nat.le_of_ble_eq_true rfl) rfl ?_
            refine go_goto td_X11_carry 50 rfl (q := 47) rfl ?_
            refine go_pick [1, 2, 3, 0] (lv' := [(0, .ref (E.1 0)), (1, .int a1), (3, .int a3), (4, .int (s6.1 + 1))]) rfl ?_
            exact krec6 (s6.1 + 1) x9
          · refine go_iload td_X11_carry 36 rfl (q := 74) rfl 3 rfl ?_
            exact go_iret td_X11_carry 37 rfl rfl rfl
      · refine go_iconst td_X11_carry 14 rfl (q := 31) rfl kc_m1 ?_
        exact go_iret td_X11_carry 15 rfl rfl rfl
def fA_D_sitesReached (a1 : Int32) (a2 : Int32) (a3 : Int32) (g : G) : Option (Int32 × G) := Option.bind (fA_Courier_start a2 g) fun x1 => Lp (α := Int32 × G) (fun rec2 s2 => (if a3 ≤ s2.1 then some (s2.2.1 13700, s2.2) else Option.bind (fA_D_inCycle (a1 + s2.1) s2.2) fun x3 => Option.bind (fA_Courier_step (s2.2.1 2700) x3 s2.2) fun x4 => rec2 (s2.1 + 1, x4))) FU (0, x1)
set_option maxRecDepth 20000 in
set_option maxHeartbeats 4000000 in
theorem ok_fA_D_sitesReached (E : Ev) (a1 : Int32) (a2 : Int32) (a3 : Int32) (g : G)  : Ct (wCA E) yX11_sitesReached mi_X11_sitesReached [.ref (E.1 0), .int a1, .int a2, .int a3] (fun r => (some (.int r.1), r.2)) g (fA_D_sitesReached a1 a2 a3 g) := by
  refine go_enter rfl rfl (Nat.le_of_ble_eq_true rfl) (lv := [(0, .ref (E.1 0)), (1, .int a1), (2, .int a2), (3, .int a3)]) rfl ?_
  unfold fA_D_sitesReached
  refine go_aload_n td_X11_sitesReached 0 rfl (q := 1) rfl 0 rfl ?_
  refine go_get td_X11_sitesReached 1 rfl (q := 4) rfl fl_X11_82 (Ac_0 E g) rfl ?_
  refine go_iload_n td_X11_sitesReached 2 rfl (q := 5) rfl 2 rfl ?_
  refine go_callV td_X11_sitesReached 3 rfl (q := 8) rfl (XkA E) lk_X11_409 (ok_fA_Courier_start E a2 g) ⟨rfl, rfl, Nat.le_of_ble_eq_true rfl, Nat.le_of_ble_eq_true rfl⟩ rfl rfl (Nat.le_of_ble_eq_true rfl) (Ac_137 E g) rfl (fun x1 => ?_)
  show Go (wCA E) _ _ x1 8 _ [] _
  refine go_iconst td_X11_sitesReached 4 rfl (q := 9) rfl kc_0 ?_
  refine go_istore [(4, .int 0), (0, .ref (E.1 0)), (1, .int a1), (2, .int a2), (3, .int a3)] td_X11_sitesReached 5 rfl (q := 11) rfl (Nat.le_of_ble_eq_true rfl) rfl ?_
  refine go_pick [1, 2, 4, 0] (lv' := [(0, .ref (E.1 0)), (1, .int a1), (3, .int a3), (4, .int 0)]) rfl ?_
  refine (show ∀ (u2_0 : Int32) (u2_1 : G), Go (wCA E) _ _ u2_1 11 [(0, .ref (E.1 0)), (1, .int a1), (3, .int a3), (4, .int u2_0)] [] (Lp (α := Int32 × G) _ FU (u2_0, u2_1)) from ?_) 0 x1
  intro u2_0 u2_1
  refine go_Lp (α := Int32 × G) (fun s2 => s2.2) (fun s2 => [(0, .ref (E.1 0)), (1, .int a1), (3, .int a3), (4, .int s2.1)]) ?_ FU (u2_0, u2_1)
  intro rec2 hrec2 s2
  have krec2 : ∀ (u2_0 : Int32) (u2_1 : G), Go (wCA E) _ _ u2_1 11 [(0, .ref (E.1 0)), (1, .int a1), (3, .int a3), (4, .int u2_0)] [] (rec2 (u2_0, u2_1)) := fun u2_0 u2_1 => hrec2 (u2_0, u2_1)
  refine go_iload td_X11_sitesReached 6 rfl (q := 13) rfl 3 rfl ?_
  refine go_iload_n td_X11_sitesReached 7 rfl (q := 14) rfl 2 rfl ?_
  refine go_icmp_ge 45 td_X11_sitesReached 8 rfl rfl (q := 17) rfl (fun _ => ?_) (fun _ => ?_)
  · refine go_aload_n td_X11_sitesReached 22 rfl (q := 46) rfl 0 rfl ?_
    refine go_get td_X11_sitesReached 23 rfl (q := 49) rfl fl_X11_82 (Ac_0 E s2.2) rfl ?_
    refine go_get td_X11_sitesReached 24 rfl (q := 52) rfl fl_X11_489 (Ac_137 E s2.2) rfl ?_
    exact go_iret td_X11_sitesReached 25 rfl rfl rfl
  · refine go_aload_n td_X11_sitesReached 9 rfl (q := 18) rfl 0 rfl ?_
    refine go_get td_X11_sitesReached 10 rfl (q := 21) rfl fl_X11_82 (Ac_0 E s2.2) rfl ?_
    refine go_aload_n td_X11_sitesReached 11 rfl (q := 22) rfl 0 rfl ?_
    refine go_get td_X11_sitesReached 12 rfl (q := 25) rfl fl_X11_29 (Ac_0 E s2.2) rfl ?_
    refine go_get td_X11_sitesReached 13 rfl (q := 28) rfl fl_X11_178 (Ac_27 E s2.2) rfl ?_
    refine go_aload_n td_X11_sitesReached 14 rfl (q := 29) rfl 0 rfl ?_
    refine go_iload_n td_X11_sitesReached 15 rfl (q := 30) rfl 1 rfl ?_
    refine go_iload td_X11_sitesReached 16 rfl (q := 32) rfl 3 rfl ?_
    refine go_iadd td_X11_sitesReached 17 rfl (q := 33) rfl ?_
    refine go_callV td_X11_sitesReached 18 rfl (q := 36) rfl (XkA E) lk_X11_269 (ok_fA_D_inCycle E (a1 + s2.1) s2.2) ⟨rfl, rfl, Nat.le_of_ble_eq_true rfl, Nat.le_of_ble_eq_true rfl⟩ rfl rfl (Nat.le_of_ble_eq_true rfl) (Ac_0 E s2.2) rfl (fun x3 => ?_)
    show Go (wCA E) _ _ s2.2 36 _ [.int x3, .int (s2.2.1 2700), .ref (E.1 137)] _
    refine go_callV td_X11_sitesReached 19 rfl (q := 39) rfl (XkA E) lk_X11_415 (ok_fA_Courier_step E (s2.2.1 2700) x3 s2.2) ⟨rfl, rfl, Nat.le_of_ble_eq_true rfl, Nat.le_of_ble_eq_true rfl⟩ rfl rfl (Nat.le_of_ble_eq_true rfl) (Ac_137 E s2.2) rfl (fun x4 => ?_)
    show Go (wCA E) _ _ x4 39 _ [] _
    refine go_iinc [(4, .int (s2.1 + 1)), (0, .ref (E.1 0)), (1, .int a1), (3, .int a3)] td_X11_sitesReached 20 rfl (q := 42) rfl 3 rfl kc_1 (Nat.le_of_ble_eq_true rfl) rfl ?_
    refine go_goto td_X11_sitesReached 21 rfl (q := 11) rfl ?_
    refine go_pick [1, 2, 3, 0] (lv' := [(0, .ref (E.1 0)), (1, .int a1), (3, .int a3), (4, .int (s2.1 + 1))]) rfl ?_
    exact krec2 (s2.1 + 1) x4
def fA_D_holders (a1 : Int32) (a2 : Int32) (a3 : Int32) (g : G) : Option (Int32 × G) := Option.bind (fA_D_isTick a1 g) fun x1 => (if x1 = 0 then some ((-1), g) else Option.bind (fA_Plan_hasSite a2 g) fun x2 => (if x2 = 0 then some ((-1), g) else (if a3 < 0 then some ((-1), g) else (if a3 ≤ 480 then Option.bind (fA_D_look g) fun x3 => Option.bind (fA_D_sitesReached a1 a2 a3 x3) fun x4 => some (x4.1, x4.2) else some ((-1), g)))))
set_option maxRecDepth 20000 in
set_option maxHeartbeats 4000000 in
theorem ok_fA_D_holders (E : Ev) (a1 : Int32) (a2 : Int32) (a3 : Int32) (g : G)  : Ct (wCA E) yX11_holders mi_X11_holders [.ref (E.1 0), .int a1, .int a2, .int a3] (fun r => (some (.int r.1), r.2)) g (fA_D_holders a1 a2 a3 g) := by
  refine go_enter rfl rfl (Nat.le_of_ble_eq_true rfl) (lv := [(0, .ref (E.1 0)), (1, .int a1), (2, .int a2), (3, .int a3)]) rfl ?_
  unfold fA_D_holders
  refine go_aload_n td_X11_holders 0 rfl (q := 1) rfl 0 rfl ?_
  refine go_iload_n td_X11_holders 1 rfl (q := 2) rfl 1 rfl ?_
  refine go_callV td_X11_holders 2 rfl (q := 5) rfl (XkA E) lk_X11_266 (ok_fA_D_isTick E a1 g) ⟨rfl, rfl, Nat.le_of_ble_eq_true rfl, Nat.le_of_ble_eq_true rfl⟩ rfl rfl (Nat.le_of_ble_eq_true rfl) (Ac_0 E g) rfl (fun x1 => ?_)
  show Go (wCA E) _ _ g 5 _ [.int x1] _
  refine go_if_eq 30 td_X11_holders 3 rfl rfl (q := 8) rfl (fun _ => ?_) (fun _ => ?_)
  · refine go_iconst td_X11_holders 14 rfl (q := 31) rfl kc_m1 ?_
    exact go_iret td_X11_holders 15 rfl rfl rfl
  · refine go_aload_n td_X11_holders 4 rfl (q := 9) rfl 0 rfl ?_
    refine go_get td_X11_holders 5 rfl (q := 12) rfl fl_X11_19 (Ac_0 E g) rfl ?_
    refine go_iload_n td_X11_holders 6 rfl (q := 13) rfl 2 rfl ?_
    refine go_callV td_X11_holders 7 rfl (q := 16) rfl (XkA E) lk_X11_217 (ok_fA_Plan_hasSite E a2 g) ⟨rfl, rfl, Nat.le_of_ble_eq_true rfl, Nat.le_of_ble_eq_true rfl⟩ rfl rfl (Nat.le_of_ble_eq_true rfl) (Ac_3 E g) rfl (fun x2 => ?_)
    show Go (wCA E) _ _ g 16 _ [.int x2] _
    refine go_if_eq 30 td_X11_holders 8 rfl rfl (q := 19) rfl (fun _ => ?_) (fun _ => ?_)
    · refine go_iconst td_X11_holders 14 rfl (q := 31) rfl kc_m1 ?_
      exact go_iret td_X11_holders 15 rfl rfl rfl
    · refine go_iload_n td_X11_holders 9 rfl (q := 20) rfl 3 rfl ?_
      refine go_if_lt 30 td_X11_holders 10 rfl rfl (q := 23) rfl (fun _ => ?_) (fun _ => ?_)
      · refine go_iconst td_X11_holders 14 rfl (q := 31) rfl kc_m1 ?_
        exact go_iret td_X11_holders 15 rfl rfl rfl
      · refine go_iload_n td_X11_holders 11 rfl (q := 24) rfl 3 rfl ?_
        refine go_sipush td_X11_holders 12 rfl (q := 27) rfl ks_480 ?_
        refine go_icmp_le 32 td_X11_holders 13 rfl rfl (q := 30) rfl (fun _ => ?_) (fun _ => ?_)
        · refine go_aload_n td_X11_holders 16 rfl (q := 33) rfl 0 rfl ?_
          refine go_callV td_X11_holders 17 rfl (q := 36) rfl (XkA E) lk_X11_247 (ok_fA_D_look E g) ⟨rfl, rfl, Nat.le_of_ble_eq_true rfl, Nat.le_of_ble_eq_true rfl⟩ rfl rfl (Nat.le_of_ble_eq_true rfl) (Ac_0 E g) rfl (fun x3 => ?_)
          show Go (wCA E) _ _ x3 36 _ [] _
          refine go_aload_n td_X11_holders 18 rfl (q := 37) rfl 0 rfl ?_
          refine go_iload_n td_X11_holders 19 rfl (q := 38) rfl 1 rfl ?_
          refine go_iload_n td_X11_holders 20 rfl (q := 39) rfl 2 rfl ?_
          refine go_iload_n td_X11_holders 21 rfl (q := 40) rfl 3 rfl ?_
          refine go_callV td_X11_holders 22 rfl (q := 43) rfl (XkA E) lk_X11_419 (ok_fA_D_sitesReached E a1 a2 a3 x3) ⟨rfl, rfl, Nat.le_of_ble_eq_true rfl, Nat.le_of_ble_eq_true rfl⟩ rfl rfl (Nat.le_of_ble_eq_true rfl) (Ac_0 E x3) rfl (fun x4 => ?_)
          show Go (wCA E) _ _ x4.2 43 _ [.int x4.1] _
          exact go_iret td_X11_holders 23 rfl rfl rfl
        · refine go_iconst td_X11_holders 14 rfl (q := 31) rfl kc_m1 ?_
          exact go_iret td_X11_holders 15 rfl rfl rfl
def fA_D_source (a1 : Int32) (a2 : Int32) (a3 : Int32) (g : G) : Option (Int32 × G) := Option.bind (fA_D_isTick a1 g) fun x1 => (if x1 = 0 then some ((-1), g) else (if (g.1 307) = 0 then some ((-1), g) else (if a2 < 0 then some ((-1), g) else (if 480 < a2 then some ((-1), g) else (if a3 < 0 then some ((-1), g) else (if a3 ≤ 1 then Option.bind (fA_D_look g) fun x2 => Lp (α := Int32 × Int32 × Int32 × G) (fun rec3 s3 => (if (s3.2.2.2.1 307) ≤ s3.2.2.1 then (if a3 = 0 then some (s3.1, s3.2.2.2) else some (s3.2.1, s3.2.2.2)) else Option.bind (fA_D_sitesReached a1 s3.2.2.1 a2 s3.2.2.2) fun x4 => Option.bind (fA_Integer_bitCount x4.1 x4.2) fun x5 => lj (α := Int32 × Int32) (fun b6 => rec3 (b6.1, b6.2, s3.2.2.1 + 1, x4.2)) fun J6 => (if x5 ≤ s3.2.1 then J6 (s3.1, s3.2.1) else J6 (s3.2.2.1, x5)))) FU ((-1), 0, 0, x2) else some ((-1), g)))))))
set_option maxRecDepth 20000 in
set_option maxHeartbeats 4000000 in
theorem ok_fA_D_source (E : Ev) (a1 : Int32) (a2 : Int32) (a3 : Int32) (g : G)  : Ct (wCA E) yX11_source mi_X11_source [.ref (E.1 0), .int a1, .int a2, .int a3] (fun r => (some (.int r.1), r.2)) g (fA_D_source a1 a2 a3 g) := by
  refine go_enter rfl rfl (Nat.le_of_ble_eq_true rfl) (lv := [(0, .ref (E.1 0)), (1, .int a1), (2, .int a2), (3, .int a3)]) rfl ?_
  unfold fA_D_source
  refine go_aload_n td_X11_source 0 rfl (q := 1) rfl 0 rfl ?_
  refine go_iload_n td_X11_source 1 rfl (q := 2) rfl 1 rfl ?_
  refine go_callV td_X11_source 2 rfl (q := 5) rfl (XkA E) lk_X11_266 (ok_fA_D_isTick E a1 g) ⟨rfl, rfl, Nat.le_of_ble_eq_true rfl, Nat.le_of_ble_eq_true rfl⟩ rfl rfl (Nat.le_of_ble_eq_true rfl) (Ac_0 E g) rfl (fun x1 => ?_)
  show Go (wCA E) _ _ g 5 _ [.int x1] _
  refine go_if_eq 38 td_X11_source 3 rfl rfl (q := 8) rfl (fun _ => ?_) (fun _ => ?_)
  · refine go_iconst td_X11_source 18 rfl (q := 39) rfl kc_m1 ?_
    exact go_iret td_X11_source 19 rfl rfl rfl
  · refine go_aload_n td_X11_source 4 rfl (q := 9) rfl 0 rfl ?_
    refine go_get td_X11_source 5 rfl (q := 12) rfl fl_X11_19 (Ac_0 E g) rfl ?_
    refine go_get td_X11_source 6 rfl (q := 15) rfl fl_X11_186 (Ac_3 E g) rfl ?_
    refine go_if_eq 38 td_X11_source 7 rfl rfl (q := 18) rfl (fun _ => ?_) (fun _ => ?_)
    · refine go_iconst td_X11_source 18 rfl (q := 39) rfl kc_m1 ?_
      exact go_iret td_X11_source 19 rfl rfl rfl
    · refine go_iload_n td_X11_source 8 rfl (q := 19) rfl 2 rfl ?_
      refine go_if_lt 38 td_X11_source 9 rfl rfl (q := 22) rfl (fun _ => ?_) (fun _ => ?_)
      · refine go_iconst td_X11_source 18 rfl (q := 39) rfl kc_m1 ?_
        exact go_iret td_X11_source 19 rfl rfl rfl
      · refine go_iload_n td_X11_source 10 rfl (q := 23) rfl 2 rfl ?_
        refine go_sipush td_X11_source 11 rfl (q := 26) rfl ks_480 ?_
        refine go_icmp_gt 38 td_X11_source 12 rfl rfl (q := 29) rfl (fun _ => ?_) (fun _ => ?_)
        · refine go_iconst td_X11_source 18 rfl (q := 39) rfl kc_m1 ?_
          exact go_iret td_X11_source 19 rfl rfl rfl
        · refine go_iload_n td_X11_source 13 rfl (q := 30) rfl 3 rfl ?_
          refine go_if_lt 38 td_X11_source 14 rfl rfl (q := 33) rfl (fun _ => ?_) (fun _ => ?_)
          · refine go_iconst td_X11_source 18 rfl (q := 39) rfl kc_m1 ?_
            exact go_iret td_X11_source 19 rfl rfl rfl
          · refine go_iload_n td_X11_source 15 rfl (q := 34) rfl 3 rfl ?_
            refine go_iconst td_X11_source 16 rfl (q := 35) rfl kc_1 ?_
            refine go_icmp_le 40 td_X11_source 17 rfl rfl (q := 38) rfl (fun _ => ?_) (fun _ => ?_)
            · refine go_aload_n td_X11_source 20 rfl (q := 41) rfl 0 rfl ?_
              refine go_callV td_X11_source 21 rfl (q := 44) rfl (XkA E) lk_X11_247 (ok_fA_D_look E g) ⟨rfl, rfl, Nat.le_of_ble_eq_true rfl, Nat.le_of_ble_eq_true rfl⟩ rfl rfl (Nat.le_of_ble_eq_true rfl) (Ac_0 E g) rfl (fun x2 => ?_)
              show Go (wCA E) _ _ x2 44 _ [] _
              refine go_iconst td_X11_source 22 rfl (q := 45) rfl kc_m1 ?_
              refine go_istore [(4, .int (-1)), (0, .ref (E.1 0)), (1, .int a1), (2, .int a2), (3, .int a3)] td_X11_source 23 rfl (q := 47) rfl (Nat.le_of_ble_eq_true rfl) rfl ?_
              refine go_iconst td_X11_source 24 rfl (q := 48) rfl kc_0 ?_
              refine go_istore [(5, .int 0), (4, .int (-1)), (0, .ref (E.1 0)), (1, .int a1), (2, .int a2), (3, .int a3)] td_X11_source 25 rfl (q := 50) rfl (Nat.le_of_ble_eq_true rfl) rfl ?_
              refine go_iconst td_X11_source 26 rfl (q := 51) rfl kc_0 ?_
              refine go_istore [(6, .int 0), (5, .int 0), (4, .int (-1)), (0, .ref (E.1 0)), (1, .int a1), (2, .int a2), (3, .int a3)] td_X11_source 27 rfl (q := 53) rfl (Nat.le_of_ble_eq_true rfl) rfl ?_
              refine go_pick [3, 4, 5, 6, 2, 1, 0] (lv' := [(0, .ref (E.1 0)), (1, .int a1), (2, .int a2), (3, .int a3), (4, .int (-1)), (5, .int 0), (6, .int 0)]) rfl ?_
              refine (show ∀ (u3_0 : Int32) (u3_1 : Int32) (u3_2 : Int32) (u3_3 : G), Go (wCA E) _ _ u3_3 53 [(0, .ref (E.1 0)), (1, .int a1), (2, .int a2), (3, .int a3), (4, .int u3_0), (5, .int u3_1), (6, .int u3_2)] [] (Lp (α := Int32 × Int32 × Int32 × G) _ FU (u3_0, u3_1, u3_2, u3_3)) from ?_) (-1) 0 0 x2
              intro u3_0 u3_1 u3_2 u3_3
              refine go_Lp (α := Int32 × Int32 × Int32 × G) (fun s3 => s3.2.2.2) (fun s3 => [(0, .ref (E.1 0)), (1, .int a1), (2, .int a2), (3, .int a3), (4, .int s3.1), (5, .int s3.2.1), (6, .int s3.2.2.1)]) ?_ FU (u3_0, u3_1, u3_2, u3_3)
              intro rec3 hrec3 s3
              have krec3 : ∀ (u3_0 : Int32) (u3_1 : Int32) (u3_2 : Int32) (u3_3 : G), Go (wCA E) _ _ u3_3 53 [(0, .ref (E.1 0)), (1, .int a1), (2, .int a2), (3, .int a3), (4, .int u3_0), (5, .int u3_1), (6, .int u3_2)] [] (rec3 (u3_0, u3_1, u3_2, u3_3)) := fun u3_0 u3_1 u3_2 u3_3 => hrec3 (u3_0, u3_1, u3_2, u3_3)
              refine go_iload td_X11_source 28 rfl (q := 55) rfl 6 rfl ?_
              refine go_aload_n td_X11_source 29 rfl (q := 56) rfl 0 rfl ?_
              refine go_get td_X11_source 30 rfl (q := 59) rfl fl_X11_19 (Ac_0 E s3.2.2.2) rfl ?_
              refine go_get td_X11_source 31 rfl (q := 62) rfl fl_X11_186 (Ac_3 E s3.2.2.2) rfl ?_
              refine go_icmp_ge 99 td_X11_source 32 rfl rfl (q := 65) rfl (fun _ => ?_) (fun _ => ?_)
              · refine go_iload_n td_X11_source 49 rfl (q := 100) rfl 3 rfl ?_
                refine go_if_ne 108 td_X11_source 50 rfl rfl (q := 103) rfl (fun _ => ?_) (fun _ => ?_)
                · refine go_iload td_X11_source 53 rfl (q := 110) rfl 5 rfl ?_
                  exact go_iret td_X11_source 54 rfl rfl rfl
                · refine go_iload td_X11_source 51 rfl (q := 105) rfl 4 rfl ?_
                  refine go_goto td_X11_source 52 rfl (q := 110) rfl ?_
                  exact go_iret td_X11_source 54 rfl rfl rfl
              · refine go_aload_n td_X11_source 33 rfl (q := 66) rfl 0 rfl ?_
                refine go_iload_n td_X11_source 34 rfl (q := 67) rfl 1 rfl ?_
                refine go_iload td_X11_source 35 rfl (q := 69) rfl 6 rfl ?_
                refine go_iload_n td_X11_source 36 rfl (q := 70) rfl 2 rfl ?_
                refine go_callV td_X11_source 37 rfl (q := 73) rfl (XkA E) lk_X11_419 (ok_fA_D_sitesReached E a1 s3.2.2.1 a2 s3.2.2.2) ⟨rfl, rfl, Nat.le_of_ble_eq_true rfl, Nat.le_of_ble_eq_true rfl⟩ rfl rfl (Nat.le_of_ble_eq_true rfl) (Ac_0 E s3.2.2.2) rfl (fun x4 => ?_)
                show Go (wCA E) _ _ x4.2 73 _ [.int x4.1] _
                refine go_callS td_X11_source 38 rfl (q := 76) rfl (XkA E) lk_X11_181 (ok_fA_Integer_bitCount E x4.1 x4.2) ⟨rfl, rfl, Nat.le_of_ble_eq_true rfl, Nat.le_of_ble_eq_true rfl⟩ rfl rfl (Nat.le_of_ble_eq_true rfl) (fun x5 => ?_)
                show Go (wCA E) _ _ x4.2 76 _ [.int x5] _
                refine go_istore [(7, .int x5), (0, .ref (E.1 0)), (1, .int a1), (2, .int a2), (3, .int a3), (4, .int s3.1), (5, .int s3.2.1), (6, .int s3.2.2.1)] td_X11_source 39 rfl (q := 78) rfl (Nat.le_of_ble_eq_true rfl) rfl ?_
                refine go_iload td_X11_source 40 rfl (q := 80) rfl 0 rfl ?_
                refine go_iload td_X11_source 41 rfl (q := 82) rfl 6 rfl ?_
                refine go_ljX (α := Int32 × Int32) (fun b6 => [(0, .ref (E.1 0)), (1, .int a1), (2, .int a2), (3, .int a3), (4, .int b6.1), (5, .int b6.2), (6, .int s3.2.2.1)]) (fun b6 => []) (fun b6 => x4.2) 93 ?_ ?_
                · intro b6
                  refine go_iinc [(6, .int (s3.2.2.1 + 1)), (0, .ref (E.1 0)), (1, .int a1), (2, .int a2), (3, .int a3), (4, .int b6.1), (5, .int b6.2)] td_X11_source 47 rfl (q := 96) rfl 6 rfl kc_1 (Nat.le_of_ble_eq_true rfl) rfl ?_
                  refine go_goto td_X11_source 48 rfl (q := 53) rfl ?_
                  refine go_pick [1, 2, 3, 4, 5, 6, 0] (lv' := [(0, .ref (E.1 0)), (1, .int a1), (2, .int a2), (3, .int a3), (4, .int b6.1), (5, .int b6.2), (6, .int (s3.2.2.1 + 1))]) rfl ?_
                  exact krec3 b6.1 b6.2 (s3.2.2.1 + 1) x4.2
                intro J6 hJ6
                have kJ6 : ∀ (u6_0 : Int32) (u6_1 : Int32), Go (wCA E) _ _ x4.2 93 [(0, .ref (E.1 0)), (1, .int a1), (2, .int a2), (3, .int a3), (4, .int u6_0), (5, .int u6_1), (6, .int s3.2.2.1)] [] (J6 (u6_0, u6_1)) := fun u6_0 u6_1 => hJ6 (u6_0, u6_1)
                refine go_icmp_le 93 td_X11_source 42 rfl rfl (q := 85) rfl (fun _ => ?_) (fun _ => ?_)
                · refine go_pick [1, 2, 3, 4, 5, 6, 7] (lv' := [(0, .ref (E.1 0)), (1, .int a1), (2, .int a2), (3, .int a3), (4, .int s3.1), (5, .int s3.2.1), (6, .int s3.2.2.1)]) rfl ?_
                  exact kJ6 s3.1 s3.2.1
                · refine go_iload td_X11_source 43 rfl (q := 87) rfl 0 rfl ?_
                  refine go_istore [(5, .int x5), (7, .int x5), (0, .ref (E.1 0)), (1, .int a1), (2, .int a2), (3, .int a3), (4, .int s3.1), (6, .int s3.2.2.1)] td_X11_source 44 rfl (q := 89) rfl (Nat.le_of_ble_eq_true rfl) rfl ?_
                  refine go_iload td_X11_source 45 rfl (q := 91) rfl 7 rfl ?_
                  refine go_istore [(4, .int s3.2.2.1), (5, .int x5), (7, .int x5), (0, .ref (E.1 0)), (1, .int a1), (2, .int a2), (3, .int a3), (6, .int s3.2.2.1)] td_X11_source 46 rfl (q := 93) rfl (Nat.le_of_ble_eq_true rfl) rfl ?_
                  refine go_pick [3, 4, 5, 6, 0, 1, 7] (lv' := [(0, .ref (E.1 0)), (1, .int a1), (2, .int a2), (3, .int a3), (4, .int s3.2.2.1), (5, .int x5), (6, .int s3.2.2.1)]) rfl ?_
                  exact kJ6 s3.2.2.1 x5
            · refine go_iconst td_X11_source 18 rfl (q := 39) rfl kc_m1 ?_
              exact go_iret td_X11_source 19 rfl rfl rfl
def fA_Notes_take (g : G) : Option (Int32 × G) := Option.bind (fA_Tape_size g) fun x1 => Option.bind (fA_Plan_stands g) fun x2 => (if x2 = 0 then some (0, g) else (if x1 = 0 then some (0, g) else dz 4 ((if (x1 - x1 / 4 * 4) = 0 then (if x1 ≤ 64 then Lp (α := Int32) (fun rec3 s3 => (if x1 ≤ s3 then dz 4 (bv (sS g 13800 (x1 / 4)) fun g4 => Lp (α := Int32 × G) (fun rec5 s5 => (if (s5.2.1 13800) ≤ s5.1 then some (1, s5.2) else Option.bind (fA_Tape_byteAt (4 * s5.1) s5.2) fun x6 => ck 16 s5.1 (bv (sA s5.2 139 (s5.1 : Int32).toNatClampNeg x6) fun g7 => Option.bind (fA_Tape_byteAt ((4 * s5.1) + 1) g7) fun x8 => ck 16 s5.1 (bv (sA g7 140 (s5.1 : Int32).toNatClampNeg x8) fun g9 => Option.bind (fA_Tape_byteAt ((4 * s5.1) + 2) g9) fun x10 => ck 16 s5.1 (bv (sA g9 141 (s5.1 : Int32).toNatClampNeg x10) fun g11 => Option.bind (fA_Tape_byteAt ((4 * s5.1) + 3) g11) fun x12 => ck 16 s5.1 (bv (sA g11 142 (s5.1 : Int32).toNatClampNeg x12) fun g13 => rec5 (s5.1 + 1, g13))))))) FU (0, g4)) else Option.bind (fA_Tape_byteAt (s3 + 1) g) fun x14 => Option.bind (fA_Tape_byteAt (s3 + 2) g) fun x15 => Option.bind (fA_Plan_hasCell x14 x15 g) fun x16 => Option.bind (fA_Tape_byteAt s3 g) fun x17 => (if (g.1 303) ≤ x17 then some (0, g) else (if x16 = 0 then some (0, g) else Option.bind (fA_Tape_byteAt (s3 + 3) g) fun x18 => (if x18 ≤ 1 then rec3 (s3 + 4) else some (0, g)))))) FU 0 else some (0, g)) else some (0, g)))))
set_option maxRecDepth 20000 in
set_option maxHeartbeats 4000000 in
theorem ok_fA_Notes_take (E : Ev)  (g : G)  : Ct (wCA E) yX3_take mi_X3_take [.ref (E.1 138), .ref (E.1 1)] (fun r => (some (.int r.1), r.2)) g (fA_Notes_take g) := by
  refine go_enter rfl rfl (Nat.le_of_ble_eq_true rfl) (lv := [(0, .ref (E.1 138)), (1, .ref (E.1 1))]) rfl ?_
  unfold fA_Notes_take
  refine go_aload_n td_X3_take 0 rfl (q := 1) rfl 1 rfl ?_
  refine go_callV td_X3_take 1 rfl (q := 4) rfl (XkA E) lk_X3_45 (ok_fA_Tape_size E g) ⟨rfl, rfl, Nat.le_of_ble_eq_true rfl, Nat.le_of_ble_eq_true rfl⟩ rfl rfl (Nat.le_of_ble_eq_true rfl) (Ac_1 E g) rfl (fun x1 => ?_)
  show Go (wCA E) _ _ g 4 _ [.int x1] _
  refine go_istore_n [(2, .int x1), (0, .ref (E.1 138)), (1, .ref (E.1 1))] td_X3_take 2 rfl (q := 5) rfl (Nat.le_of_ble_eq_true rfl) rfl ?_
  refine go_aload_n td_X3_take 3 rfl (q := 6) rfl 1 rfl ?_
  refine go_get td_X3_take 4 rfl (q := 9) rfl fl_X3_37 (Ac_138 E g) rfl ?_
  refine go_callV td_X3_take 5 rfl (q := 12) rfl (XkA E) lk_X3_51 (ok_fA_Plan_stands E g) ⟨rfl, rfl, Nat.le_of_ble_eq_true rfl, Nat.le_of_ble_eq_true rfl⟩ rfl rfl (Nat.le_of_ble_eq_true rfl) (Ac_3 E g) rfl (fun x2 => ?_)
  show Go (wCA E) _ _ g 12 _ [.int x2] _
  refine go_if_eq 31 td_X3_take 6 rfl rfl (q := 15) rfl (fun _ => ?_) (fun _ => ?_)
  · refine go_iconst td_X3_take 16 rfl (q := 32) rfl kc_0 ?_
    exact go_zret td_X3_take 17 rfl rfl rfl rfl
  · refine go_iload_n td_X3_take 7 rfl (q := 16) rfl 0 rfl ?_
    refine go_if_eq 31 td_X3_take 8 rfl rfl (q := 19) rfl (fun _ => ?_) (fun _ => ?_)
    · refine go_iconst td_X3_take 16 rfl (q := 32) rfl kc_0 ?_
      exact go_zret td_X3_take 17 rfl rfl rfl rfl
    · refine go_iload_n td_X3_take 9 rfl (q := 20) rfl 0 rfl ?_
      refine go_iconst td_X3_take 10 rfl (q := 21) rfl kc_4 ?_
      refine go_irem td_X3_take 11 rfl (q := 22) rfl ?_
      refine go_if_ne 31 td_X3_take 12 rfl rfl (q := 25) rfl (fun _ => ?_) (fun _ => ?_)
      · refine go_iconst td_X3_take 16 rfl (q := 32) rfl kc_0 ?_
        exact go_zret td_X3_take 17 rfl rfl rfl rfl
      · refine go_iload_n td_X3_take 13 rfl (q := 26) rfl 0 rfl ?_
        refine go_bipush td_X3_take 14 rfl (q := 28) rfl kb_64 ?_
        refine go_icmp_le 33 td_X3_take 15 rfl rfl (q := 31) rfl (fun _ => ?_) (fun _ => ?_)
        · refine go_iconst td_X3_take 18 rfl (q := 34) rfl kc_0 ?_
          refine go_istore_n [(3, .int 0), (2, .int x1), (0, .ref (E.1 138)), (1, .ref (E.1 1))] td_X3_take 19 rfl (q := 35) rfl (Nat.le_of_ble_eq_true rfl) rfl ?_
          refine go_pick [2, 3, 1, 0] (lv' := [(0, .ref (E.1 138)), (1, .ref (E.1 1)), (2, .int x1), (3, .int 0)]) rfl ?_
          refine (show ∀ (u3_0 : Int32), Go (wCA E) _ _ g 35 [(0, .ref (E.1 138)), (1, .ref (E.1 1)), (2, .int x1), (3, .int u3_0)] [] (Lp (α := Int32) _ FU u3_0) from ?_) 0
          intro u3_0
          refine go_Lp (α := Int32) (fun s3 => g) (fun s3 => [(0, .ref (E.1 138)), (1, .ref (E.1 1)), (2, .int x1), (3, .int s3)]) ?_ FU u3_0
          intro rec3 hrec3 s3
          have krec3 : ∀ (u3_0 : Int32), Go (wCA E) _ _ g 35 [(0, .ref (E.1 138)), (1, .ref (E.1 1)), (2, .int x1), (3, .int u3_0)] [] (rec3 u3_0) := fun u3_0 => hrec3 u3_0
          refine go_iload_n td_X3_take 20 rfl (q := 36) rfl 3 rfl ?_
          refine go_iload_n td_X3_take 21 rfl (q := 37) rfl 2 rfl ?_
          refine go_icmp_ge 102 td_X3_take 22 rfl rfl (q := 40) rfl (fun _ => ?_) (fun _ => ?_)
          · refine go_aload_n td_X3_take 57 rfl (q := 103) rfl 0 rfl ?_
            refine go_iload_n td_X3_take 58 rfl (q := 104) rfl 2 rfl ?_
            refine go_iconst td_X3_take 59 rfl (q := 105) rfl kc_4 ?_
            refine go_idiv td_X3_take 60 rfl (q := 106) rfl ?_
            refine go_put td_X3_take 61 rfl (q := 109) rfl flp_X3_9 (Ac_138 E g) rfl rfl (Nat.le_of_ble_eq_true rfl) (Aps_13800 E g (x1 / 4)) ?_
            refine go_bvg (fun g4 => ?_)
            refine go_iconst td_X3_take 62 rfl (q := 110) rfl kc_0 ?_
            refine go_istore_n [(3, .int 0), (0, .ref (E.1 138)), (1, .ref (E.1 1)), (2, .int x1)] td_X3_take 63 rfl (q := 111) rfl (Nat.le_of_ble_eq_true rfl) rfl ?_
            refine go_pick [1, 2, 0] (lv' := [(0, .ref (E.1 138)), (1, .ref (E.1 1)), (3, .int 0)]) rfl ?_
            refine (show ∀ (u5_0 : Int32) (u5_1 : G), Go (wCA E) _ _ u5_1 111 [(0, .ref (E.1 138)), (1, .ref (E.1 1)), (3, .int u5_0)] [] (Lp (α := Int32 × G) _ FU (u5_0, u5_1)) from ?_) 0 g4
            intro u5_0 u5_1
            refine go_Lp (α := Int32 × G) (fun s5 => s5.2) (fun s5 => [(0, .ref (E.1 138)), (1, .ref (E.1 1)), (3, .int s5.1)]) ?_ FU (u5_0, u5_1)
            intro rec5 hrec5 s5
            have krec5 : ∀ (u5_0 : Int32) (u5_1 : G), Go (wCA E) _ _ u5_1 111 [(0, .ref (E.1 138)), (1, .ref (E.1 1)), (3, .int u5_0)] [] (rec5 (u5_0, u5_1)) := fun u5_0 u5_1 => hrec5 (u5_0, u5_1)
            refine go_iload_n td_X3_take 64 rfl (q := 112) rfl 2 rfl ?_
            refine go_aload_n td_X3_take 65 rfl (q := 113) rfl 0 rfl ?_
            refine go_get td_X3_take 66 rfl (q := 116) rfl fl_X3_9 (Ac_138 E s5.2) rfl ?_
            refine go_icmp_ge 183 td_X3_take 67 rfl rfl (q := 119) rfl (fun _ => ?_) (fun _ => ?_)
            · refine go_iconst td_X3_take 112 rfl (q := 184) rfl kc_1 ?_
              exact go_zret td_X3_take 113 rfl rfl rfl rfl
            · refine go_aload_n td_X3_take 68 rfl (q := 120) rfl 0 rfl ?_
              refine go_get td_X3_take 69 rfl (q := 123) rfl fl_X3_21 (Ac_138 E s5.2) rfl ?_
              refine go_iload_n td_X3_take 70 rfl (q := 124) rfl 2 rfl ?_
              refine go_aload_n td_X3_take 71 rfl (q := 125) rfl 1 rfl ?_
              refine go_iconst td_X3_take 72 rfl (q := 126) rfl kc_4 ?_
              refine go_iload_n td_X3_take 73 rfl (q := 127) rfl 2 rfl ?_
              refine go_imul td_X3_take 74 rfl (q := 128) rfl ?_
              refine go_callV td_X3_take 75 rfl (q := 131) rfl (XkA E) lk_X3_57 (ok_fA_Tape_byteAt E (4 * s5.1) s5.2) ⟨rfl, rfl, Nat.le_of_ble_eq_true rfl, Nat.le_of_ble_eq_true rfl⟩ rfl rfl (Nat.le_of_ble_eq_true rfl) (Ac_1 E s5.2) rfl (fun x6 => ?_)
              show Go (wCA E) _ _ s5.2 131 _ [.int x6, .int s5.1, .ref (E.1 139)] _
              refine go_ast td_X3_take 76 rfl (q := 132) rfl (Ac_139 E s5.2) (t0 := 0) rfl (Aas_139 E s5.2 _) ?_
              refine go_bvg (fun g7 => ?_)
              refine go_aload_n td_X3_take 77 rfl (q := 133) rfl 0 rfl ?_
              refine go_get td_X3_take 78 rfl (q := 136) rfl fl_X3_25 (Ac_138 E g7) rfl ?_
              refine go_iload_n td_X3_take 79 rfl (q := 137) rfl 2 rfl ?_
              refine go_aload_n td_X3_take 80 rfl (q := 138) rfl 1 rfl ?_
              refine go_iconst td_X3_take 81 rfl (q := 139) rfl kc_4 ?_
              refine go_iload_n td_X3_take 82 rfl (q := 140) rfl 2 rfl ?_
              refine go_imul td_X3_take 83 rfl (q := 141) rfl ?_
              refine go_iconst td_X3_take 84 rfl (q := 142) rfl kc_1 ?_
              refine go_iadd td_X3_take 85 rfl (q := 143) rfl ?_
              refine go_callV td_X3_take 86 rfl (q := 146) rfl (XkA E) lk_X3_57 (ok_fA_Tape_byteAt E ((4 * s5.1) + 1) g7) ⟨rfl, rfl, Nat.le_of_ble_eq_true rfl, Nat.le_of_ble_eq_true rfl⟩ rfl rfl (Nat.le_of_ble_eq_true rfl) (Ac_1 E g7) rfl (fun x8 => ?_)
              show Go (wCA E) _ _ g7 146 _ [.int x8, .int s5.1, .ref (E.1 140)] _
              refine go_ast td_X3_take 87 rfl (q := 147) rfl (Ac_140 E g7) (t0 := 0) rfl (Aas_140 E g7 _) ?_
              refine go_bvg (fun g9 => ?_)
              refine go_aload_n td_X3_take 88 rfl (q := 148) rfl 0 rfl ?_
              refine go_get td_X3_take 89 rfl (q := 151) rfl fl_X3_28 (Ac_138 E g9) rfl ?_
              refine go_iload_n td_X3_take 90 rfl (q := 152) rfl 2 rfl ?_
              refine go_aload_n td_X3_take 91 rfl (q := 153) rfl 1 rfl ?_
              refine go_iconst td_X3_take 92 rfl (q := 154) rfl kc_4 ?_
              refine go_iload_n td_X3_take 93 rfl (q := 155) rfl 2 rfl ?_
              refine go_imul td_X3_take 94 rfl (q := 156) rfl ?_
              refine go_iconst td_X3_take 95 rfl (q := 157) rfl kc_2 ?_
              refine go_iadd td_X3_take 96 rfl (q := 158) rfl ?_
              refine go_callV td_X3_take 97 rfl (q := 161) rfl (XkA E) lk_X3_57 (ok_fA_Tape_byteAt E ((4 * s5.1) + 2) g9) ⟨rfl, rfl, Nat.le_of_ble_eq_true rfl, Nat.le_of_ble_eq_true rfl⟩ rfl rfl (Nat.le_of_ble_eq_true rfl) (Ac_1 E g9) rfl (fun x10 => ?_)
              show Go (wCA E) _ _ g9 161 _ [.int x10, .int s5.1, .ref (E.1 141)] _
              refine go_ast td_X3_take 98 rfl (q := 162) rfl (Ac_141 E g9) (t0 := 0) rfl (Aas_141 E g9 _) ?_
              refine go_bvg (fun g11 => ?_)
              refine go_aload_n td_X3_take 99 rfl (q := 163) rfl 0 rfl ?_
              refine go_get td_X3_take 100 rfl (q := 166) rfl fl_X3_31 (Ac_138 E g11) rfl ?_
              refine go_iload_n td_X3_take 101 rfl (q := 167) rfl 2 rfl ?_
              refine go_aload_n td_X3_take 102 rfl (q := 168) rfl 1 rfl ?_
              refine go_iconst td_X3_take 103 rfl (q := 169) rfl kc_4 ?_
              refine go_iload_n td_X3_take 104 rfl (q := 170) rfl 2 rfl ?_
              refine go_imul td_X3_take 105 rfl (q := 171) rfl ?_
              refine go_iconst td_X3_take 106 rfl (q := 172) rfl kc_3 ?_
              refine go_iadd td_X3_take 107 rfl (q := 173) rfl ?_
              refine go_callV td_X3_take 108 rfl (q := 176) rfl (XkA E) lk_X3_57 (ok_fA_Tape_byteAt E ((4 * s5.1) + 3) g11) ⟨rfl, rfl, Nat.le_of_ble_eq_true rfl, Nat.le_of_ble_eq_true rfl⟩ rfl rfl (Nat.le_of_ble_eq_true rfl) (Ac_1 E g11) rfl (fun x12 => ?_)
              show Go (wCA E) _ _ g11 176 _ [.int x12, .int s5.1, .ref (E.1 142)] _
              refine go_ast td_X3_take 109 rfl (q := 177) rfl (Ac_142 E g11) (t0 := 0) rfl (Aas_142 E g11 _) ?_
              refine go_bvg (fun g13 => ?_)
              refine go_iinc [(3, .int (s5.1 + 1)), (0, .ref (E.1 138)), (1, .ref (E.1 1))] td_X3_take 110 rfl (q := 180) rfl 2 rfl kc_1 (Nat.le_of_ble_eq_true rfl) rfl ?_
              refine go_goto td_X3_take 111 rfl (q := 111) rfl ?_
              refine go_pick [1, 2, 0] (lv' := [(0, .ref (E.1 138)), (1, .ref (E.1 1)), (3, .int (s5.1 + 1))]) rfl ?_
              exact krec5 (s5.1 + 1) g13
          · refine go_aload_n td_X3_take 23 rfl (q := 41) rfl 0 rfl ?_
            refine go_get td_X3_take 24 rfl (q := 44) rfl fl_X3_37 (Ac_138 E g) rfl ?_
            refine go_aload_n td_X3_take 25 rfl (q := 45) rfl 1 rfl ?_
            refine go_iload_n td_X3_take 26 rfl (q := 46) rfl 3 rfl ?_
            refine go_iconst td_X3_take 27 rfl (q := 47) rfl kc_1 ?_
            refine go_iadd td_X3_take 28 rfl (q := 48) rfl ?_
            refine go_callV td_X3_take 29 rfl (q := 51) rfl (XkA E) lk_X3_57 (ok_fA_Tape_byteAt E (s3 + 1) g) ⟨rfl, rfl, Nat.le_of_ble_eq_true rfl, Nat.le_of_ble_eq_true rfl⟩ rfl rfl (Nat.le_of_ble_eq_true rfl) (Ac_1 E g) rfl (fun x14 => ?_)
            show Go (wCA E) _ _ g 51 _ [.int x14, .ref (E.1 3)] _
            refine go_aload_n td_X3_take 30 rfl (q := 52) rfl 1 rfl ?_
            refine go_iload_n td_X3_take 31 rfl (q := 53) rfl 3 rfl ?_
            refine go_iconst td_X3_take 32 rfl (q := 54) rfl kc_2 ?_
            refine go_iadd td_X3_take 33 rfl (q := 55) rfl ?_
            refine go_callV td_X3_take 34 rfl (q := 58) rfl (XkA E) lk_X3_57 (ok_fA_Tape_byteAt E (s3 + 2) g) ⟨rfl, rfl, Nat.le_of_ble_eq_true rfl, Nat.le_of_ble_eq_true rfl⟩ rfl rfl (Nat.le_of_ble_eq_true rfl) (Ac_1 E g) rfl (fun x15 => ?_)
            show Go (wCA E) _ _ g 58 _ [.int x15, .int x14, .ref (E.1 3)] _
            refine go_callV td_X3_take 35 rfl (q := 61) rfl (XkA E) lk_X3_61 (ok_fA_Plan_hasCell E x14 x15 g) ⟨rfl, rfl, Nat.le_of_ble_eq_true rfl, Nat.le_of_ble_eq_true rfl⟩ rfl rfl (Nat.le_of_ble_eq_true rfl) (Ac_3 E g) rfl (fun x16 => ?_)
            show Go (wCA E) _ _ g 61 _ [.int x16] _
            refine go_istore [(4, .int x16), (0, .ref (E.1 138)), (1, .ref (E.1 1)), (2, .int x1), (3, .int s3)] td_X3_take 36 rfl (q := 63) rfl (Nat.le_of_ble_eq_true rfl) rfl ?_
            refine go_aload_n td_X3_take 37 rfl (q := 64) rfl 2 rfl ?_
            refine go_iload_n td_X3_take 38 rfl (q := 65) rfl 4 rfl ?_
            refine go_callV td_X3_take 39 rfl (q := 68) rfl (XkA E) lk_X3_57 (ok_fA_Tape_byteAt E s3 g) ⟨rfl, rfl, Nat.le_of_ble_eq_true rfl, Nat.le_of_ble_eq_true rfl⟩ rfl rfl (Nat.le_of_ble_eq_true rfl) (Ac_1 E g) rfl (fun x17 => ?_)
            show Go (wCA E) _ _ g 68 _ [.int x17] _
            refine go_aload_n td_X3_take 40 rfl (q := 69) rfl 1 rfl ?_
            refine go_get td_X3_take 41 rfl (q := 72) rfl fl_X3_37 (Ac_138 E g) rfl ?_
            refine go_get td_X3_take 42 rfl (q := 75) rfl fl_X3_65 (Ac_3 E g) rfl ?_
            refine go_icmp_ge 94 td_X3_take 43 rfl rfl (q := 78) rfl (fun _ => ?_) (fun _ => ?_)
            · refine go_iconst td_X3_take 53 rfl (q := 95) rfl kc_0 ?_
              exact go_zret td_X3_take 54 rfl rfl rfl rfl
            · refine go_iload td_X3_take 44 rfl (q := 80) rfl 0 rfl ?_
              refine go_if_eq 94 td_X3_take 45 rfl rfl (q := 83) rfl (fun _ => ?_) (fun _ => ?_)
              · refine go_iconst td_X3_take 53 rfl (q := 95) rfl kc_0 ?_
                exact go_zret td_X3_take 54 rfl rfl rfl rfl
              · refine go_aload_n td_X3_take 46 rfl (q := 84) rfl 2 rfl ?_
                refine go_iload_n td_X3_take 47 rfl (q := 85) rfl 4 rfl ?_
                refine go_iconst td_X3_take 48 rfl (q := 86) rfl kc_3 ?_
                refine go_iadd td_X3_take 49 rfl (q := 87) rfl ?_
                refine go_callV td_X3_take 50 rfl (q := 90) rfl (XkA E) lk_X3_57 (ok_fA_Tape_byteAt E (s3 + 3) g) ⟨rfl, rfl, Nat.le_of_ble_eq_true rfl, Nat.le_of_ble_eq_true rfl⟩ rfl rfl (Nat.le_of_ble_eq_true rfl) (Ac_1 E g) rfl (fun x18 => ?_)
                show Go (wCA E) _ _ g 90 _ [.int x18] _
                refine go_iconst td_X3_take 51 rfl (q := 91) rfl kc_1 ?_
                refine go_icmp_le 96 td_X3_take 52 rfl rfl (q := 94) rfl (fun _ => ?_) (fun _ => ?_)
                · refine go_iinc [(3, .int (s3 + 4)), (4, .int x16), (0, .ref (E.1 138)), (1, .ref (E.1 1)), (2, .int x1)] td_X3_take 55 rfl (q := 99) rfl 4 rfl kc_4 (Nat.le_of_ble_eq_true rfl) rfl ?_
                  refine go_goto td_X3_take 56 rfl (q := 35) rfl ?_
                  refine go_pick [2, 3, 4, 0] (lv' := [(0, .ref (E.1 138)), (1, .ref (E.1 1)), (2, .int x1), (3, .int (s3 + 4))]) rfl ?_
                  exact krec3 (s3 + 4)
                · refine go_iconst td_X3_take 53 rfl (q := 95) rfl kc_0 ?_
                  exact go_zret td_X3_take 54 rfl rfl rfl rfl
        · refine go_iconst td_X3_take 16 rfl (q := 32) rfl kc_0 ?_
          exact go_zret td_X3_take 17 rfl rfl rfl rfl
def fA_D_note (g : G) : Option (Int32 × G) := Option.bind (fA_Notes_take g) fun x1 => Option.bind (fA_Tape_cutTo 0 x1.2) fun x2 => (if x1.1 = 0 then Option.bind (fA_D_refuse 5 x2) fun x3 => some (x3.1, x3.2) else some (x2.1 13800, x2))
set_option maxRecDepth 20000 in
set_option maxHeartbeats 4000000 in
theorem ok_fA_D_note (E : Ev)  (g : G)  : Ct (wCA E) yX11_note mi_X11_note [.ref (E.1 0)] (fun r => (some (.int r.1), r.2)) g (fA_D_note g) := by
  refine go_enter rfl rfl (Nat.le_of_ble_eq_true rfl) (lv := [(0, .ref (E.1 0))]) rfl ?_
  unfold fA_D_note
  refine go_aload_n td_X11_note 0 rfl (q := 1) rfl 0 rfl ?_
  refine go_get td_X11_note 1 rfl (q := 4) rfl fl_X11_89 (Ac_0 E g) rfl ?_
  refine go_aload_n td_X11_note 2 rfl (q := 5) rfl 0 rfl ?_
  refine go_get td_X11_note 3 rfl (q := 8) rfl fl_X11_12 (Ac_0 E g) rfl ?_
  refine go_callV td_X11_note 4 rfl (q := 11) rfl (XkA E) lk_X11_423 (ok_fA_Notes_take E g) ⟨rfl, rfl, Nat.le_of_ble_eq_true rfl, Nat.le_of_ble_eq_true rfl⟩ rfl rfl (Nat.le_of_ble_eq_true rfl) (Ac_138 E g) rfl (fun x1 => ?_)
  show Go (wCA E) _ _ x1.2 11 _ [.int x1.1] _
  refine go_istore_n [(1, .int x1.1), (0, .ref (E.1 0))] td_X11_note 5 rfl (q := 12) rfl (Nat.le_of_ble_eq_true rfl) rfl ?_
  refine go_aload_n td_X11_note 6 rfl (q := 13) rfl 1 rfl ?_
  refine go_get td_X11_note 7 rfl (q := 16) rfl fl_X11_12 (Ac_0 E x1.2) rfl ?_
  refine go_iconst td_X11_note 8 rfl (q := 17) rfl kc_0 ?_
  refine go_callV td_X11_note 9 rfl (q := 20) rfl (XkA E) lk_X11_134 (ok_fA_Tape_cutTo E 0 x1.2) ⟨rfl, rfl, Nat.le_of_ble_eq_true rfl, Nat.le_of_ble_eq_true rfl⟩ rfl rfl (Nat.le_of_ble_eq_true rfl) (Ac_1 E x1.2) rfl (fun x2 => ?_)
  show Go (wCA E) _ _ x2 20 _ [] _
  refine go_iload_n td_X11_note 10 rfl (q := 21) rfl 0 rfl ?_
  refine go_if_eq 34 td_X11_note 11 rfl rfl (q := 24) rfl (fun _ => ?_) (fun _ => ?_)
  · refine go_aload_n td_X11_note 16 rfl (q := 35) rfl 1 rfl ?_
    refine go_iconst td_X11_note 17 rfl (q := 36) rfl kc_5 ?_
    refine go_callV td_X11_note 18 rfl (q := 39) rfl (XkA E) lk_X11_122 (ok_fA_D_refuse E 5 x2) ⟨rfl, rfl, Nat.le_of_ble_eq_true rfl, Nat.le_of_ble_eq_true rfl⟩ rfl rfl (Nat.le_of_ble_eq_true rfl) (Ac_0 E x2) rfl (fun x3 => ?_)
    show Go (wCA E) _ _ x3.2 39 _ [.int x3.1] _
    exact go_iret td_X11_note 19 rfl rfl rfl
  · refine go_aload_n td_X11_note 12 rfl (q := 25) rfl 1 rfl ?_
    refine go_get td_X11_note 13 rfl (q := 28) rfl fl_X11_89 (Ac_0 E x2) rfl ?_
    refine go_get td_X11_note 14 rfl (q := 31) rfl fl_X11_195 (Ac_138 E x2) rfl ?_
    refine go_goto td_X11_note 15 rfl (q := 39) rfl ?_
    exact go_iret td_X11_note 19 rfl rfl rfl
def fA_Notes_allSo (a1 : Int32) (g : G) : Option (Int32) := Lp (α := Int32) (fun rec1 s1 => (if (g.1 13800) ≤ s1 then some 1 else ag 16 (g.2.1 139) s1 fun x2 => ag 16 (g.2.1 140) s1 fun x3 => ag 16 (g.2.1 141) s1 fun x4 => Option.bind (fA_Sky_whoSees a1 x2 x3 x4 g) fun x5 => lj (α := Int32) (fun b6 => ag 16 (g.2.1 142) s1 fun x7 => (if b6 = x7 then rec1 (s1 + 1) else some 0)) fun J6 => (if x5 = 0 then J6 0 else J6 1))) FU 0
set_option maxRecDepth 20000 in
set_option maxHeartbeats 4000000 in
theorem ok_fA_Notes_allSo (E : Ev) (a1 : Int32) (g : G)  : Ct (wCA E) yX3_allSo mi_X3_allSo [.ref (E.1 138), .int a1] (fun r => (some (.int r), g)) g (fA_Notes_allSo a1 g) := by
  refine go_enter rfl rfl (Nat.le_of_ble_eq_true rfl) (lv := [(0, .ref (E.1 138)), (1, .int a1)]) rfl ?_
  unfold fA_Notes_allSo
  refine go_iconst td_X3_allSo 0 rfl (q := 1) rfl kc_0 ?_
  refine go_istore_n [(2, .int 0), (0, .ref (E.1 138)), (1, .int a1)] td_X3_allSo 1 rfl (q := 2) rfl (Nat.le_of_ble_eq_true rfl) rfl ?_
  refine go_pick [1, 2, 0] (lv' := [(0, .ref (E.1 138)), (1, .int a1), (2, .int 0)]) rfl ?_
  refine (show ∀ (u1_0 : Int32), Go (wCA E) _ _ g 2 [(0, .ref (E.1 138)), (1, .int a1), (2, .int u1_0)] [] (Lp (α := Int32) _ FU u1_0) from ?_) 0
  intro u1_0
  refine go_Lp (α := Int32) (fun s1 => g) (fun s1 => [(0, .ref (E.1 138)), (1, .int a1), (2, .int s1)]) ?_ FU u1_0
  intro rec1 hrec1 s1
  have krec1 : ∀ (u1_0 : Int32), Go (wCA E) _ _ g 2 [(0, .ref (E.1 138)), (1, .int a1), (2, .int u1_0)] [] (rec1 u1_0) := fun u1_0 => hrec1 u1_0
  refine go_iload_n td_X3_allSo 2 rfl (q := 3) rfl 2 rfl ?_
  refine go_aload_n td_X3_allSo 3 rfl (q := 4) rfl 0 rfl ?_
  refine go_get td_X3_allSo 4 rfl (q := 7) rfl fl_X3_9 (Ac_138 E g) rfl ?_
  refine go_icmp_ge 63 td_X3_allSo 5 rfl rfl (q := 10) rfl (fun _ => ?_) (fun _ => ?_)
  · refine go_iconst td_X3_allSo 37 rfl (q := 64) rfl kc_1 ?_
    exact go_zret td_X3_allSo 38 rfl rfl rfl rfl
  · refine go_aload_n td_X3_allSo 6 rfl (q := 11) rfl 0 rfl ?_
    refine go_get td_X3_allSo 7 rfl (q := 14) rfl fl_X3_41 (Ac_138 E g) rfl ?_
    refine go_iload_n td_X3_allSo 8 rfl (q := 15) rfl 1 rfl ?_
    refine go_aload_n td_X3_allSo 9 rfl (q := 16) rfl 0 rfl ?_
    refine go_get td_X3_allSo 10 rfl (q := 19) rfl fl_X3_21 (Ac_138 E g) rfl ?_
    refine go_iload_n td_X3_allSo 11 rfl (q := 20) rfl 2 rfl ?_
    refine go_ald td_X3_allSo 12 rfl (q := 21) rfl (Ac_139 E g) (t0 := 0) rfl (fun x2 => ?_)
    refine go_aload_n td_X3_allSo 13 rfl (q := 22) rfl 0 rfl ?_
    refine go_get td_X3_allSo 14 rfl (q := 25) rfl fl_X3_25 (Ac_138 E g) rfl ?_
    refine go_iload_n td_X3_allSo 15 rfl (q := 26) rfl 2 rfl ?_
    refine go_ald td_X3_allSo 16 rfl (q := 27) rfl (Ac_140 E g) (t0 := 0) rfl (fun x3 => ?_)
    refine go_aload_n td_X3_allSo 17 rfl (q := 28) rfl 0 rfl ?_
    refine go_get td_X3_allSo 18 rfl (q := 31) rfl fl_X3_28 (Ac_138 E g) rfl ?_
    refine go_iload_n td_X3_allSo 19 rfl (q := 32) rfl 2 rfl ?_
    refine go_ald td_X3_allSo 20 rfl (q := 33) rfl (Ac_141 E g) (t0 := 0) rfl (fun x4 => ?_)
    refine go_callV td_X3_allSo 21 rfl (q := 36) rfl (XkA E) lk_X3_75 (ok_fA_Sky_whoSees E a1 x2 x3 x4 g) ⟨rfl, rfl, Nat.le_of_ble_eq_true rfl, Nat.le_of_ble_eq_true rfl⟩ rfl rfl (Nat.le_of_ble_eq_true rfl) (Ac_118 E g) rfl (fun x5 => ?_)
    show Go (wCA E) _ _ g 36 _ [.int x5] _
    refine go_ljX (α := Int32) (fun b6 => [(0, .ref (E.1 138)), (1, .int a1), (2, .int s1)]) (fun b6 => [.int b6]) (fun b6 => g) 44 ?_ ?_
    · intro b6
      refine go_istore_n [(3, .int b6), (0, .ref (E.1 138)), (1, .int a1), (2, .int s1)] td_X3_allSo 26 rfl (q := 45) rfl (Nat.le_of_ble_eq_true rfl) rfl ?_
      refine go_iload_n td_X3_allSo 27 rfl (q := 46) rfl 0 rfl ?_
      refine go_aload_n td_X3_allSo 28 rfl (q := 47) rfl 1 rfl ?_
      refine go_get td_X3_allSo 29 rfl (q := 50) rfl fl_X3_31 (Ac_138 E g) rfl ?_
      refine go_iload_n td_X3_allSo 30 rfl (q := 51) rfl 3 rfl ?_
      refine go_ald td_X3_allSo 31 rfl (q := 52) rfl (Ac_142 E g) (t0 := 0) rfl (fun x7 => ?_)
      refine go_icmp_eq 57 td_X3_allSo 32 rfl rfl (q := 55) rfl (fun _ => ?_) (fun _ => ?_)
      · refine go_iinc [(2, .int (s1 + 1)), (3, .int b6), (0, .ref (E.1 138)), (1, .int a1)] td_X3_allSo 35 rfl (q := 60) rfl 3 rfl kc_1 (Nat.le_of_ble_eq_true rfl) rfl ?_
        refine go_goto td_X3_allSo 36 rfl (q := 2) rfl ?_
        refine go_pick [2, 3, 0] (lv' := [(0, .ref (E.1 138)), (1, .int a1), (2, .int (s1 + 1))]) rfl ?_
        exact krec1 (s1 + 1)
      · refine go_iconst td_X3_allSo 33 rfl (q := 56) rfl kc_0 ?_
        exact go_zret td_X3_allSo 34 rfl rfl rfl rfl
    intro J6 hJ6
    have kJ6 : ∀ (u6_0 : Int32), Go (wCA E) _ _ g 44 [(0, .ref (E.1 138)), (1, .int a1), (2, .int s1)] [.int u6_0] (J6 u6_0) := fun u6_0 => hJ6 u6_0
    refine go_if_eq 43 td_X3_allSo 22 rfl rfl (q := 39) rfl (fun _ => ?_) (fun _ => ?_)
    · refine go_iconst td_X3_allSo 25 rfl (q := 44) rfl kc_0 ?_
      refine go_pick [0, 1, 2] (lv' := [(0, .ref (E.1 138)), (1, .int a1), (2, .int s1)]) rfl ?_
      exact kJ6 0
    · refine go_iconst td_X3_allSo 23 rfl (q := 40) rfl kc_1 ?_
      refine go_goto td_X3_allSo 24 rfl (q := 44) rfl ?_
      refine go_pick [0, 1, 2] (lv' := [(0, .ref (E.1 138)), (1, .int a1), (2, .int s1)]) rfl ?_
      exact kJ6 1
def fA_Notes_suspects (a1 : Int32) (g : G) : Option (Int32) := Lp (α := Int32 × Int32) (fun rec1 s1 => (if (g.1 306) < s1.2 then some s1.1 else lj (α := Int32) (fun b2 => lj (α := Int32) (fun b3 => rec1 (b3, s1.2 + 1)) fun J3 => (if b2 = 0 then J3 s1.1 else Option.bind (fA_Notes_allSo (a1 &&& (((1 : Int32) <<< (s1.2 &&& 31)) ^^^ (-1))) g) fun x4 => (if x4 = 0 then J3 s1.1 else bv (s1.1 ||| ((1 : Int32) <<< (s1.2 &&& 31))) fun x5 => J3 x5))) fun J2 => lj (α := Unit) (fun b6 => J2 1) fun J6 => (if s1.2 = (g.1 306) then J6 () else (if ((a1 >>> (s1.2 &&& 31)) &&& 1) = 0 then J2 0 else J6 ())))) FU (0, 0)
set_option maxRecDepth 20000 in
set_option maxHeartbeats 4000000 in
theorem ok_fA_Notes_suspects (E : Ev) (a1 : Int32) (g : G)  : Ct (wCA E) yX3_suspects mi_X3_suspects [.ref (E.1 138), .int a1] (fun r => (some (.int r), g)) g (fA_Notes_suspects a1 g) := by
  refine go_enter rfl rfl (Nat.le_of_ble_eq_true rfl) (lv := [(0, .ref (E.1 138)), (1, .int a1)]) rfl ?_
  unfold fA_Notes_suspects
  refine go_iconst td_X3_suspects 0 rfl (q := 1) rfl kc_0 ?_
  refine go_istore_n [(2, .int 0), (0, .ref (E.1 138)), (1, .int a1)] td_X3_suspects 1 rfl (q := 2) rfl (Nat.le_of_ble_eq_true rfl) rfl ?_
  refine go_iconst td_X3_suspects 2 rfl (q := 3) rfl kc_0 ?_
  refine go_istore_n [(3, .int 0), (2, .int 0), (0, .ref (E.1 138)), (1, .int a1)] td_X3_suspects 3 rfl (q := 4) rfl (Nat.le_of_ble_eq_true rfl) rfl ?_
  refine go_pick [2, 3, 1, 0] (lv' := [(0, .ref (E.1 138)), (1, .int a1), (2, .int 0), (3, .int 0)]) rfl ?_
  refine (show ∀ (u1_0 : Int32) (u1_1 : Int32), Go (wCA E) _ _ g 4 [(0, .ref (E.1 138)), (1, .int a1), (2, .int u1_0), (3, .int u1_1)] [] (Lp (α := Int32 × Int32) _ FU (u1_0, u1_1)) from ?_) 0 0
  intro u1_0 u1_1
  refine go_Lp (α := Int32 × Int32) (fun s1 => g) (fun s1 => [(0, .ref (E.1 138)), (1, .int a1), (2, .int s1.1), (3, .int s1.2)]) ?_ FU (u1_0, u1_1)
  intro rec1 hrec1 s1
  have krec1 : ∀ (u1_0 : Int32) (u1_1 : Int32), Go (wCA E) _ _ g 4 [(0, .ref (E.1 138)), (1, .int a1), (2, .int u1_0), (3, .int u1_1)] [] (rec1 (u1_0, u1_1)) := fun u1_0 u1_1 => hrec1 (u1_0, u1_1)
  refine go_iload_n td_X3_suspects 4 rfl (q := 5) rfl 3 rfl ?_
  refine go_aload_n td_X3_suspects 5 rfl (q := 6) rfl 0 rfl ?_
  refine go_get td_X3_suspects 6 rfl (q := 9) rfl fl_X3_37 (Ac_138 E g) rfl ?_
  refine go_get td_X3_suspects 7 rfl (q := 12) rfl fl_X3_68 (Ac_3 E g) rfl ?_
  refine go_icmp_gt 72 td_X3_suspects 8 rfl rfl (q := 15) rfl (fun _ => ?_) (fun _ => ?_)
  · refine go_iload_n td_X3_suspects 44 rfl (q := 73) rfl 2 rfl ?_
    exact go_iret td_X3_suspects 45 rfl rfl rfl
  · refine go_iload_n td_X3_suspects 9 rfl (q := 16) rfl 3 rfl ?_
    refine go_aload_n td_X3_suspects 10 rfl (q := 17) rfl 0 rfl ?_
    refine go_get td_X3_suspects 11 rfl (q := 20) rfl fl_X3_37 (Ac_138 E g) rfl ?_
    refine go_get td_X3_suspects 12 rfl (q := 23) rfl fl_X3_68 (Ac_3 E g) rfl ?_
    refine go_ljX (α := Int32) (fun b2 => [(0, .ref (E.1 138)), (1, .int a1), (2, .int s1.1), (3, .int s1.2)]) (fun b2 => [.int b2]) (fun b2 => g) 39 ?_ ?_
    · intro b2
      refine go_istore [(4, .int b2), (0, .ref (E.1 138)), (1, .int a1), (2, .int s1.1), (3, .int s1.2)] td_X3_suspects 23 rfl (q := 41) rfl (Nat.le_of_ble_eq_true rfl) rfl ?_
      refine go_iload td_X3_suspects 24 rfl (q := 43) rfl 0 rfl ?_
      refine go_ljX (α := Int32) (fun b3 => [(0, .ref (E.1 138)), (1, .int a1), (2, .int b3), (3, .int s1.2)]) (fun b3 => []) (fun b3 => g) 66 ?_ ?_
      · intro b3
        refine go_iinc [(3, .int (s1.2 + 1)), (0, .ref (E.1 138)), (1, .int a1), (2, .int b3)] td_X3_suspects 42 rfl (q := 69) rfl 3 rfl kc_1 (Nat.le_of_ble_eq_true rfl) rfl ?_
        refine go_goto td_X3_suspects 43 rfl (q := 4) rfl ?_
        refine go_pick [1, 2, 3, 0] (lv' := [(0, .ref (E.1 138)), (1, .int a1), (2, .int b3), (3, .int (s1.2 + 1))]) rfl ?_
        exact krec1 b3 (s1.2 + 1)
      intro J3 hJ3
      have kJ3 : ∀ (u3_0 : Int32), Go (wCA E) _ _ g 66 [(0, .ref (E.1 138)), (1, .int a1), (2, .int u3_0), (3, .int s1.2)] [] (J3 u3_0) := fun u3_0 => hJ3 u3_0
      refine go_if_eq 66 td_X3_suspects 25 rfl rfl (q := 46) rfl (fun _ => ?_) (fun _ => ?_)
      · refine go_pick [1, 2, 3, 4] (lv' := [(0, .ref (E.1 138)), (1, .int a1), (2, .int s1.1), (3, .int s1.2)]) rfl ?_
        exact kJ3 s1.1
      · refine go_aload_n td_X3_suspects 26 rfl (q := 47) rfl 1 rfl ?_
        refine go_iload_n td_X3_suspects 27 rfl (q := 48) rfl 2 rfl ?_
        refine go_iconst td_X3_suspects 28 rfl (q := 49) rfl kc_1 ?_
        refine go_iload_n td_X3_suspects 29 rfl (q := 50) rfl 4 rfl ?_
        refine go_ishl td_X3_suspects 30 rfl (q := 51) rfl ?_
        refine go_iconst td_X3_suspects 31 rfl (q := 52) rfl kc_m1 ?_
        refine go_ixor td_X3_suspects 32 rfl (q := 53) rfl ?_
        refine go_iand td_X3_suspects 33 rfl (q := 54) rfl ?_
        refine go_callV td_X3_suspects 34 rfl (q := 57) rfl (XkA E) lk_X3_71 (ok_fA_Notes_allSo E (a1 &&& (((1 : Int32) <<< (s1.2 &&& 31)) ^^^ (-1))) g) ⟨rfl, rfl, Nat.le_of_ble_eq_true rfl, Nat.le_of_ble_eq_true rfl⟩ rfl rfl (Nat.le_of_ble_eq_true rfl) (Ac_138 E g) rfl (fun x4 => ?_)
        show Go (wCA E) _ _ g 57 _ [.int x4] _
        refine go_if_eq 66 td_X3_suspects 35 rfl rfl (q := 60) rfl (fun _ => ?_) (fun _ => ?_)
        · refine go_pick [1, 2, 3, 4] (lv' := [(0, .ref (E.1 138)), (1, .int a1), (2, .int s1.1), (3, .int s1.2)]) rfl ?_
          exact kJ3 s1.1
        · refine go_iload_n td_X3_suspects 36 rfl (q := 61) rfl 3 rfl ?_
          refine go_iconst td_X3_suspects 37 rfl (q := 62) rfl kc_1 ?_
          refine go_iload_n td_X3_suspects 38 rfl (q := 63) rfl 4 rfl ?_
          refine go_ishl td_X3_suspects 39 rfl (q := 64) rfl ?_
          refine go_ior td_X3_suspects 40 rfl (q := 65) rfl ?_
          refine go_bvi (fun x5 => ?_)
          refine go_istore_n [(2, .int x5), (4, .int b2), (0, .ref (E.1 138)), (1, .int a1), (3, .int s1.2)] td_X3_suspects 41 rfl (q := 66) rfl (Nat.le_of_ble_eq_true rfl) rfl ?_
          refine go_pick [2, 3, 0, 4] (lv' := [(0, .ref (E.1 138)), (1, .int a1), (2, .int x5), (3, .int s1.2)]) rfl ?_
          exact kJ3 x5
    intro J2 hJ2
    have kJ2 : ∀ (u2_0 : Int32), Go (wCA E) _ _ g 39 [(0, .ref (E.1 138)), (1, .int a1), (2, .int s1.1), (3, .int s1.2)] [.int u2_0] (J2 u2_0) := fun u2_0 => hJ2 u2_0
    refine go_ljX (α := Unit) (fun b6 => [(0, .ref (E.1 138)), (1, .int a1), (2, .int s1.1), (3, .int s1.2)]) (fun b6 => []) (fun b6 => g) 34 ?_ ?_
    · intro b6
      refine go_iconst td_X3_suspects 20 rfl (q := 35) rfl kc_1 ?_
      refine go_goto td_X3_suspects 21 rfl (q := 39) rfl ?_
      refine go_pick [0, 1, 2, 3] (lv' := [(0, .ref (E.1 138)), (1, .int a1), (2, .int s1.1), (3, .int s1.2)]) rfl ?_
      exact kJ2 1
    intro J6 hJ6
    have kJ6 : Go (wCA E) _ _ g 34 [(0, .ref (E.1 138)), (1, .int a1), (2, .int s1.1), (3, .int s1.2)] [] (J6 ()) := hJ6 ()
    refine go_icmp_eq 34 td_X3_suspects 13 rfl rfl (q := 26) rfl (fun _ => ?_) (fun _ => ?_)
    · refine go_pick [0, 1, 2, 3] (lv' := [(0, .ref (E.1 138)), (1, .int a1), (2, .int s1.1), (3, .int s1.2)]) rfl ?_
      exact kJ6 
    · refine go_iload_n td_X3_suspects 14 rfl (q := 27) rfl 1 rfl ?_
      refine go_iload_n td_X3_suspects 15 rfl (q := 28) rfl 3 rfl ?_
      refine go_ishr td_X3_suspects 16 rfl (q := 29) rfl ?_
      refine go_iconst td_X3_suspects 17 rfl (q := 30) rfl kc_1 ?_
      refine go_iand td_X3_suspects 18 rfl (q := 31) rfl ?_
      refine go_if_eq 38 td_X3_suspects 19 rfl rfl (q := 34) rfl (fun _ => ?_) (fun _ => ?_)
      · refine go_iconst td_X3_suspects 22 rfl (q := 39) rfl kc_0 ?_
        refine go_pick [0, 1, 2, 3] (lv' := [(0, .ref (E.1 138)), (1, .int a1), (2, .int s1.1), (3, .int s1.2)]) rfl ?_
        exact kJ2 0
      · refine go_pick [0, 1, 2, 3] (lv' := [(0, .ref (E.1 138)), (1, .int a1), (2, .int s1.1), (3, .int s1.2)]) rfl ?_
        exact kJ6 
def fA_D_placeOfBit (a1 : Int32) (a2 : Int32) (g : G) : Option (Int32) := Lp (α := Int32 × Int32) (fun rec1 s1 => (if 31 ≤ s1.2 then some (-1) else (if s1.1 < 0 then some (-1) else lj (α := Int32) (fun b2 => rec1 (b2, s1.2 + 1)) fun J2 => (if ((a1 >>> (s1.2 &&& 31)) &&& 1) = 0 then J2 s1.1 else (if s1.1 = 0 then some s1.2 else J2 (s1.1 + m1)))))) FU (a2, 0)
set_option maxRecDepth 20000 in
set_option maxHeartbeats 4000000 in
theorem ok_fA_D_placeOfBit (E : Ev) (a1 : Int32) (a2 : Int32) (g : G)  : Ct (wCA E) yX11_placeOfBit mi_X11_placeOfBit [.int a1, .int a2] (fun r => (some (.int r), g)) g (fA_D_placeOfBit a1 a2 g) := by
  refine go_enter rfl rfl (Nat.le_of_ble_eq_true rfl) (lv := [(0, .int a1), (1, .int a2)]) rfl ?_
  unfold fA_D_placeOfBit
  refine go_iload_n td_X11_placeOfBit 0 rfl (q := 1) rfl 1 rfl ?_
  refine go_istore_n [(2, .int a2), (0, .int a1), (1, .int a2)] td_X11_placeOfBit 1 rfl (q := 2) rfl (Nat.le_of_ble_eq_true rfl) rfl ?_
  refine go_iconst td_X11_placeOfBit 2 rfl (q := 3) rfl kc_0 ?_
  refine go_istore_n [(3, .int 0), (2, .int a2), (0, .int a1), (1, .int a2)] td_X11_placeOfBit 3 rfl (q := 4) rfl (Nat.le_of_ble_eq_true rfl) rfl ?_
  refine go_pick [2, 1, 0] (lv' := [(0, .int a1), (2, .int a2), (3, .int 0)]) rfl ?_
  refine (show ∀ (u1_0 : Int32) (u1_1 : Int32), Go (wCA E) _ _ g 4 [(0, .int a1), (2, .int u1_0), (3, .int u1_1)] [] (Lp (α := Int32 × Int32) _ FU (u1_0, u1_1)) from ?_) a2 0
  intro u1_0 u1_1
  refine go_Lp (α := Int32 × Int32) (fun s1 => g) (fun s1 => [(0, .int a1), (2, .int s1.1), (3, .int s1.2)]) ?_ FU (u1_0, u1_1)
  intro rec1 hrec1 s1
  have krec1 : ∀ (u1_0 : Int32) (u1_1 : Int32), Go (wCA E) _ _ g 4 [(0, .int a1), (2, .int u1_0), (3, .int u1_1)] [] (rec1 (u1_0, u1_1)) := fun u1_0 u1_1 => hrec1 (u1_0, u1_1)
  refine go_iload_n td_X11_placeOfBit 4 rfl (q := 5) rfl 2 rfl ?_
  refine go_bipush td_X11_placeOfBit 5 rfl (q := 7) rfl kb_31 ?_
  refine go_icmp_ge 37 td_X11_placeOfBit 6 rfl rfl (q := 10) rfl (fun _ => ?_) (fun _ => ?_)
  · refine go_iconst td_X11_placeOfBit 22 rfl (q := 38) rfl kc_m1 ?_
    exact go_iret td_X11_placeOfBit 23 rfl rfl rfl
  · refine go_iload_n td_X11_placeOfBit 7 rfl (q := 11) rfl 1 rfl ?_
    refine go_if_lt 37 td_X11_placeOfBit 8 rfl rfl (q := 14) rfl (fun _ => ?_) (fun _ => ?_)
    · refine go_iconst td_X11_placeOfBit 22 rfl (q := 38) rfl kc_m1 ?_
      exact go_iret td_X11_placeOfBit 23 rfl rfl rfl
    · refine go_iload_n td_X11_placeOfBit 9 rfl (q := 15) rfl 0 rfl ?_
      refine go_iload_n td_X11_placeOfBit 10 rfl (q := 16) rfl 2 rfl ?_
      refine go_ishr td_X11_placeOfBit 11 rfl (q := 17) rfl ?_
      refine go_iconst td_X11_placeOfBit 12 rfl (q := 18) rfl kc_1 ?_
      refine go_iand td_X11_placeOfBit 13 rfl (q := 19) rfl ?_
      refine go_ljX (α := Int32) (fun b2 => [(0, .int a1), (2, .int b2), (3, .int s1.2)]) (fun b2 => []) (fun b2 => g) 31 ?_ ?_
      · intro b2
        refine go_iinc [(3, .int (s1.2 + 1)), (0, .int a1), (2, .int b2)] td_X11_placeOfBit 20 rfl (q := 34) rfl 2 rfl kc_1 (Nat.le_of_ble_eq_true rfl) rfl ?_
        refine go_goto td_X11_placeOfBit 21 rfl (q := 4) rfl ?_
        refine go_pick [1, 2, 0] (lv' := [(0, .int a1), (2, .int b2), (3, .int (s1.2 + 1))]) rfl ?_
        exact krec1 b2 (s1.2 + 1)
      intro J2 hJ2
      have kJ2 : ∀ (u2_0 : Int32), Go (wCA E) _ _ g 31 [(0, .int a1), (2, .int u2_0), (3, .int s1.2)] [] (J2 u2_0) := fun u2_0 => hJ2 u2_0
      refine go_if_eq 31 td_X11_placeOfBit 14 rfl rfl (q := 22) rfl (fun _ => ?_) (fun _ => ?_)
      · refine go_pick [0, 1, 2] (lv' := [(0, .int a1), (2, .int s1.1), (3, .int s1.2)]) rfl ?_
        exact kJ2 s1.1
      · refine go_iload_n td_X11_placeOfBit 15 rfl (q := 23) rfl 1 rfl ?_
        refine go_if_ne 28 td_X11_placeOfBit 16 rfl rfl (q := 26) rfl (fun _ => ?_) (fun _ => ?_)
        · refine go_iinc [(2, .int (s1.1 + m1)), (0, .int a1), (3, .int s1.2)] td_X11_placeOfBit 19 rfl (q := 31) rfl 1 rfl kcm_1 (Nat.le_of_ble_eq_true rfl) rfl ?_
          refine go_pick [1, 0, 2] (lv' := [(0, .int a1), (2, .int (s1.1 + m1)), (3, .int s1.2)]) rfl ?_
          exact kJ2 (s1.1 + m1)
        · refine go_iload_n td_X11_placeOfBit 17 rfl (q := 27) rfl 2 rfl ?_
          exact go_iret td_X11_placeOfBit 18 rfl rfl rfl
def fA_D_suspect (a1 : Int32) (g : G) : Option (Int32 × G) := Option.bind (fA_Plan_stands g) fun x1 => (if x1 = 0 then some ((-1), g) else Option.bind (fA_D_look g) fun x2 => Option.bind (fA_Notes_suspects (x2.1 2700) x2) fun x3 => (if a1 = (-1) then Option.bind (fA_Integer_bitCount x3 x2) fun x5 => some (x5, x2) else Option.bind (fA_D_placeOfBit x3 a1 x2) fun x4 => some (x4, x2)))
set_option maxRecDepth 20000 in
set_option maxHeartbeats 4000000 in
theorem ok_fA_D_suspect (E : Ev) (a1 : Int32) (g : G)  : Ct (wCA E) yX11_suspect mi_X11_suspect [.ref (E.1 0), .int a1] (fun r => (some (.int r.1), r.2)) g (fA_D_suspect a1 g) := by
  refine go_enter rfl rfl (Nat.le_of_ble_eq_true rfl) (lv := [(0, .ref (E.1 0)), (1, .int a1)]) rfl ?_
  unfold fA_D_suspect
  refine go_aload_n td_X11_suspect 0 rfl (q := 1) rfl 0 rfl ?_
  refine go_get td_X11_suspect 1 rfl (q := 4) rfl fl_X11_19 (Ac_0 E g) rfl ?_
  refine go_callV td_X11_suspect 2 rfl (q := 7) rfl (XkA E) lk_X11_334 (ok_fA_Plan_stands E g) ⟨rfl, rfl, Nat.le_of_ble_eq_true rfl, Nat.le_of_ble_eq_true rfl⟩ rfl rfl (Nat.le_of_ble_eq_true rfl) (Ac_3 E g) rfl (fun x1 => ?_)
  show Go (wCA E) _ _ g 7 _ [.int x1] _
  refine go_if_ne 12 td_X11_suspect 3 rfl rfl (q := 10) rfl (fun _ => ?_) (fun _ => ?_)
  · refine go_aload_n td_X11_suspect 6 rfl (q := 13) rfl 0 rfl ?_
    refine go_callV td_X11_suspect 7 rfl (q := 16) rfl (XkA E) lk_X11_247 (ok_fA_D_look E g) ⟨rfl, rfl, Nat.le_of_ble_eq_true rfl, Nat.le_of_ble_eq_true rfl⟩ rfl rfl (Nat.le_of_ble_eq_true rfl) (Ac_0 E g) rfl (fun x2 => ?_)
    show Go (wCA E) _ _ x2 16 _ [] _
    refine go_aload_n td_X11_suspect 8 rfl (q := 17) rfl 0 rfl ?_
    refine go_get td_X11_suspect 9 rfl (q := 20) rfl fl_X11_89 (Ac_0 E x2) rfl ?_
    refine go_aload_n td_X11_suspect 10 rfl (q := 21) rfl 0 rfl ?_
    refine go_get td_X11_suspect 11 rfl (q := 24) rfl fl_X11_29 (Ac_0 E x2) rfl ?_
    refine go_get td_X11_suspect 12 rfl (q := 27) rfl fl_X11_178 (Ac_27 E x2) rfl ?_
    refine go_callV td_X11_suspect 13 rfl (q := 30) rfl (XkA E) lk_X11_426 (ok_fA_Notes_suspects E (x2.1 2700) x2) ⟨rfl, rfl, Nat.le_of_ble_eq_true rfl, Nat.le_of_ble_eq_true rfl⟩ rfl rfl (Nat.le_of_ble_eq_true rfl) (Ac_138 E x2) rfl (fun x3 => ?_)
    show Go (wCA E) _ _ x2 30 _ [.int x3] _
    refine go_istore_n [(2, .int x3), (0, .ref (E.1 0)), (1, .int a1)] td_X11_suspect 14 rfl (q := 31) rfl (Nat.le_of_ble_eq_true rfl) rfl ?_
    refine go_iload_n td_X11_suspect 15 rfl (q := 32) rfl 2 rfl ?_
    refine go_iconst td_X11_suspect 16 rfl (q := 33) rfl kc_m1 ?_
    refine go_icmp_ne 43 td_X11_suspect 17 rfl rfl (q := 36) rfl (fun _ => ?_) (fun _ => ?_)
    · refine go_iload_n td_X11_suspect 21 rfl (q := 44) rfl 0 rfl ?_
      refine go_iload_n td_X11_suspect 22 rfl (q := 45) rfl 2 rfl ?_
      refine go_callS td_X11_suspect 23 rfl (q := 48) rfl (XkA E) lk_X11_429 (ok_fA_D_placeOfBit E x3 a1 x2) ⟨rfl, rfl, Nat.le_of_ble_eq_true rfl, Nat.le_of_ble_eq_true rfl⟩ rfl rfl (Nat.le_of_ble_eq_true rfl) (fun x4 => ?_)
      show Go (wCA E) _ _ x2 48 _ [.int x4] _
      exact go_iret td_X11_suspect 24 rfl rfl rfl
    · refine go_iload_n td_X11_suspect 18 rfl (q := 37) rfl 0 rfl ?_
      refine go_callS td_X11_suspect 19 rfl (q := 40) rfl (XkA E) lk_X11_181 (ok_fA_Integer_bitCount E x3 x2) ⟨rfl, rfl, Nat.le_of_ble_eq_true rfl, Nat.le_of_ble_eq_true rfl⟩ rfl rfl (Nat.le_of_ble_eq_true rfl) (fun x5 => ?_)
      show Go (wCA E) _ _ x2 40 _ [.int x5] _
      refine go_goto td_X11_suspect 20 rfl (q := 48) rfl ?_
      exact go_iret td_X11_suspect 24 rfl rfl rfl
  · refine go_iconst td_X11_suspect 4 rfl (q := 11) rfl kc_m1 ?_
    exact go_iret td_X11_suspect 5 rfl rfl rfl
def fA_Notes_mostAlike (a1 : Int32) (g : G) : Option (Int32) := Lp (α := Int32 × Int32) (fun rec1 s1 => (if a1 ≤ s1.2 then some s1.1 else Lp (α := Int32 × Int32) (fun rec2 s2 => (if a1 ≤ s2.2 then bv (if s1.1 < s2.1 then s2.1 else s1.1) fun x3 => rec1 (x3, s1.2 + 1) else ag 9 (g.2.1 143) s1.2 fun x4 => lj (α := Int32) (fun b5 => bv (s2.1 + b5) fun x6 => rec2 (x6, s2.2 + 1)) fun J5 => lj (α := Unit) (fun b7 => J5 0) fun J7 => (if x4 = (-1) then J7 () else ag 9 (g.2.1 143) s2.2 fun x8 => ag 9 (g.2.1 143) s1.2 fun x9 => (if x8 = x9 then J5 1 else J7 ())))) FU (0, 0))) FU (0, 0)
set_option maxRecDepth 20000 in
set_option maxHeartbeats 4000000 in
theorem ok_fA_Notes_mostAlike (E : Ev) (a1 : Int32) (g : G)  : Ct (wCA E) yX3_mostAlike mi_X3_mostAlike [.ref (E.1 138), .int a1] (fun r => (some (.int r), g)) g (fA_Notes_mostAlike a1 g) := by
  refine go_enter rfl rfl (Nat.le_of_ble_eq_true rfl) (lv := [(0, .ref (E.1 138)), (1, .int a1)]) rfl ?_
  unfold fA_Notes_mostAlike
  refine go_iconst td_X3_mostAlike 0 rfl (q := 1) rfl kc_0 ?_
  refine go_istore_n [(2, .int 0), (0, .ref (E.1 138)), (1, .int a1)] td_X3_mostAlike 1 rfl (q := 2) rfl (Nat.le_of_ble_eq_true rfl) rfl ?_
  refine go_iconst td_X3_mostAlike 2 rfl (q := 3) rfl kc_0 ?_
  refine go_istore_n [(3, .int 0), (2, .int 0), (0, .ref (E.1 138)), (1, .int a1)] td_X3_mostAlike 3 rfl (q := 4) rfl (Nat.le_of_ble_eq_true rfl) rfl ?_
  refine go_pick [2, 3, 1, 0] (lv' := [(0, .ref (E.1 138)), (1, .int a1), (2, .int 0), (3, .int 0)]) rfl ?_
  refine (show ∀ (u1_0 : Int32) (u1_1 : Int32), Go (wCA E) _ _ g 4 [(0, .ref (E.1 138)), (1, .int a1), (2, .int u1_0), (3, .int u1_1)] [] (Lp (α := Int32 × Int32) _ FU (u1_0, u1_1)) from ?_) 0 0
  intro u1_0 u1_1
  refine go_Lp (α := Int32 × Int32) (fun s1 => g) (fun s1 => [(0, .ref (E.1 138)), (1, .int a1), (2, .int s1.1), (3, .int s1.2)]) ?_ FU (u1_0, u1_1)
  intro rec1 hrec1 s1
  have krec1 : ∀ (u1_0 : Int32) (u1_1 : Int32), Go (wCA E) _ _ g 4 [(0, .ref (E.1 138)), (1, .int a1), (2, .int u1_0), (3, .int u1_1)] [] (rec1 (u1_0, u1_1)) := fun u1_0 u1_1 => hrec1 (u1_0, u1_1)
  refine go_iload_n td_X3_mostAlike 4 rfl (q := 5) rfl 3 rfl ?_
  refine go_iload_n td_X3_mostAlike 5 rfl (q := 6) rfl 1 rfl ?_
  refine go_icmp_ge 76 td_X3_mostAlike 6 rfl rfl (q := 9) rfl (fun _ => ?_) (fun _ => ?_)
  · refine go_iload_n td_X3_mostAlike 43 rfl (q := 77) rfl 2 rfl ?_
    exact go_iret td_X3_mostAlike 44 rfl rfl rfl
  · refine go_iconst td_X3_mostAlike 7 rfl (q := 10) rfl kc_0 ?_
    refine go_istore [(4, .int 0), (0, .ref (E.1 138)), (1, .int a1), (2, .int s1.1), (3, .int s1.2)] td_X3_mostAlike 8 rfl (q := 12) rfl (Nat.le_of_ble_eq_true rfl) rfl ?_
    refine go_iconst td_X3_mostAlike 9 rfl (q := 13) rfl kc_0 ?_
    refine go_istore [(5, .int 0), (4, .int 0), (0, .ref (E.1 138)), (1, .int a1), (2, .int s1.1), (3, .int s1.2)] td_X3_mostAlike 10 rfl (q := 15) rfl (Nat.le_of_ble_eq_true rfl) rfl ?_
    refine go_pick [2, 3, 4, 5, 1, 0] (lv' := [(0, .ref (E.1 138)), (1, .int a1), (2, .int s1.1), (3, .int s1.2), (4, .int 0), (5, .int 0)]) rfl ?_
    refine (show ∀ (u2_0 : Int32) (u2_1 : Int32), Go (wCA E) _ _ g 15 [(0, .ref (E.1 138)), (1, .int a1), (2, .int s1.1), (3, .int s1.2), (4, .int u2_0), (5, .int u2_1)] [] (Lp (α := Int32 × Int32) _ FU (u2_0, u2_1)) from ?_) 0 0
    intro u2_0 u2_1
    refine go_Lp (α := Int32 × Int32) (fun s2 => g) (fun s2 => [(0, .ref (E.1 138)), (1, .int a1), (2, .int s1.1), (3, .int s1.2), (4, .int s2.1), (5, .int s2.2)]) ?_ FU (u2_0, u2_1)
    intro rec2 hrec2 s2
    have krec2 : ∀ (u2_0 : Int32) (u2_1 : Int32), Go (wCA E) _ _ g 15 [(0, .ref (E.1 138)), (1, .int a1), (2, .int s1.1), (3, .int s1.2), (4, .int u2_0), (5, .int u2_1)] [] (rec2 (u2_0, u2_1)) := fun u2_0 u2_1 => hrec2 (u2_0, u2_1)
    refine go_iload td_X3_mostAlike 11 rfl (q := 17) rfl 5 rfl ?_
    refine go_iload_n td_X3_mostAlike 12 rfl (q := 18) rfl 1 rfl ?_
    refine go_icmp_ge 63 td_X3_mostAlike 13 rfl rfl (q := 21) rfl (fun _ => ?_) (fun _ => ?_)
    · refine go_iload_n td_X3_mostAlike 37 rfl (q := 64) rfl 2 rfl ?_
      refine go_iload td_X3_mostAlike 38 rfl (q := 66) rfl 4 rfl ?_
      refine go_mmax td_X3_mostAlike 39 rfl (q := 69) rfl lk_X3_88 ⟨Nat.le_of_ble_eq_true rfl, Nat.le_of_ble_eq_true rfl⟩ ?_
      refine go_bvi (fun x3 => ?_)
      refine go_istore_n [(2, .int x3), (0, .ref (E.1 138)), (1, .int a1), (3, .int s1.2), (4, .int s2.1), (5, .int s2.2)] td_X3_mostAlike 40 rfl (q := 70) rfl (Nat.le_of_ble_eq_true rfl) rfl ?_
      refine go_iinc [(3, .int (s1.2 + 1)), (2, .int x3), (0, .ref (E.1 138)), (1, .int a1), (4, .int s2.1), (5, .int s2.2)] td_X3_mostAlike 41 rfl (q := 73) rfl 3 rfl kc_1 (Nat.le_of_ble_eq_true rfl) rfl ?_
      refine go_goto td_X3_mostAlike 42 rfl (q := 4) rfl ?_
      refine go_pick [2, 3, 1, 0] (lv' := [(0, .ref (E.1 138)), (1, .int a1), (2, .int x3), (3, .int (s1.2 + 1))]) rfl ?_
      exact krec1 x3 (s1.2 + 1)
    · refine go_iload td_X3_mostAlike 14 rfl (q := 23) rfl 4 rfl ?_
      refine go_aload_n td_X3_mostAlike 15 rfl (q := 24) rfl 0 rfl ?_
      refine go_get td_X3_mostAlike 16 rfl (q := 27) rfl fl_X3_34 (Ac_138 E g) rfl ?_
      refine go_iload_n td_X3_mostAlike 17 rfl (q := 28) rfl 3 rfl ?_
      refine go_ald td_X3_mostAlike 18 rfl (q := 29) rfl (Ac_143 E g) (t0 := 0) rfl (fun x4 => ?_)
      refine go_iconst td_X3_mostAlike 19 rfl (q := 30) rfl kc_m1 ?_
      refine go_ljX (α := Int32) (fun b5 => [(0, .ref (E.1 138)), (1, .int a1), (2, .int s1.1), (3, .int s1.2), (5, .int s2.2)]) (fun b5 => [.int b5, .int s2.1]) (fun b5 => g) 54 ?_ ?_
      · intro b5
        refine go_iadd td_X3_mostAlike 33 rfl (q := 55) rfl ?_
        refine go_bvi (fun x6 => ?_)
        refine go_istore [(4, .int x6), (0, .ref (E.1 138)), (1, .int a1), (2, .int s1.1), (3, .int s1.2), (5, .int s2.2)] td_X3_mostAlike 34 rfl (q := 57) rfl (Nat.le_of_ble_eq_true rfl) rfl ?_
        refine go_iinc [(5, .int (s2.2 + 1)), (4, .int x6), (0, .ref (E.1 138)), (1, .int a1), (2, .int s1.1), (3, .int s1.2)] td_X3_mostAlike 35 rfl (q := 60) rfl 5 rfl kc_1 (Nat.le_of_ble_eq_true rfl) rfl ?_
        refine go_goto td_X3_mostAlike 36 rfl (q := 15) rfl ?_
        refine go_pick [2, 3, 4, 5, 1, 0] (lv' := [(0, .ref (E.1 138)), (1, .int a1), (2, .int s1.1), (3, .int s1.2), (4, .int x6), (5, .int (s2.2 + 1))]) rfl ?_
        exact krec2 x6 (s2.2 + 1)
      intro J5 hJ5
      have kJ5 : ∀ (u5_0 : Int32), Go (wCA E) _ _ g 54 [(0, .ref (E.1 138)), (1, .int a1), (2, .int s1.1), (3, .int s1.2), (5, .int s2.2)] [.int u5_0, .int s2.1] (J5 u5_0) := fun u5_0 => hJ5 u5_0
      refine go_ljX (α := Unit) (fun b7 => [(0, .ref (E.1 138)), (1, .int a1), (2, .int s1.1), (3, .int s1.2), (5, .int s2.2)]) (fun b7 => [.int s2.1]) (fun b7 => g) 53 ?_ ?_
      · intro b7
        refine go_iconst td_X3_mostAlike 32 rfl (q := 54) rfl kc_0 ?_
        refine go_pick [0, 1, 2, 3, 4] (lv' := [(0, .ref (E.1 138)), (1, .int a1), (2, .int s1.1), (3, .int s1.2), (5, .int s2.2)]) rfl ?_
        exact kJ5 0
      intro J7 hJ7
      have kJ7 : Go (wCA E) _ _ g 53 [(0, .ref (E.1 138)), (1, .int a1), (2, .int s1.1), (3, .int s1.2), (5, .int s2.2)] [.int s2.1] (J7 ()) := hJ7 ()
      refine go_icmp_eq 53 td_X3_mostAlike 20 rfl rfl (q := 33) rfl (fun _ => ?_) (fun _ => ?_)
      · refine go_pick [0, 1, 2, 3, 5] (lv' := [(0, .ref (E.1 138)), (1, .int a1), (2, .int s1.1), (3, .int s1.2), (5, .int s2.2)]) rfl ?_
        exact kJ7 
      · refine go_aload_n td_X3_mostAlike 21 rfl (q := 34) rfl 0 rfl ?_
        refine go_get td_X3_mostAlike 22 rfl (q := 37) rfl fl_X3_34 (Ac_138 E g) rfl ?_
        refine go_iload td_X3_mostAlike 23 rfl (q := 39) rfl 5 rfl ?_
        refine go_ald td_X3_mostAlike 24 rfl (q := 40) rfl (Ac_143 E g) (t0 := 0) rfl (fun x8 => ?_)
        refine go_aload_n td_X3_mostAlike 25 rfl (q := 41) rfl 0 rfl ?_
        refine go_get td_X3_mostAlike 26 rfl (q := 44) rfl fl_X3_34 (Ac_138 E g) rfl ?_
        refine go_iload_n td_X3_mostAlike 27 rfl (q := 45) rfl 3 rfl ?_
        refine go_ald td_X3_mostAlike 28 rfl (q := 46) rfl (Ac_143 E g) (t0 := 0) rfl (fun x9 => ?_)
        refine go_icmp_ne 53 td_X3_mostAlike 29 rfl rfl (q := 49) rfl (fun _ => ?_) (fun _ => ?_)
        · refine go_pick [0, 1, 2, 3, 5] (lv' := [(0, .ref (E.1 138)), (1, .int a1), (2, .int s1.1), (3, .int s1.2), (5, .int s2.2)]) rfl ?_
          exact kJ7 
        · refine go_iconst td_X3_mostAlike 30 rfl (q := 50) rfl kc_1 ?_
          refine go_goto td_X3_mostAlike 31 rfl (q := 54) rfl ?_
          refine go_pick [0, 1, 2, 3, 5] (lv' := [(0, .ref (E.1 138)), (1, .int a1), (2, .int s1.1), (3, .int s1.2), (5, .int s2.2)]) rfl ?_
          exact kJ5 1
def fA_Sky_countSeenBy (a1 : Int32) (a2 : Int32) (g : G) : Option (Int32) := Lp (α := Int32 × Int32) (fun rec1 s1 => (if (g.1 301) ≤ s1.2 then some s1.1 else Lp (α := Int32 × Int32) (fun rec2 s2 => (if (g.1 306) ≤ s2.2 then Option.bind (fA_Integer_bitCount s2.1 g) fun x3 => bv (s1.1 + x3) fun x4 => rec1 (x4, s1.2 + 1) else lj (α := Int32) (fun b5 => rec2 (b5, s2.2 + 1)) fun J5 => (if ((a1 >>> (s2.2 &&& 31)) &&& 1) = 0 then J5 s2.1 else ag 23040 (g.2.1 126) ((((s2.2 * 12) + s1.2) * 240) + a2) fun x6 => bv (s2.1 ||| x6) fun x7 => J5 x7))) FU (0, 0))) FU (0, 0)
set_option maxRecDepth 20000 in
set_option maxHeartbeats 4000000 in
theorem ok_fA_Sky_countSeenBy (E : Ev) (a1 : Int32) (a2 : Int32) (g : G)  : Ct (wCA E) yX6_countSeenBy mi_X6_countSeenBy [.ref (E.1 118), .int a1, .int a2] (fun r => (some (.int r), g)) g (fA_Sky_countSeenBy a1 a2 g) := by
  refine go_enter rfl rfl (Nat.le_of_ble_eq_true rfl) (lv := [(0, .ref (E.1 118)), (1, .int a1), (2, .int a2)]) rfl ?_
  unfold fA_Sky_countSeenBy
  refine go_iconst td_X6_countSeenBy 0 rfl (q := 1) rfl kc_0 ?_
  refine go_istore_n [(3, .int 0), (0, .ref (E.1 118)), (1, .int a1), (2, .int a2)] td_X6_countSeenBy 1 rfl (q := 2) rfl (Nat.le_of_ble_eq_true rfl) rfl ?_
  refine go_iconst td_X6_countSeenBy 2 rfl (q := 3) rfl kc_0 ?_
  refine go_istore [(4, .int 0), (3, .int 0), (0, .ref (E.1 118)), (1, .int a1), (2, .int a2)] td_X6_countSeenBy 3 rfl (q := 5) rfl (Nat.le_of_ble_eq_true rfl) rfl ?_
  refine go_pick [2, 3, 4, 1, 0] (lv' := [(0, .ref (E.1 118)), (1, .int a1), (2, .int a2), (3, .int 0), (4, .int 0)]) rfl ?_
  refine (show ∀ (u1_0 : Int32) (u1_1 : Int32), Go (wCA E) _ _ g 5 [(0, .ref (E.1 118)), (1, .int a1), (2, .int a2), (3, .int u1_0), (4, .int u1_1)] [] (Lp (α := Int32 × Int32) _ FU (u1_0, u1_1)) from ?_) 0 0
  intro u1_0 u1_1
  refine go_Lp (α := Int32 × Int32) (fun s1 => g) (fun s1 => [(0, .ref (E.1 118)), (1, .int a1), (2, .int a2), (3, .int s1.1), (4, .int s1.2)]) ?_ FU (u1_0, u1_1)
  intro rec1 hrec1 s1
  have krec1 : ∀ (u1_0 : Int32) (u1_1 : Int32), Go (wCA E) _ _ g 5 [(0, .ref (E.1 118)), (1, .int a1), (2, .int a2), (3, .int u1_0), (4, .int u1_1)] [] (rec1 (u1_0, u1_1)) := fun u1_0 u1_1 => hrec1 (u1_0, u1_1)
  refine go_iload td_X6_countSeenBy 4 rfl (q := 7) rfl 4 rfl ?_
  refine go_aload_n td_X6_countSeenBy 5 rfl (q := 8) rfl 0 rfl ?_
  refine go_get td_X6_countSeenBy 6 rfl (q := 11) rfl fl_X6_53 (Ac_118 E g) rfl ?_
  refine go_get td_X6_countSeenBy 7 rfl (q := 14) rfl fl_X6_62 (Ac_3 E g) rfl ?_
  refine go_icmp_ge 88 td_X6_countSeenBy 8 rfl rfl (q := 17) rfl (fun _ => ?_) (fun _ => ?_)
  · refine go_iload_n td_X6_countSeenBy 48 rfl (q := 89) rfl 3 rfl ?_
    exact go_iret td_X6_countSeenBy 49 rfl rfl rfl
  · refine go_iconst td_X6_countSeenBy 9 rfl (q := 18) rfl kc_0 ?_
    refine go_istore [(5, .int 0), (0, .ref (E.1 118)), (1, .int a1), (2, .int a2), (3, .int s1.1), (4, .int s1.2)] td_X6_countSeenBy 10 rfl (q := 20) rfl (Nat.le_of_ble_eq_true rfl) rfl ?_
    refine go_iconst td_X6_countSeenBy 11 rfl (q := 21) rfl kc_0 ?_
    refine go_istore [(6, .int 0), (5, .int 0), (0, .ref (E.1 118)), (1, .int a1), (2, .int a2), (3, .int s1.1), (4, .int s1.2)] td_X6_countSeenBy 12 rfl (q := 23) rfl (Nat.le_of_ble_eq_true rfl) rfl ?_
    refine go_pick [2, 3, 4, 5, 6, 1, 0] (lv' := [(0, .ref (E.1 118)), (1, .int a1), (2, .int a2), (3, .int s1.1), (4, .int s1.2), (5, .int 0), (6, .int 0)]) rfl ?_
    refine (show ∀ (u2_0 : Int32) (u2_1 : Int32), Go (wCA E) _ _ g 23 [(0, .ref (E.1 118)), (1, .int a1), (2, .int a2), (3, .int s1.1), (4, .int s1.2), (5, .int u2_0), (6, .int u2_1)] [] (Lp (α := Int32 × Int32) _ FU (u2_0, u2_1)) from ?_) 0 0
    intro u2_0 u2_1
    refine go_Lp (α := Int32 × Int32) (fun s2 => g) (fun s2 => [(0, .ref (E.1 118)), (1, .int a1), (2, .int a2), (3, .int s1.1), (4, .int s1.2), (5, .int s2.1), (6, .int s2.2)]) ?_ FU (u2_0, u2_1)
    intro rec2 hrec2 s2
    have krec2 : ∀ (u2_0 : Int32) (u2_1 : Int32), Go (wCA E) _ _ g 23 [(0, .ref (E.1 118)), (1, .int a1), (2, .int a2), (3, .int s1.1), (4, .int s1.2), (5, .int u2_0), (6, .int u2_1)] [] (rec2 (u2_0, u2_1)) := fun u2_0 u2_1 => hrec2 (u2_0, u2_1)
    refine go_iload td_X6_countSeenBy 13 rfl (q := 25) rfl 6 rfl ?_
    refine go_aload_n td_X6_countSeenBy 14 rfl (q := 26) rfl 0 rfl ?_
    refine go_get td_X6_countSeenBy 15 rfl (q := 29) rfl fl_X6_53 (Ac_118 E g) rfl ?_
    refine go_get td_X6_countSeenBy 16 rfl (q := 32) rfl fl_X6_81 (Ac_3 E g) rfl ?_
    refine go_icmp_ge 74 td_X6_countSeenBy 17 rfl rfl (q := 35) rfl (fun _ => ?_) (fun _ => ?_)
    · refine go_iload_n td_X6_countSeenBy 41 rfl (q := 75) rfl 3 rfl ?_
      refine go_iload td_X6_countSeenBy 42 rfl (q := 77) rfl 5 rfl ?_
      refine go_callS td_X6_countSeenBy 43 rfl (q := 80) rfl (XkA E) lk_X6_156 (ok_fA_Integer_bitCount E s2.1 g) ⟨rfl, rfl, Nat.le_of_ble_eq_true rfl, Nat.le_of_ble_eq_true rfl⟩ rfl rfl (Nat.le_of_ble_eq_true rfl) (fun x3 => ?_)
      show Go (wCA E) _ _ g 80 _ [.int x3, .int s1.1] _
      refine go_iadd td_X6_countSeenBy 44 rfl (q := 81) rfl ?_
      refine go_bvi (fun x4 => ?_)
      refine go_istore_n [(3, .int x4), (0, .ref (E.1 118)), (1, .int a1), (2, .int a2), (4, .int s1.2), (5, .int s2.1), (6, .int s2.2)] td_X6_countSeenBy 45 rfl (q := 82) rfl (Nat.le_of_ble_eq_true rfl) rfl ?_
      refine go_iinc [(4, .int (s1.2 + 1)), (3, .int x4), (0, .ref (E.1 118)), (1, .int a1), (2, .int a2), (5, .int s2.1), (6, .int s2.2)] td_X6_countSeenBy 46 rfl (q := 85) rfl 4 rfl kc_1 (Nat.le_of_ble_eq_true rfl) rfl ?_
      refine go_goto td_X6_countSeenBy 47 rfl (q := 5) rfl ?_
      refine go_pick [2, 3, 4, 1, 0] (lv' := [(0, .ref (E.1 118)), (1, .int a1), (2, .int a2), (3, .int x4), (4, .int (s1.2 + 1))]) rfl ?_
      exact krec1 x4 (s1.2 + 1)
    · refine go_iload_n td_X6_countSeenBy 18 rfl (q := 36) rfl 1 rfl ?_
      refine go_iload td_X6_countSeenBy 19 rfl (q := 38) rfl 6 rfl ?_
      refine go_ishr td_X6_countSeenBy 20 rfl (q := 39) rfl ?_
      refine go_iconst td_X6_countSeenBy 21 rfl (q := 40) rfl kc_1 ?_
      refine go_iand td_X6_countSeenBy 22 rfl (q := 41) rfl ?_
      refine go_ljX (α := Int32) (fun b5 => [(0, .ref (E.1 118)), (1, .int a1), (2, .int a2), (3, .int s1.1), (4, .int s1.2), (5, .int b5), (6, .int s2.2)]) (fun b5 => []) (fun b5 => g) 68 ?_ ?_
      · intro b5
        refine go_iinc [(6, .int (s2.2 + 1)), (0, .ref (E.1 118)), (1, .int a1), (2, .int a2), (3, .int s1.1), (4, .int s1.2), (5, .int b5)] td_X6_countSeenBy 39 rfl (q := 71) rfl 6 rfl kc_1 (Nat.le_of_ble_eq_true rfl) rfl ?_
        refine go_goto td_X6_countSeenBy 40 rfl (q := 23) rfl ?_
        refine go_pick [1, 2, 3, 4, 5, 6, 0] (lv' := [(0, .ref (E.1 118)), (1, .int a1), (2, .int a2), (3, .int s1.1), (4, .int s1.2), (5, .int b5), (6, .int (s2.2 + 1))]) rfl ?_
        exact krec2 b5 (s2.2 + 1)
      intro J5 hJ5
      have kJ5 : ∀ (u5_0 : Int32), Go (wCA E) _ _ g 68 [(0, .ref (E.1 118)), (1, .int a1), (2, .int a2), (3, .int s1.1), (4, .int s1.2), (5, .int u5_0), (6, .int s2.2)] [] (J5 u5_0) := fun u5_0 => hJ5 u5_0
      refine go_if_eq 68 td_X6_countSeenBy 23 rfl rfl (q := 44) rfl (fun _ => ?_) (fun _ => ?_)
      · refine go_pick [0, 1, 2, 3, 4, 5, 6] (lv' := [(0, .ref (E.1 118)), (1, .int a1), (2, .int a2), (3, .int s1.1), (4, .int s1.2), (5, .int s2.1), (6, .int s2.2)]) rfl ?_
        exact kJ5 s2.1
      · refine go_iload td_X6_countSeenBy 24 rfl (q := 46) rfl 5 rfl ?_
        refine go_aload_n td_X6_countSeenBy 25 rfl (q := 47) rfl 0 rfl ?_
        refine go_get td_X6_countSeenBy 26 rfl (q := 50) rfl fl_X6_41 (Ac_118 E g) rfl ?_
        refine go_iload td_X6_countSeenBy 27 rfl (q := 52) rfl 6 rfl ?_
        refine go_bipush td_X6_countSeenBy 28 rfl (q := 54) rfl kb_12 ?_
        refine go_imul td_X6_countSeenBy 29 rfl (q := 55) rfl ?_
        refine go_iload td_X6_countSeenBy 30 rfl (q := 57) rfl 4 rfl ?_
        refine go_iadd td_X6_countSeenBy 31 rfl (q := 58) rfl ?_
        refine go_sipush td_X6_countSeenBy 32 rfl (q := 61) rfl ks_240 ?_
        refine go_imul td_X6_countSeenBy 33 rfl (q := 62) rfl ?_
        refine go_iload_n td_X6_countSeenBy 34 rfl (q := 63) rfl 2 rfl ?_
        refine go_iadd td_X6_countSeenBy 35 rfl (q := 64) rfl ?_
        refine go_ald td_X6_countSeenBy 36 rfl (q := 65) rfl (Ac_126 E g) (t0 := 0) rfl (fun x6 => ?_)
        refine go_ior td_X6_countSeenBy 37 rfl (q := 66) rfl ?_
        refine go_bvi (fun x7 => ?_)
        refine go_istore [(5, .int x7), (0, .ref (E.1 118)), (1, .int a1), (2, .int a2), (3, .int s1.1), (4, .int s1.2), (6, .int s2.2)] td_X6_countSeenBy 38 rfl (q := 68) rfl (Nat.le_of_ble_eq_true rfl) rfl ?_
        refine go_pick [1, 2, 3, 4, 5, 0, 6] (lv' := [(0, .ref (E.1 118)), (1, .int a1), (2, .int a2), (3, .int s1.1), (4, .int s1.2), (5, .int x7), (6, .int s2.2)]) rfl ?_
        exact kJ5 x7
def fA_Notes_findTelling (a1 : Int32) (a2 : Int32) (g : G) : Option (G) := bv (sS g 13802 10) fun g1 => Lp (α := Int32 × G) (fun rec2 s2 => (if (s2.2.1 303) ≤ s2.1 then some s2.2 else Lp (α := Int32 × G) (fun rec3 s3 => (if (s3.2.1 306) < s3.1 then Option.bind (fA_Notes_mostAlike ((s3.2.1 306) + 1) s3.2) fun x4 => lj (α := G) (fun b5 => rec2 (s2.1 + 1, b5)) fun J5 => (if (s3.2.1 13802) ≤ x4 then J5 s3.2 else bv (sS s3.2 13802 x4) fun g6 => bv (sS g6 13801 s2.1) fun g7 => J5 g7) else lj (α := Int32) (fun b8 => lj (α := Int32) (fun b9 => ck 9 s3.1 (bv (sA s3.2 143 (s3.1 : Int32).toNatClampNeg b9) fun g10 => rec3 (s3.1 + 1, g10))) fun J9 => (if b8 = 0 then J9 (-1) else Option.bind (fA_Sky_countSeenBy (a1 &&& (((1 : Int32) <<< (s3.1 &&& 31)) ^^^ (-1))) s2.1 s3.2) fun x11 => J9 x11)) fun J8 => (if ((a2 >>> (s3.1 &&& 31)) &&& 1) = 0 then J8 0 else J8 1))) FU (0, s2.2))) FU (0, g1)
set_option maxRecDepth 20000 in
set_option maxHeartbeats 4000000 in
theorem ok_fA_Notes_findTelling (E : Ev) (a1 : Int32) (a2 : Int32) (g : G)  : Ct (wCA E) yX3_findTelling mi_X3_findTelling [.ref (E.1 138), .int a1, .int a2] (fun r => (none, r)) g (fA_Notes_findTelling a1 a2 g) := by
  refine go_enter rfl rfl (Nat.le_of_ble_eq_true rfl) (lv := [(0, .ref (E.1 138)), (1, .int a1), (2, .int a2)]) rfl ?_
  unfold fA_Notes_findTelling
  refine go_aload_n td_X3_findTelling 0 rfl (q := 1) rfl 0 rfl ?_
  refine go_bipush td_X3_findTelling 1 rfl (q := 3) rfl kb_10 ?_
  refine go_put td_X3_findTelling 2 rfl (q := 6) rfl flp_X3_18 (Ac_138 E g) rfl rfl (Nat.le_of_ble_eq_true rfl) (Aps_13802 E g 10) ?_
  refine go_bvg (fun g1 => ?_)
  refine go_iconst td_X3_findTelling 3 rfl (q := 7) rfl kc_0 ?_
  refine go_istore_n [(3, .int 0), (0, .ref (E.1 138)), (1, .int a1), (2, .int a2)] td_X3_findTelling 4 rfl (q := 8) rfl (Nat.le_of_ble_eq_true rfl) rfl ?_
  refine go_pick [1, 2, 3, 0] (lv' := [(0, .ref (E.1 138)), (1, .int a1), (2, .int a2), (3, .int 0)]) rfl ?_
  refine (show ∀ (u2_0 : Int32) (u2_1 : G), Go (wCA E) _ _ u2_1 8 [(0, .ref (E.1 138)), (1, .int a1), (2, .int a2), (3, .int u2_0)] [] (Lp (α := Int32 × G) _ FU (u2_0, u2_1)) from ?_) 0 g1
  intro u2_0 u2_1
  refine go_Lp (α := Int32 × G) (fun s2 => s2.2) (fun s2 => [(0, .ref (E.1 138)), (1, .int a1), (2, .int a2), (3, .int s2.1)]) ?_ FU (u2_0, u2_1)
  intro rec2 hrec2 s2
  have krec2 : ∀ (u2_0 : Int32) (u2_1 : G), Go (wCA E) _ _ u2_1 8 [(0, .ref (E.1 138)), (1, .int a1), (2, .int a2), (3, .int u2_0)] [] (rec2 (u2_0, u2_1)) := fun u2_0 u2_1 => hrec2 (u2_0, u2_1)
  refine go_iload_n td_X3_findTelling 5 rfl (q := 9) rfl 3 rfl ?_
  refine go_aload_n td_X3_findTelling 6 rfl (q := 10) rfl 0 rfl ?_
  refine go_get td_X3_findTelling 7 rfl (q := 13) rfl fl_X3_37 (Ac_138 E s2.2) rfl ?_
  refine go_get td_X3_findTelling 8 rfl (q := 16) rfl fl_X3_65 (Ac_3 E s2.2) rfl ?_
  refine go_icmp_ge 129 td_X3_findTelling 9 rfl rfl (q := 19) rfl (fun _ => ?_) (fun _ => ?_)
  · exact go_vret td_X3_findTelling 68 rfl rfl rfl
  · refine go_iconst td_X3_findTelling 10 rfl (q := 20) rfl kc_0 ?_
    refine go_istore [(4, .int 0), (0, .ref (E.1 138)), (1, .int a1), (2, .int a2), (3, .int s2.1)] td_X3_findTelling 11 rfl (q := 22) rfl (Nat.le_of_ble_eq_true rfl) rfl ?_
    refine go_pick [1, 2, 3, 4, 0] (lv' := [(0, .ref (E.1 138)), (1, .int a1), (2, .int a2), (3, .int s2.1), (4, .int 0)]) rfl ?_
    refine (show ∀ (u3_0 : Int32) (u3_1 : G), Go (wCA E) _ _ u3_1 22 [(0, .ref (E.1 138)), (1, .int a1), (2, .int a2), (3, .int s2.1), (4, .int u3_0)] [] (Lp (α := Int32 × G) _ FU (u3_0, u3_1)) from ?_) 0 s2.2
    intro u3_0 u3_1
    refine go_Lp (α := Int32 × G) (fun s3 => s3.2) (fun s3 => [(0, .ref (E.1 138)), (1, .int a1), (2, .int a2), (3, .int s2.1), (4, .int s3.1)]) ?_ FU (u3_0, u3_1)
    intro rec3 hrec3 s3
    have krec3 : ∀ (u3_0 : Int32) (u3_1 : G), Go (wCA E) _ _ u3_1 22 [(0, .ref (E.1 138)), (1, .int a1), (2, .int a2), (3, .int s2.1), (4, .int u3_0)] [] (rec3 (u3_0, u3_1)) := fun u3_0 u3_1 => hrec3 (u3_0, u3_1)
    refine go_iload td_X3_findTelling 12 rfl (q := 24) rfl 4 rfl ?_
    refine go_aload_n td_X3_findTelling 13 rfl (q := 25) rfl 0 rfl ?_
    refine go_get td_X3_findTelling 14 rfl (q := 28) rfl fl_X3_37 (Ac_138 E s3.2) rfl ?_
    refine go_get td_X3_findTelling 15 rfl (q := 31) rfl fl_X3_68 (Ac_3 E s3.2) rfl ?_
    refine go_icmp_gt 88 td_X3_findTelling 16 rfl rfl (q := 34) rfl (fun _ => ?_) (fun _ => ?_)
    · refine go_aload_n td_X3_findTelling 48 rfl (q := 89) rfl 0 rfl ?_
      refine go_aload_n td_X3_findTelling 49 rfl (q := 90) rfl 0 rfl ?_
      refine go_get td_X3_findTelling 50 rfl (q := 93) rfl fl_X3_37 (Ac_138 E s3.2) rfl ?_
      refine go_get td_X3_findTelling 51 rfl (q := 96) rfl fl_X3_68 (Ac_3 E s3.2) rfl ?_
      refine go_iconst td_X3_findTelling 52 rfl (q := 97) rfl kc_1 ?_
      refine go_iadd td_X3_findTelling 53 rfl (q := 98) rfl ?_
      refine go_callV td_X3_findTelling 54 rfl (q := 101) rfl (XkA E) lk_X3_85 (ok_fA_Notes_mostAlike E ((s3.2.1 306) + 1) s3.2) ⟨rfl, rfl, Nat.le_of_ble_eq_true rfl, Nat.le_of_ble_eq_true rfl⟩ rfl rfl (Nat.le_of_ble_eq_true rfl) (Ac_138 E s3.2) rfl (fun x4 => ?_)
      show Go (wCA E) _ _ s3.2 101 _ [.int x4] _
      refine go_istore [(4, .int x4), (0, .ref (E.1 138)), (1, .int a1), (2, .int a2), (3, .int s2.1)] td_X3_findTelling 55 rfl (q := 103) rfl (Nat.le_of_ble_eq_true rfl) rfl ?_
      refine go_iload td_X3_findTelling 56 rfl (q := 105) rfl 0 rfl ?_
      refine go_aload_n td_X3_findTelling 57 rfl (q := 106) rfl 1 rfl ?_
      refine go_get td_X3_findTelling 58 rfl (q := 109) rfl fl_X3_18 (Ac_138 E s3.2) rfl ?_
      refine go_ljX (α := G) (fun b5 => [(0, .ref (E.1 138)), (1, .int a1), (2, .int a2), (3, .int s2.1)]) (fun b5 => []) (fun b5 => b5) 123 ?_ ?_
      · intro b5
        refine go_iinc [(3, .int (s2.1 + 1)), (0, .ref (E.1 138)), (1, .int a1), (2, .int a2)] td_X3_findTelling 66 rfl (q := 126) rfl 3 rfl kc_1 (Nat.le_of_ble_eq_true rfl) rfl ?_
        refine go_goto td_X3_findTelling 67 rfl (q := 8) rfl ?_
        refine go_pick [1, 2, 3, 0] (lv' := [(0, .ref (E.1 138)), (1, .int a1), (2, .int a2), (3, .int (s2.1 + 1))]) rfl ?_
        exact krec2 (s2.1 + 1) b5
      intro J5 hJ5
      have kJ5 : ∀ (u5_0 : G), Go (wCA E) _ _ u5_0 123 [(0, .ref (E.1 138)), (1, .int a1), (2, .int a2), (3, .int s2.1)] [] (J5 u5_0) := fun u5_0 => hJ5 u5_0
      refine go_icmp_ge 123 td_X3_findTelling 59 rfl rfl (q := 112) rfl (fun _ => ?_) (fun _ => ?_)
      · refine go_pick [1, 2, 3, 4] (lv' := [(0, .ref (E.1 138)), (1, .int a1), (2, .int a2), (3, .int s2.1)]) rfl ?_
        exact kJ5 s3.2
      · refine go_aload_n td_X3_findTelling 60 rfl (q := 113) rfl 1 rfl ?_
        refine go_iload td_X3_findTelling 61 rfl (q := 115) rfl 0 rfl ?_
        refine go_put td_X3_findTelling 62 rfl (q := 118) rfl flp_X3_18 (Ac_138 E s3.2) rfl rfl (Nat.le_of_ble_eq_true rfl) (Aps_13802 E s3.2 x4) ?_
        refine go_bvg (fun g6 => ?_)
        refine go_aload_n td_X3_findTelling 63 rfl (q := 119) rfl 1 rfl ?_
        refine go_iload_n td_X3_findTelling 64 rfl (q := 120) rfl 4 rfl ?_
        refine go_put td_X3_findTelling 65 rfl (q := 123) rfl flp_X3_15 (Ac_138 E g6) rfl rfl (Nat.le_of_ble_eq_true rfl) (Aps_13801 E g6 s2.1) ?_
        refine go_bvg (fun g7 => ?_)
        refine go_pick [1, 2, 3, 4] (lv' := [(0, .ref (E.1 138)), (1, .int a1), (2, .int a2), (3, .int s2.1)]) rfl ?_
        exact kJ5 g7
    · refine go_iload_n td_X3_findTelling 17 rfl (q := 35) rfl 2 rfl ?_
      refine go_iload td_X3_findTelling 18 rfl (q := 37) rfl 4 rfl ?_
      refine go_ishr td_X3_findTelling 19 rfl (q := 38) rfl ?_
      refine go_iconst td_X3_findTelling 20 rfl (q := 39) rfl kc_1 ?_
      refine go_iand td_X3_findTelling 21 rfl (q := 40) rfl ?_
      refine go_ljX (α := Int32) (fun b8 => [(0, .ref (E.1 138)), (1, .int a1), (2, .int a2), (3, .int s2.1), (4, .int s3.1)]) (fun b8 => [.int b8]) (fun b8 => s3.2) 48 ?_ ?_
      · intro b8
        refine go_istore [(5, .int b8), (0, .ref (E.1 138)), (1, .int a1), (2, .int a2), (3, .int s2.1), (4, .int s3.1)] td_X3_findTelling 26 rfl (q := 50) rfl (Nat.le_of_ble_eq_true rfl) rfl ?_
        refine go_aload_n td_X3_findTelling 27 rfl (q := 51) rfl 1 rfl ?_
        refine go_get td_X3_findTelling 28 rfl (q := 54) rfl fl_X3_34 (Ac_138 E s3.2) rfl ?_
        refine go_iload td_X3_findTelling 29 rfl (q := 56) rfl 5 rfl ?_
        refine go_iload td_X3_findTelling 30 rfl (q := 58) rfl 0 rfl ?_
        refine go_ljX (α := Int32) (fun b9 => [(0, .ref (E.1 138)), (1, .int a1), (2, .int a2), (3, .int s2.1), (4, .int s3.1)]) (fun b9 => [.int b9, .int s3.1, .ref (E.1 143)]) (fun b9 => s3.2) 81 ?_ ?_
        · intro b9
          refine go_ast td_X3_findTelling 45 rfl (q := 82) rfl (Ac_143 E s3.2) (t0 := 0) rfl (Aas_143 E s3.2 _) ?_
          refine go_bvg (fun g10 => ?_)
          refine go_iinc [(4, .int (s3.1 + 1)), (0, .ref (E.1 138)), (1, .int a1), (2, .int a2), (3, .int s2.1)] td_X3_findTelling 46 rfl (q := 85) rfl 4 rfl kc_1 (Nat.le_of_ble_eq_true rfl) rfl ?_
          refine go_goto td_X3_findTelling 47 rfl (q := 22) rfl ?_
          refine go_pick [1, 2, 3, 4, 0] (lv' := [(0, .ref (E.1 138)), (1, .int a1), (2, .int a2), (3, .int s2.1), (4, .int (s3.1 + 1))]) rfl ?_
          exact krec3 (s3.1 + 1) g10
        intro J9 hJ9
        have kJ9 : ∀ (u9_0 : Int32), Go (wCA E) _ _ s3.2 81 [(0, .ref (E.1 138)), (1, .int a1), (2, .int a2), (3, .int s2.1), (4, .int s3.1)] [.int u9_0, .int s3.1, .ref (E.1 143)] (J9 u9_0) := fun u9_0 => hJ9 u9_0
        refine go_if_eq 80 td_X3_findTelling 31 rfl rfl (q := 61) rfl (fun _ => ?_) (fun _ => ?_)
        · refine go_iconst td_X3_findTelling 44 rfl (q := 81) rfl kc_m1 ?_
          refine go_pick [1, 2, 3, 4, 5] (lv' := [(0, .ref (E.1 138)), (1, .int a1), (2, .int a2), (3, .int s2.1), (4, .int s3.1)]) rfl ?_
          exact kJ9 (-1)
        · refine go_aload_n td_X3_findTelling 32 rfl (q := 62) rfl 1 rfl ?_
          refine go_get td_X3_findTelling 33 rfl (q := 65) rfl fl_X3_41 (Ac_138 E s3.2) rfl ?_
          refine go_iload_n td_X3_findTelling 34 rfl (q := 66) rfl 2 rfl ?_
          refine go_iconst td_X3_findTelling 35 rfl (q := 67) rfl kc_1 ?_
          refine go_iload td_X3_findTelling 36 rfl (q := 69) rfl 5 rfl ?_
          refine go_ishl td_X3_findTelling 37 rfl (q := 70) rfl ?_
          refine go_iconst td_X3_findTelling 38 rfl (q := 71) rfl kc_m1 ?_
          refine go_ixor td_X3_findTelling 39 rfl (q := 72) rfl ?_
          refine go_iand td_X3_findTelling 40 rfl (q := 73) rfl ?_
          refine go_iload_n td_X3_findTelling 41 rfl (q := 74) rfl 4 rfl ?_
          refine go_callV td_X3_findTelling 42 rfl (q := 77) rfl (XkA E) lk_X3_81 (ok_fA_Sky_countSeenBy E (a1 &&& (((1 : Int32) <<< (s3.1 &&& 31)) ^^^ (-1))) s2.1 s3.2) ⟨rfl, rfl, Nat.le_of_ble_eq_true rfl, Nat.le_of_ble_eq_true rfl⟩ rfl rfl (Nat.le_of_ble_eq_true rfl) (Ac_118 E s3.2) rfl (fun x11 => ?_)
          show Go (wCA E) _ _ s3.2 77 _ [.int x11, .int s3.1, .ref (E.1 143)] _
          refine go_goto td_X3_findTelling 43 rfl (q := 81) rfl ?_
          refine go_pick [1, 2, 3, 4, 5] (lv' := [(0, .ref (E.1 138)), (1, .int a1), (2, .int a2), (3, .int s2.1), (4, .int s3.1)]) rfl ?_
          exact kJ9 x11
      intro J8 hJ8
      have kJ8 : ∀ (u8_0 : Int32), Go (wCA E) _ _ s3.2 48 [(0, .ref (E.1 138)), (1, .int a1), (2, .int a2), (3, .int s2.1), (4, .int s3.1)] [.int u8_0] (J8 u8_0) := fun u8_0 => hJ8 u8_0
      refine go_if_eq 47 td_X3_findTelling 22 rfl rfl (q := 43) rfl (fun _ => ?_) (fun _ => ?_)
      · refine go_iconst td_X3_findTelling 25 rfl (q := 48) rfl kc_0 ?_
        refine go_pick [0, 1, 2, 3, 4] (lv' := [(0, .ref (E.1 138)), (1, .int a1), (2, .int a2), (3, .int s2.1), (4, .int s3.1)]) rfl ?_
        exact kJ8 0
      · refine go_iconst td_X3_findTelling 23 rfl (q := 44) rfl kc_1 ?_
        refine go_goto td_X3_findTelling 24 rfl (q := 48) rfl ?_
        refine go_pick [0, 1, 2, 3, 4] (lv' := [(0, .ref (E.1 138)), (1, .int a1), (2, .int a2), (3, .int s2.1), (4, .int s3.1)]) rfl ?_
        exact kJ8 1
def fA_D_tells (a1 : Int32) (g : G) : Option (Int32 × G) := Option.bind (fA_Plan_stands g) fun x1 => (if x1 = 0 then some ((-1), g) else (if a1 < 0 then some ((-1), g) else (if a1 ≤ 1 then Option.bind (fA_D_look g) fun x2 => Option.bind (fA_Notes_suspects (x2.1 2700) x2) fun x3 => (if x3 = 0 then some ((-1), x2) else Option.bind (fA_Notes_findTelling (x2.1 2700) x3 x2) fun x4 => (if a1 = 0 then some (x4.1 13801, x4) else some (x4.1 13802, x4))) else some ((-1), g))))
set_option maxRecDepth 20000 in
set_option maxHeartbeats 4000000 in
theorem ok_fA_D_tells (E : Ev) (a1 : Int32) (g : G)  : Ct (wCA E) yX11_tells mi_X11_tells [.ref (E.1 0), .int a1] (fun r => (some (.int r.1), r.2)) g (fA_D_tells a1 g) := by
  refine go_enter rfl rfl (Nat.le_of_ble_eq_true rfl) (lv := [(0, .ref (E.1 0)), (1, .int a1)]) rfl ?_
  unfold fA_D_tells
  refine go_aload_n td_X11_tells 0 rfl (q := 1) rfl 0 rfl ?_
  refine go_get td_X11_tells 1 rfl (q := 4) rfl fl_X11_19 (Ac_0 E g) rfl ?_
  refine go_callV td_X11_tells 2 rfl (q := 7) rfl (XkA E) lk_X11_334 (ok_fA_Plan_stands E g) ⟨rfl, rfl, Nat.le_of_ble_eq_true rfl, Nat.le_of_ble_eq_true rfl⟩ rfl rfl (Nat.le_of_ble_eq_true rfl) (Ac_3 E g) rfl (fun x1 => ?_)
  show Go (wCA E) _ _ g 7 _ [.int x1] _
  refine go_if_eq 19 td_X11_tells 3 rfl rfl (q := 10) rfl (fun _ => ?_) (fun _ => ?_)
  · refine go_iconst td_X11_tells 9 rfl (q := 20) rfl kc_m1 ?_
    exact go_iret td_X11_tells 10 rfl rfl rfl
  · refine go_iload_n td_X11_tells 4 rfl (q := 11) rfl 1 rfl ?_
    refine go_if_lt 19 td_X11_tells 5 rfl rfl (q := 14) rfl (fun _ => ?_) (fun _ => ?_)
    · refine go_iconst td_X11_tells 9 rfl (q := 20) rfl kc_m1 ?_
      exact go_iret td_X11_tells 10 rfl rfl rfl
    · refine go_iload_n td_X11_tells 6 rfl (q := 15) rfl 1 rfl ?_
      refine go_iconst td_X11_tells 7 rfl (q := 16) rfl kc_1 ?_
      refine go_icmp_le 21 td_X11_tells 8 rfl rfl (q := 19) rfl (fun _ => ?_) (fun _ => ?_)
      · refine go_aload_n td_X11_tells 11 rfl (q := 22) rfl 0 rfl ?_
        refine go_callV td_X11_tells 12 rfl (q := 25) rfl (XkA E) lk_X11_247 (ok_fA_D_look E g) ⟨rfl, rfl, Nat.le_of_ble_eq_true rfl, Nat.le_of_ble_eq_true rfl⟩ rfl rfl (Nat.le_of_ble_eq_true rfl) (Ac_0 E g) rfl (fun x2 => ?_)
        show Go (wCA E) _ _ x2 25 _ [] _
        refine go_aload_n td_X11_tells 13 rfl (q := 26) rfl 0 rfl ?_
        refine go_get td_X11_tells 14 rfl (q := 29) rfl fl_X11_89 (Ac_0 E x2) rfl ?_
        refine go_aload_n td_X11_tells 15 rfl (q := 30) rfl 0 rfl ?_
        refine go_get td_X11_tells 16 rfl (q := 33) rfl fl_X11_29 (Ac_0 E x2) rfl ?_
        refine go_get td_X11_tells 17 rfl (q := 36) rfl fl_X11_178 (Ac_27 E x2) rfl ?_
        refine go_callV td_X11_tells 18 rfl (q := 39) rfl (XkA E) lk_X11_426 (ok_fA_Notes_suspects E (x2.1 2700) x2) ⟨rfl, rfl, Nat.le_of_ble_eq_true rfl, Nat.le_of_ble_eq_true rfl⟩ rfl rfl (Nat.le_of_ble_eq_true rfl) (Ac_138 E x2) rfl (fun x3 => ?_)
        show Go (wCA E) _ _ x2 39 _ [.int x3] _
        refine go_istore_n [(2, .int x3), (0, .ref (E.1 0)), (1, .int a1)] td_X11_tells 19 rfl (q := 40) rfl (Nat.le_of_ble_eq_true rfl) rfl ?_
        refine go_iload_n td_X11_tells 20 rfl (q := 41) rfl 0 rfl ?_
        refine go_if_ne 46 td_X11_tells 21 rfl rfl (q := 44) rfl (fun _ => ?_) (fun _ => ?_)
        · refine go_aload_n td_X11_tells 24 rfl (q := 47) rfl 1 rfl ?_
          refine go_get td_X11_tells 25 rfl (q := 50) rfl fl_X11_89 (Ac_0 E x2) rfl ?_
          refine go_aload_n td_X11_tells 26 rfl (q := 51) rfl 1 rfl ?_
          refine go_get td_X11_tells 27 rfl (q := 54) rfl fl_X11_29 (Ac_0 E x2) rfl ?_
          refine go_get td_X11_tells 28 rfl (q := 57) rfl fl_X11_178 (Ac_27 E x2) rfl ?_
          refine go_iload_n td_X11_tells 29 rfl (q := 58) rfl 0 rfl ?_
          refine go_callV td_X11_tells 30 rfl (q := 61) rfl (XkA E) lk_X11_432 (ok_fA_Notes_findTelling E (x2.1 2700) x3 x2) ⟨rfl, rfl, Nat.le_of_ble_eq_true rfl, Nat.le_of_ble_eq_true rfl⟩ rfl rfl (Nat.le_of_ble_eq_true rfl) (Ac_138 E x2) rfl (fun x4 => ?_)
          show Go (wCA E) _ _ x4 61 _ [] _
          refine go_iload_n td_X11_tells 31 rfl (q := 62) rfl 2 rfl ?_
          refine go_if_ne 75 td_X11_tells 32 rfl rfl (q := 65) rfl (fun _ => ?_) (fun _ => ?_)
          · refine go_aload_n td_X11_tells 37 rfl (q := 76) rfl 1 rfl ?_
            refine go_get td_X11_tells 38 rfl (q := 79) rfl fl_X11_89 (Ac_0 E x4) rfl ?_
            refine go_get td_X11_tells 39 rfl (q := 82) rfl fl_X11_438 (Ac_138 E x4) rfl ?_
            exact go_iret td_X11_tells 40 rfl rfl rfl
          · refine go_aload_n td_X11_tells 33 rfl (q := 66) rfl 1 rfl ?_
            refine go_get td_X11_tells 34 rfl (q := 69) rfl fl_X11_89 (Ac_0 E x4) rfl ?_
            refine go_get td_X11_tells 35 rfl (q := 72) rfl fl_X11_435 (Ac_138 E x4) rfl ?_
            refine go_goto td_X11_tells 36 rfl (q := 82) rfl ?_
            exact go_iret td_X11_tells 40 rfl rfl rfl
        · refine go_iconst td_X11_tells 22 rfl (q := 45) rfl kc_m1 ?_
          exact go_iret td_X11_tells 23 rfl rfl rfl
      · refine go_iconst td_X11_tells 9 rfl (q := 20) rfl kc_m1 ?_
        exact go_iret td_X11_tells 10 rfl rfl rfl
def fA_Fleet_take_3 (a1 : Nat) (g : G) : Option (G) := bv (sS g (100 * (38 + 4 * a1)) (g.1 2700)) fun g1 => cp 4 4 0 0 4 (bv (sC g1 (38 + 4 * a1 + 1) (va_cpy (g1.2.1 28) (g1.2.1 (38 + 4 * a1 + 1)) (0 : Int32).toNatClampNeg (0 : Int32).toNatClampNeg (4 : Int32).toNatClampNeg)) fun g2 => cp 8 8 0 0 8 (bv (sC g2 (38 + 4 * a1 + 2) (va_cpy (g2.2.1 29) (g2.2.1 (38 + 4 * a1 + 2)) (0 : Int32).toNatClampNeg (0 : Int32).toNatClampNeg (8 : Int32).toNatClampNeg)) fun g3 => cp 8 8 0 0 8 (bv (sC g3 (38 + 4 * a1 + 3) (va_cpy (g3.2.1 30) (g3.2.1 (38 + 4 * a1 + 3)) (0 : Int32).toNatClampNeg (0 : Int32).toNatClampNeg (8 : Int32).toNatClampNeg)) fun g4 => some g4)))
set_option maxRecDepth 20000 in
set_option maxHeartbeats 4000000 in
theorem ok_fA_Fleet_take_3 (E : Ev) (a1 : Nat) (g : G) (ha1 : a1 < 20) : Ct (wCA E) yX1_take mi_X1_take [.ref (E.1 (38 + 4 * a1)), .ref (E.1 27)] (fun r => (none, r)) g (fA_Fleet_take_3 a1 g) := by
  refine go_enter rfl rfl (Nat.le_of_ble_eq_true rfl) (lv := [(0, .ref (E.1 (38 + 4 * a1))), (1, .ref (E.1 27))]) rfl ?_
  unfold fA_Fleet_take_3
  refine go_aload_n td_X1_take 0 rfl (q := 1) rfl 0 rfl ?_
  refine go_aload_n td_X1_take 1 rfl (q := 2) rfl 1 rfl ?_
  refine go_get td_X1_take 2 rfl (q := 5) rfl fl_X1_9 (Ac_27 E g) rfl ?_
  refine go_put td_X1_take 3 rfl (q := 8) rfl flp_X1_9 (Ack_0 E g a1 ha1) rfl rfl (Nat.le_of_ble_eq_true rfl) (Apsk E g (g.1 2700) a1 ha1) ?_
  refine go_bvg (fun g1 => ?_)
  refine go_aload_n td_X1_take 4 rfl (q := 9) rfl 1 rfl ?_
  refine go_get td_X1_take 5 rfl (q := 12) rfl fl_X1_15 (Ac_27 E g1) rfl ?_
  refine go_iconst td_X1_take 6 rfl (q := 13) rfl kc_0 ?_
  refine go_aload_n td_X1_take 7 rfl (q := 14) rfl 0 rfl ?_
  refine go_get td_X1_take 8 rfl (q := 17) rfl fl_X1_15 (Ack_0 E g1 a1 ha1) rfl ?_
  refine go_iconst td_X1_take 9 rfl (q := 18) rfl kc_0 ?_
  refine go_iconst td_X1_take 10 rfl (q := 19) rfl kc_4 ?_
  refine go_copy td_X1_take 11 rfl (q := 22) rfl lk_X1_25 ⟨Nat.le_of_ble_eq_true rfl, Nat.le_of_ble_eq_true rfl⟩ (Ac_28 E g1) (Ack_1 E g1 a1 ha1) (t0 := 0) (t1 := 0) rfl rfl (Aask_1 E g1 _ a1 ha1) ?_
  refine go_bvg (fun g2 => ?_)
  refine go_aload_n td_X1_take 12 rfl (q := 23) rfl 1 rfl ?_
  refine go_get td_X1_take 13 rfl (q := 26) rfl fl_X1_19 (Ac_27 E g2) rfl ?_
  refine go_iconst td_X1_take 14 rfl (q := 27) rfl kc_0 ?_
  refine go_aload_n td_X1_take 15 rfl (q := 28) rfl 0 rfl ?_
  refine go_get td_X1_take 16 rfl (q := 31) rfl fl_X1_19 (Ack_0 E g2 a1 ha1) rfl ?_
  refine go_iconst td_X1_take 17 rfl (q := 32) rfl kc_0 ?_
  refine go_bipush td_X1_take 18 rfl (q := 34) rfl kb_8 ?_
  refine go_copy td_X1_take 19 rfl (q := 37) rfl lk_X1_25 ⟨Nat.le_of_ble_eq_true rfl, Nat.le_of_ble_eq_true rfl⟩ (Ac_29 E g2) (Ack_2 E g2 a1 ha1) (t0 := 0) (t1 := 0) rfl rfl (Aask_2 E g2 _ a1 ha1) ?_
  refine go_bvg (fun g3 => ?_)
  refine go_aload_n td_X1_take 20 rfl (q := 38) rfl 1 rfl ?_
  refine go_get td_X1_take 21 rfl (q := 41) rfl fl_X1_22 (Ac_27 E g3) rfl ?_
  refine go_iconst td_X1_take 22 rfl (q := 42) rfl kc_0 ?_
  refine go_aload_n td_X1_take 23 rfl (q := 43) rfl 0 rfl ?_
  refine go_get td_X1_take 24 rfl (q := 46) rfl fl_X1_22 (Ack_0 E g3 a1 ha1) rfl ?_
  refine go_iconst td_X1_take 25 rfl (q := 47) rfl kc_0 ?_
  refine go_bipush td_X1_take 26 rfl (q := 49) rfl kb_8 ?_
  refine go_copy td_X1_take 27 rfl (q := 52) rfl lk_X1_25 ⟨Nat.le_of_ble_eq_true rfl, Nat.le_of_ble_eq_true rfl⟩ (Ac_30 E g3) (Ack_3 E g3 a1 ha1) (t0 := 0) (t1 := 0) rfl rfl (Aask_3 E g3 _ a1 ha1) ?_
  refine go_bvg (fun g4 => ?_)
  exact go_vret td_X1_take 28 rfl rfl rfl
def fA_History_keep (g : G) : Option (G) := kg 20 (g.1 3601) fun i1 => Option.bind (fA_Fleet_take_3 i1 g) fun x2 => dz 20 (bv (sS x2 3601 (((x2.1 3601) + 1) - ((x2.1 3601) + 1) / 20 * 20)) fun g3 => bv (if 20 < ((g3.1 3600) + 1) then 20 else ((g3.1 3600) + 1)) fun x4 => bv (sS g3 3600 x4) fun g5 => some g5)
set_option maxRecDepth 20000 in
set_option maxHeartbeats 4000000 in
theorem ok_fA_History_keep (E : Ev)  (g : G)  : Ct (wCA E) yX2_keep mi_X2_keep [.ref (E.1 36), .ref (E.1 27)] (fun r => (none, r)) g (fA_History_keep g) := by
  refine go_enter rfl rfl (Nat.le_of_ble_eq_true rfl) (lv := [(0, .ref (E.1 36)), (1, .ref (E.1 27))]) rfl ?_
  unfold fA_History_keep
  refine go_aload_n td_X2_keep 0 rfl (q := 1) rfl 0 rfl ?_
  refine go_get td_X2_keep 1 rfl (q := 4) rfl fl_X2_20 (Ac_36 E g) rfl ?_
  refine go_aload_n td_X2_keep 2 rfl (q := 5) rfl 0 rfl ?_
  refine go_get td_X2_keep 3 rfl (q := 8) rfl fl_X2_15 (Ac_36 E g) rfl ?_
  refine go_aald td_X2_keep 4 rfl (q := 9) rfl (Ac_37 E g) (t0 := 2) rfl (fun i1 hi1 => ?_)
  refine go_aload_n td_X2_keep 5 rfl (q := 10) rfl 1 rfl ?_
  refine go_callV td_X2_keep 6 rfl (q := 13) rfl (XkA E) lk_X2_25 (ok_fA_Fleet_take_3 E i1 g hi1) ⟨rfl, rfl, Nat.le_of_ble_eq_true rfl, Nat.le_of_ble_eq_true rfl⟩ rfl rfl (Nat.le_of_ble_eq_true rfl) (Ack_0 E g i1 hi1) rfl (fun x2 => ?_)
  show Go (wCA E) _ _ x2 13 _ [] _
  refine go_aload_n td_X2_keep 7 rfl (q := 14) rfl 0 rfl ?_
  refine go_aload_n td_X2_keep 8 rfl (q := 15) rfl 0 rfl ?_
  refine go_get td_X2_keep 9 rfl (q := 18) rfl fl_X2_15 (Ac_36 E x2) rfl ?_
  refine go_iconst td_X2_keep 10 rfl (q := 19) rfl kc_1 ?_
  refine go_iadd td_X2_keep 11 rfl (q := 20) rfl ?_
  refine go_bipush td_X2_keep 12 rfl (q := 22) rfl kb_20 ?_
  refine go_irem td_X2_keep 13 rfl (q := 23) rfl ?_
  refine go_put td_X2_keep 14 rfl (q := 26) rfl flp_X2_15 (Ac_36 E x2) rfl rfl (Nat.le_of_ble_eq_true rfl) (Aps_3601 E x2 (((x2.1 3601) + 1) - ((x2.1 3601) + 1) / 20 * 20)) ?_
  refine go_bvg (fun g3 => ?_)
  refine go_aload_n td_X2_keep 15 rfl (q := 27) rfl 0 rfl ?_
  refine go_aload_n td_X2_keep 16 rfl (q := 28) rfl 0 rfl ?_
  refine go_get td_X2_keep 17 rfl (q := 31) rfl fl_X2_9 (Ac_36 E g3) rfl ?_
  refine go_iconst td_X2_keep 18 rfl (q := 32) rfl kc_1 ?_
  refine go_iadd td_X2_keep 19 rfl (q := 33) rfl ?_
  refine go_bipush td_X2_keep 20 rfl (q := 35) rfl kb_20 ?_
  refine go_mmin td_X2_keep 21 rfl (q := 38) rfl lk_X2_29 ⟨Nat.le_of_ble_eq_true rfl, Nat.le_of_ble_eq_true rfl⟩ ?_
  refine go_bvi (fun x4 => ?_)
  refine go_put td_X2_keep 22 rfl (q := 41) rfl flp_X2_9 (Ac_36 E g3) rfl rfl (Nat.le_of_ble_eq_true rfl) (Aps_3600 E g3 x4) ?_
  refine go_bvg (fun g5 => ?_)
  exact go_vret td_X2_keep 23 rfl rfl rfl
def fA_D_beginAct (g : G) : Option (G) := Option.bind (fA_History_keep g) fun x1 => bv (sS x1 18 0) fun g2 => some g2
set_option maxRecDepth 20000 in
set_option maxHeartbeats 4000000 in
theorem ok_fA_D_beginAct (E : Ev)  (g : G)  : Ct (wCA E) yX11_beginAct mi_X11_beginAct [.ref (E.1 0)] (fun r => (none, r)) g (fA_D_beginAct g) := by
  refine go_enter rfl rfl (Nat.le_of_ble_eq_true rfl) (lv := [(0, .ref (E.1 0))]) rfl ?_
  unfold fA_D_beginAct
  refine go_aload_n td_X11_beginAct 0 rfl (q := 1) rfl 0 rfl ?_
  refine go_get td_X11_beginAct 1 rfl (q := 4) rfl fl_X11_48 (Ac_0 E g) rfl ?_
  refine go_aload_n td_X11_beginAct 2 rfl (q := 5) rfl 0 rfl ?_
  refine go_get td_X11_beginAct 3 rfl (q := 8) rfl fl_X11_29 (Ac_0 E g) rfl ?_
  refine go_callV td_X11_beginAct 4 rfl (q := 11) rfl (XkA E) lk_X11_480 (ok_fA_History_keep E g) ⟨rfl, rfl, Nat.le_of_ble_eq_true rfl, Nat.le_of_ble_eq_true rfl⟩ rfl rfl (Nat.le_of_ble_eq_true rfl) (Ac_36 E g) rfl (fun x1 => ?_)
  show Go (wCA E) _ _ x1 11 _ [] _
  refine go_aload_n td_X11_beginAct 5 rfl (q := 12) rfl 0 rfl ?_
  refine go_iconst td_X11_beginAct 6 rfl (q := 13) rfl kc_0 ?_
  refine go_put td_X11_beginAct 7 rfl (q := 16) rfl flp_X11_114 (Ac_0 E x1) rfl rfl (Nat.le_of_ble_eq_true rfl) (Aps_18 E x1 0) ?_
  refine go_bvg (fun g2 => ?_)
  exact go_vret td_X11_beginAct 8 rfl rfl rfl
def fA_Fleet_turnOver_2 (a1 : Int32) (g : G) : Option (G) := bv (sS g 2700 ((g.1 2700) ^^^ ((1 : Int32) <<< (a1 &&& 31)))) fun g1 => some g1
set_option maxRecDepth 20000 in
set_option maxHeartbeats 4000000 in
theorem ok_fA_Fleet_turnOver_2 (E : Ev) (a1 : Int32) (g : G)  : Ct (wCA E) yX1_turnOver mi_X1_turnOver [.ref (E.1 27), .int a1] (fun r => (none, r)) g (fA_Fleet_turnOver_2 a1 g) := by
  refine go_enter rfl rfl (Nat.le_of_ble_eq_true rfl) (lv := [(0, .ref (E.1 27)), (1, .int a1)]) rfl ?_
  unfold fA_Fleet_turnOver_2
  refine go_aload_n td_X1_turnOver 0 rfl (q := 1) rfl 0 rfl ?_
  refine go_dup td_X1_turnOver 1 rfl (q := 2) rfl rfl ?_
  refine go_get td_X1_turnOver 2 rfl (q := 5) rfl fl_X1_9 (Ac_27 E g) rfl ?_
  refine go_iconst td_X1_turnOver 3 rfl (q := 6) rfl kc_1 ?_
  refine go_iload_n td_X1_turnOver 4 rfl (q := 7) rfl 1 rfl ?_
  refine go_ishl td_X1_turnOver 5 rfl (q := 8) rfl ?_
  refine go_ixor td_X1_turnOver 6 rfl (q := 9) rfl ?_
  refine go_put td_X1_turnOver 7 rfl (q := 12) rfl flp_X1_9 (Ac_27 E g) rfl rfl (Nat.le_of_ble_eq_true rfl) (Aps_2700 E g ((g.1 2700) ^^^ ((1 : Int32) <<< (a1 &&& 31)))) ?_
  refine go_bvg (fun g1 => ?_)
  exact go_vret td_X1_turnOver 8 rfl rfl rfl
def fA_D_lose (a1 : Int32) (g : G) : Option (Int32 × G) := Option.bind (fA_Plan_hasCraft a1 g) fun x1 => lj (α := Unit) (fun b2 => Option.bind (fA_D_refused 2 g) fun x3 => bt x3.1 (some (x3.1, x3.2))) fun J2 => (if x1 = 0 then J2 () else Option.bind (fA_Fleet_isUp a1 g) fun x4 => (if x4 = 0 then J2 () else Option.bind (fA_D_beginAct g) fun x5 => Option.bind (fA_Fleet_turnOver_2 a1 x5) fun x6 => some (1, x6)))
set_option maxRecDepth 20000 in
set_option maxHeartbeats 4000000 in
theorem ok_fA_D_lose (E : Ev) (a1 : Int32) (g : G)  : Ct (wCA E) yX11_lose mi_X11_lose [.ref (E.1 0), .int a1] (fun r => (some (.int r.1), r.2)) g (fA_D_lose a1 g) := by
  refine go_enter rfl rfl (Nat.le_of_ble_eq_true rfl) (lv := [(0, .ref (E.1 0)), (1, .int a1)]) rfl ?_
  unfold fA_D_lose
  refine go_aload_n td_X11_lose 0 rfl (q := 1) rfl 0 rfl ?_
  refine go_get td_X11_lose 1 rfl (q := 4) rfl fl_X11_19 (Ac_0 E g) rfl ?_
  refine go_iload_n td_X11_lose 2 rfl (q := 5) rfl 1 rfl ?_
  refine go_callV td_X11_lose 3 rfl (q := 8) rfl (XkA E) lk_X11_211 (ok_fA_Plan_hasCraft E a1 g) ⟨rfl, rfl, Nat.le_of_ble_eq_true rfl, Nat.le_of_ble_eq_true rfl⟩ rfl rfl (Nat.le_of_ble_eq_true rfl) (Ac_3 E g) rfl (fun x1 => ?_)
  show Go (wCA E) _ _ g 8 _ [.int x1] _
  refine go_ljX (α := Unit) (fun b2 => [(0, .ref (E.1 0))]) (fun b2 => []) (fun b2 => g) 22 ?_ ?_
  · intro b2
    refine go_aload_n td_X11_lose 10 rfl (q := 23) rfl 0 rfl ?_
    refine go_iconst td_X11_lose 11 rfl (q := 24) rfl kc_2 ?_
    refine go_callV td_X11_lose 12 rfl (q := 27) rfl (XkA E) lk_X11_130 (ok_fA_D_refused E 2 g) ⟨rfl, rfl, Nat.le_of_ble_eq_true rfl, Nat.le_of_ble_eq_true rfl⟩ rfl rfl (Nat.le_of_ble_eq_true rfl) (Ac_0 E g) rfl (fun x3 => ?_)
    show Go (wCA E) _ _ x3.2 27 _ [.int x3.1] _
    exact go_zretb td_X11_lose 13 rfl rfl rfl
  intro J2 hJ2
  have kJ2 : Go (wCA E) _ _ g 22 [(0, .ref (E.1 0))] [] (J2 ()) := hJ2 ()
  refine go_if_eq 22 td_X11_lose 4 rfl rfl (q := 11) rfl (fun _ => ?_) (fun _ => ?_)
  · refine go_pick [0] (lv' := [(0, .ref (E.1 0))]) rfl ?_
    exact kJ2 
  · refine go_aload_n td_X11_lose 5 rfl (q := 12) rfl 0 rfl ?_
    refine go_get td_X11_lose 6 rfl (q := 15) rfl fl_X11_29 (Ac_0 E g) rfl ?_
    refine go_iload_n td_X11_lose 7 rfl (q := 16) rfl 1 rfl ?_
    refine go_callV td_X11_lose 8 rfl (q := 19) rfl (XkA E) lk_X11_244 (ok_fA_Fleet_isUp E a1 g) ⟨rfl, rfl, Nat.le_of_ble_eq_true rfl, Nat.le_of_ble_eq_true rfl⟩ rfl rfl (Nat.le_of_ble_eq_true rfl) (Ac_27 E g) rfl (fun x4 => ?_)
    show Go (wCA E) _ _ g 19 _ [.int x4] _
    refine go_if_ne 28 td_X11_lose 9 rfl rfl (q := 22) rfl (fun _ => ?_) (fun _ => ?_)
    · refine go_aload_n td_X11_lose 14 rfl (q := 29) rfl 0 rfl ?_
      refine go_callV td_X11_lose 15 rfl (q := 32) rfl (XkA E) lk_X11_441 (ok_fA_D_beginAct E g) ⟨rfl, rfl, Nat.le_of_ble_eq_true rfl, Nat.le_of_ble_eq_true rfl⟩ rfl rfl (Nat.le_of_ble_eq_true rfl) (Ac_0 E g) rfl (fun x5 => ?_)
      show Go (wCA E) _ _ x5 32 _ [] _
      refine go_aload_n td_X11_lose 16 rfl (q := 33) rfl 0 rfl ?_
      refine go_get td_X11_lose 17 rfl (q := 36) rfl fl_X11_29 (Ac_0 E x5) rfl ?_
      refine go_iload_n td_X11_lose 18 rfl (q := 37) rfl 1 rfl ?_
      refine go_callV td_X11_lose 19 rfl (q := 40) rfl (XkA E) lk_X11_444 (ok_fA_Fleet_turnOver_2 E a1 x5) ⟨rfl, rfl, Nat.le_of_ble_eq_true rfl, Nat.le_of_ble_eq_true rfl⟩ rfl rfl (Nat.le_of_ble_eq_true rfl) (Ac_27 E x5) rfl (fun x6 => ?_)
      show Go (wCA E) _ _ x6 40 _ [] _
      refine go_iconst td_X11_lose 20 rfl (q := 41) rfl kc_1 ?_
      exact go_zret td_X11_lose 21 rfl rfl rfl rfl
    · refine go_pick [0] (lv' := [(0, .ref (E.1 0))]) rfl ?_
      exact kJ2 
def fA_D_find (a1 : Int32) (g : G) : Option (Int32 × G) := Option.bind (fA_Plan_hasCraft a1 g) fun x1 => lj (α := Unit) (fun b2 => Option.bind (fA_D_refused 2 g) fun x3 => bt x3.1 (some (x3.1, x3.2))) fun J2 => (if x1 = 0 then J2 () else Option.bind (fA_Fleet_isUp a1 g) fun x4 => (if x4 = 0 then Option.bind (fA_D_beginAct g) fun x5 => Option.bind (fA_Fleet_turnOver_2 a1 x5) fun x6 => some (1, x6) else J2 ()))
set_option maxRecDepth 20000 in
set_option maxHeartbeats 4000000 in
theorem ok_fA_D_find (E : Ev) (a1 : Int32) (g : G)  : Ct (wCA E) yX11_find mi_X11_find [.ref (E.1 0), .int a1] (fun r => (some (.int r.1), r.2)) g (fA_D_find a1 g) := by
  refine go_enter rfl rfl (Nat.le_of_ble_eq_true rfl) (lv := [(0, .ref (E.1 0)), (1, .int a1)]) rfl ?_
  unfold fA_D_find
  refine go_aload_n td_X11_find 0 rfl (q := 1) rfl 0 rfl ?_
  refine go_get td_X11_find 1 rfl (q := 4) rfl fl_X11_19 (Ac_0 E g) rfl ?_
  refine go_iload_n td_X11_find 2 rfl (q := 5) rfl 1 rfl ?_
  refine go_callV td_X11_find 3 rfl (q := 8) rfl (XkA E) lk_X11_211 (ok_fA_Plan_hasCraft E a1 g) ⟨rfl, rfl, Nat.le_of_ble_eq_true rfl, Nat.le_of_ble_eq_true rfl⟩ rfl rfl (Nat.le_of_ble_eq_true rfl) (Ac_3 E g) rfl (fun x1 => ?_)
  show Go (wCA E) _ _ g 8 _ [.int x1] _
  refine go_ljX (α := Unit) (fun b2 => [(0, .ref (E.1 0))]) (fun b2 => []) (fun b2 => g) 22 ?_ ?_
  · intro b2
    refine go_aload_n td_X11_find 10 rfl (q := 23) rfl 0 rfl ?_
    refine go_iconst td_X11_find 11 rfl (q := 24) rfl kc_2 ?_
    refine go_callV td_X11_find 12 rfl (q := 27) rfl (XkA E) lk_X11_130 (ok_fA_D_refused E 2 g) ⟨rfl, rfl, Nat.le_of_ble_eq_true rfl, Nat.le_of_ble_eq_true rfl⟩ rfl rfl (Nat.le_of_ble_eq_true rfl) (Ac_0 E g) rfl (fun x3 => ?_)
    show Go (wCA E) _ _ x3.2 27 _ [.int x3.1] _
    exact go_zretb td_X11_find 13 rfl rfl rfl
  intro J2 hJ2
  have kJ2 : Go (wCA E) _ _ g 22 [(0, .ref (E.1 0))] [] (J2 ()) := hJ2 ()
  refine go_if_eq 22 td_X11_find 4 rfl rfl (q := 11) rfl (fun _ => ?_) (fun _ => ?_)
  · refine go_pick [0] (lv' := [(0, .ref (E.1 0))]) rfl ?_
    exact kJ2 
  · refine go_aload_n td_X11_find 5 rfl (q := 12) rfl 0 rfl ?_
    refine go_get td_X11_find 6 rfl (q := 15) rfl fl_X11_29 (Ac_0 E g) rfl ?_
    refine go_iload_n td_X11_find 7 rfl (q := 16) rfl 1 rfl ?_
    refine go_callV td_X11_find 8 rfl (q := 19) rfl (XkA E) lk_X11_244 (ok_fA_Fleet_isUp E a1 g) ⟨rfl, rfl, Nat.le_of_ble_eq_true rfl, Nat.le_of_ble_eq_true rfl⟩ rfl rfl (Nat.le_of_ble_eq_true rfl) (Ac_27 E g) rfl (fun x4 => ?_)
    show Go (wCA E) _ _ g 19 _ [.int x4] _
    refine go_if_eq 28 td_X11_find 9 rfl rfl (q := 22) rfl (fun _ => ?_) (fun _ => ?_)
    · refine go_aload_n td_X11_find 14 rfl (q := 29) rfl 0 rfl ?_
      refine go_callV td_X11_find 15 rfl (q := 32) rfl (XkA E) lk_X11_441 (ok_fA_D_beginAct E g) ⟨rfl, rfl, Nat.le_of_ble_eq_true rfl, Nat.le_of_ble_eq_true rfl⟩ rfl rfl (Nat.le_of_ble_eq_true rfl) (Ac_0 E g) rfl (fun x5 => ?_)
      show Go (wCA E) _ _ x5 32 _ [] _
      refine go_aload_n td_X11_find 16 rfl (q := 33) rfl 0 rfl ?_
      refine go_get td_X11_find 17 rfl (q := 36) rfl fl_X11_29 (Ac_0 E x5) rfl ?_
      refine go_iload_n td_X11_find 18 rfl (q := 37) rfl 1 rfl ?_
      refine go_callV td_X11_find 19 rfl (q := 40) rfl (XkA E) lk_X11_444 (ok_fA_Fleet_turnOver_2 E a1 x5) ⟨rfl, rfl, Nat.le_of_ble_eq_true rfl, Nat.le_of_ble_eq_true rfl⟩ rfl rfl (Nat.le_of_ble_eq_true rfl) (Ac_27 E x5) rfl (fun x6 => ?_)
      show Go (wCA E) _ _ x6 40 _ [] _
      refine go_iconst td_X11_find 20 rfl (q := 41) rfl kc_1 ?_
      exact go_zret td_X11_find 21 rfl rfl rfl rfl
    · refine go_pick [0] (lv' := [(0, .ref (E.1 0))]) rfl ?_
      exact kJ2 
def fA_D_phase (a1 : Int32) (a2 : Int32) (g : G) : Option (Int32 × G) := Option.bind (fA_Plan_hasCraft a1 g) fun x1 => lj (α := Unit) (fun b2 => Option.bind (fA_D_refused 3 g) fun x3 => bt x3.1 (some (x3.1, x3.2))) fun J2 => (if x1 = 0 then J2 () else (if a2 < 0 then J2 () else Option.bind (fA_Plan_turnOf_2 a1 g) fun x4 => (if x4 ≤ a2 then J2 () else ag 8 (g.2.1 29) a1 fun x5 => (if x5 = a2 then J2 () else Option.bind (fA_D_beginAct g) fun x6 => ck 8 a1 (bv (sA x6 29 (a1 : Int32).toNatClampNeg a2) fun g7 => some (1, g7))))))
set_option maxRecDepth 20000 in
set_option maxHeartbeats 4000000 in
theorem ok_fA_D_phase (E : Ev) (a1 : Int32) (a2 : Int32) (g : G)  : Ct (wCA E) yX11_phase mi_X11_phase [.ref (E.1 0), .int a1, .int a2] (fun r => (some (.int r.1), r.2)) g (fA_D_phase a1 a2 g) := by
  refine go_enter rfl rfl (Nat.le_of_ble_eq_true rfl) (lv := [(0, .ref (E.1 0)), (1, .int a1), (2, .int a2)]) rfl ?_
  unfold fA_D_phase
  refine go_aload_n td_X11_phase 0 rfl (q := 1) rfl 0 rfl ?_
  refine go_get td_X11_phase 1 rfl (q := 4) rfl fl_X11_19 (Ac_0 E g) rfl ?_
  refine go_iload_n td_X11_phase 2 rfl (q := 5) rfl 1 rfl ?_
  refine go_callV td_X11_phase 3 rfl (q := 8) rfl (XkA E) lk_X11_211 (ok_fA_Plan_hasCraft E a1 g) ⟨rfl, rfl, Nat.le_of_ble_eq_true rfl, Nat.le_of_ble_eq_true rfl⟩ rfl rfl (Nat.le_of_ble_eq_true rfl) (Ac_3 E g) rfl (fun x1 => ?_)
  show Go (wCA E) _ _ g 8 _ [.int x1] _
  refine go_ljX (α := Unit) (fun b2 => [(0, .ref (E.1 0))]) (fun b2 => []) (fun b2 => g) 40 ?_ ?_
  · intro b2
    refine go_aload_n td_X11_phase 20 rfl (q := 41) rfl 0 rfl ?_
    refine go_iconst td_X11_phase 21 rfl (q := 42) rfl kc_3 ?_
    refine go_callV td_X11_phase 22 rfl (q := 45) rfl (XkA E) lk_X11_130 (ok_fA_D_refused E 3 g) ⟨rfl, rfl, Nat.le_of_ble_eq_true rfl, Nat.le_of_ble_eq_true rfl⟩ rfl rfl (Nat.le_of_ble_eq_true rfl) (Ac_0 E g) rfl (fun x3 => ?_)
    show Go (wCA E) _ _ x3.2 45 _ [.int x3.1] _
    exact go_zretb td_X11_phase 23 rfl rfl rfl
  intro J2 hJ2
  have kJ2 : Go (wCA E) _ _ g 40 [(0, .ref (E.1 0))] [] (J2 ()) := hJ2 ()
  refine go_if_eq 40 td_X11_phase 4 rfl rfl (q := 11) rfl (fun _ => ?_) (fun _ => ?_)
  · refine go_pick [0] (lv' := [(0, .ref (E.1 0))]) rfl ?_
    exact kJ2 
  · refine go_iload_n td_X11_phase 5 rfl (q := 12) rfl 2 rfl ?_
    refine go_if_lt 40 td_X11_phase 6 rfl rfl (q := 15) rfl (fun _ => ?_) (fun _ => ?_)
    · refine go_pick [0] (lv' := [(0, .ref (E.1 0))]) rfl ?_
      exact kJ2 
    · refine go_iload_n td_X11_phase 7 rfl (q := 16) rfl 2 rfl ?_
      refine go_aload_n td_X11_phase 8 rfl (q := 17) rfl 0 rfl ?_
      refine go_get td_X11_phase 9 rfl (q := 20) rfl fl_X11_19 (Ac_0 E g) rfl ?_
      refine go_iload_n td_X11_phase 10 rfl (q := 21) rfl 1 rfl ?_
      refine go_callV td_X11_phase 11 rfl (q := 24) rfl (XkA E) lk_X11_447 (ok_fA_Plan_turnOf_2 E a1 g) ⟨rfl, rfl, Nat.le_of_ble_eq_true rfl, Nat.le_of_ble_eq_true rfl⟩ rfl rfl (Nat.le_of_ble_eq_true rfl) (Ac_3 E g) rfl (fun x4 => ?_)
      show Go (wCA E) _ _ g 24 _ [.int x4, .int a2] _
      refine go_icmp_ge 40 td_X11_phase 12 rfl rfl (q := 27) rfl (fun _ => ?_) (fun _ => ?_)
      · refine go_pick [0] (lv' := [(0, .ref (E.1 0))]) rfl ?_
        exact kJ2 
      · refine go_aload_n td_X11_phase 13 rfl (q := 28) rfl 0 rfl ?_
        refine go_get td_X11_phase 14 rfl (q := 31) rfl fl_X11_29 (Ac_0 E g) rfl ?_
        refine go_get td_X11_phase 15 rfl (q := 34) rfl fl_X11_238 (Ac_27 E g) rfl ?_
        refine go_iload_n td_X11_phase 16 rfl (q := 35) rfl 1 rfl ?_
        refine go_ald td_X11_phase 17 rfl (q := 36) rfl (Ac_29 E g) (t0 := 0) rfl (fun x5 => ?_)
        refine go_iload_n td_X11_phase 18 rfl (q := 37) rfl 2 rfl ?_
        refine go_icmp_ne 46 td_X11_phase 19 rfl rfl (q := 40) rfl (fun _ => ?_) (fun _ => ?_)
        · refine go_aload_n td_X11_phase 24 rfl (q := 47) rfl 0 rfl ?_
          refine go_callV td_X11_phase 25 rfl (q := 50) rfl (XkA E) lk_X11_441 (ok_fA_D_beginAct E g) ⟨rfl, rfl, Nat.le_of_ble_eq_true rfl, Nat.le_of_ble_eq_true rfl⟩ rfl rfl (Nat.le_of_ble_eq_true rfl) (Ac_0 E g) rfl (fun x6 => ?_)
          show Go (wCA E) _ _ x6 50 _ [] _
          refine go_aload_n td_X11_phase 26 rfl (q := 51) rfl 0 rfl ?_
          refine go_get td_X11_phase 27 rfl (q := 54) rfl fl_X11_29 (Ac_0 E x6) rfl ?_
          refine go_get td_X11_phase 28 rfl (q := 57) rfl fl_X11_238 (Ac_27 E x6) rfl ?_
          refine go_iload_n td_X11_phase 29 rfl (q := 58) rfl 1 rfl ?_
          refine go_iload_n td_X11_phase 30 rfl (q := 59) rfl 2 rfl ?_
          refine go_ast td_X11_phase 31 rfl (q := 60) rfl (Ac_29 E x6) (t0 := 0) rfl (Aas_29 E x6 _) ?_
          refine go_bvg (fun g7 => ?_)
          refine go_iconst td_X11_phase 32 rfl (q := 61) rfl kc_1 ?_
          exact go_zret td_X11_phase 33 rfl rfl rfl rfl
        · refine go_pick [0] (lv' := [(0, .ref (E.1 0))]) rfl ?_
          exact kJ2 
def fA_D_reach (a1 : Int32) (a2 : Int32) (g : G) : Option (Int32 × G) := Option.bind (fA_Plan_hasCraft a1 g) fun x1 => lj (α := Unit) (fun b2 => Option.bind (fA_D_refused 3 g) fun x3 => bt x3.1 (some (x3.1, x3.2))) fun J2 => (if x1 = 0 then J2 () else (if a2 < 0 then J2 () else (if 12 < a2 then J2 () else ag 8 (g.2.1 30) a1 fun x4 => (if x4 = a2 then J2 () else Option.bind (fA_D_beginAct g) fun x5 => ck 8 a1 (bv (sA x5 30 (a1 : Int32).toNatClampNeg a2) fun g6 => some (1, g6))))))
set_option maxRecDepth 20000 in
set_option maxHeartbeats 4000000 in
theorem ok_fA_D_reach (E : Ev) (a1 : Int32) (a2 : Int32) (g : G)  : Ct (wCA E) yX11_reach mi_X11_reach [.ref (E.1 0), .int a1, .int a2] (fun r => (some (.int r.1), r.2)) g (fA_D_reach a1 a2 g) := by
  refine go_enter rfl rfl (Nat.le_of_ble_eq_true rfl) (lv := [(0, .ref (E.1 0)), (1, .int a1), (2, .int a2)]) rfl ?_
  unfold fA_D_reach
  refine go_aload_n td_X11_reach 0 rfl (q := 1) rfl 0 rfl ?_
  refine go_get td_X11_reach 1 rfl (q := 4) rfl fl_X11_19 (Ac_0 E g) rfl ?_
  refine go_iload_n td_X11_reach 2 rfl (q := 5) rfl 1 rfl ?_
  refine go_callV td_X11_reach 3 rfl (q := 8) rfl (XkA E) lk_X11_211 (ok_fA_Plan_hasCraft E a1 g) ⟨rfl, rfl, Nat.le_of_ble_eq_true rfl, Nat.le_of_ble_eq_true rfl⟩ rfl rfl (Nat.le_of_ble_eq_true rfl) (Ac_3 E g) rfl (fun x1 => ?_)
  show Go (wCA E) _ _ g 8 _ [.int x1] _
  refine go_ljX (α := Unit) (fun b2 => [(0, .ref (E.1 0))]) (fun b2 => []) (fun b2 => g) 34 ?_ ?_
  · intro b2
    refine go_aload_n td_X11_reach 17 rfl (q := 35) rfl 0 rfl ?_
    refine go_iconst td_X11_reach 18 rfl (q := 36) rfl kc_3 ?_
    refine go_callV td_X11_reach 19 rfl (q := 39) rfl (XkA E) lk_X11_130 (ok_fA_D_refused E 3 g) ⟨rfl, rfl, Nat.le_of_ble_eq_true rfl, Nat.le_of_ble_eq_true rfl⟩ rfl rfl (Nat.le_of_ble_eq_true rfl) (Ac_0 E g) rfl (fun x3 => ?_)
    show Go (wCA E) _ _ x3.2 39 _ [.int x3.1] _
    exact go_zretb td_X11_reach 20 rfl rfl rfl
  intro J2 hJ2
  have kJ2 : Go (wCA E) _ _ g 34 [(0, .ref (E.1 0))] [] (J2 ()) := hJ2 ()
  refine go_if_eq 34 td_X11_reach 4 rfl rfl (q := 11) rfl (fun _ => ?_) (fun _ => ?_)
  · refine go_pick [0] (lv' := [(0, .ref (E.1 0))]) rfl ?_
    exact kJ2 
  · refine go_iload_n td_X11_reach 5 rfl (q := 12) rfl 2 rfl ?_
    refine go_if_lt 34 td_X11_reach 6 rfl rfl (q := 15) rfl (fun _ => ?_) (fun _ => ?_)
    · refine go_pick [0] (lv' := [(0, .ref (E.1 0))]) rfl ?_
      exact kJ2 
    · refine go_iload_n td_X11_reach 7 rfl (q := 16) rfl 2 rfl ?_
      refine go_bipush td_X11_reach 8 rfl (q := 18) rfl kb_12 ?_
      refine go_icmp_gt 34 td_X11_reach 9 rfl rfl (q := 21) rfl (fun _ => ?_) (fun _ => ?_)
      · refine go_pick [0] (lv' := [(0, .ref (E.1 0))]) rfl ?_
        exact kJ2 
      · refine go_aload_n td_X11_reach 10 rfl (q := 22) rfl 0 rfl ?_
        refine go_get td_X11_reach 11 rfl (q := 25) rfl fl_X11_29 (Ac_0 E g) rfl ?_
        refine go_get td_X11_reach 12 rfl (q := 28) rfl fl_X11_241 (Ac_27 E g) rfl ?_
        refine go_iload_n td_X11_reach 13 rfl (q := 29) rfl 1 rfl ?_
        refine go_ald td_X11_reach 14 rfl (q := 30) rfl (Ac_30 E g) (t0 := 0) rfl (fun x4 => ?_)
        refine go_iload_n td_X11_reach 15 rfl (q := 31) rfl 2 rfl ?_
        refine go_icmp_ne 40 td_X11_reach 16 rfl rfl (q := 34) rfl (fun _ => ?_) (fun _ => ?_)
        · refine go_aload_n td_X11_reach 21 rfl (q := 41) rfl 0 rfl ?_
          refine go_callV td_X11_reach 22 rfl (q := 44) rfl (XkA E) lk_X11_441 (ok_fA_D_beginAct E g) ⟨rfl, rfl, Nat.le_of_ble_eq_true rfl, Nat.le_of_ble_eq_true rfl⟩ rfl rfl (Nat.le_of_ble_eq_true rfl) (Ac_0 E g) rfl (fun x5 => ?_)
          show Go (wCA E) _ _ x5 44 _ [] _
          refine go_aload_n td_X11_reach 23 rfl (q := 45) rfl 0 rfl ?_
          refine go_get td_X11_reach 24 rfl (q := 48) rfl fl_X11_29 (Ac_0 E x5) rfl ?_
          refine go_get td_X11_reach 25 rfl (q := 51) rfl fl_X11_241 (Ac_27 E x5) rfl ?_
          refine go_iload_n td_X11_reach 26 rfl (q := 52) rfl 1 rfl ?_
          refine go_iload_n td_X11_reach 27 rfl (q := 53) rfl 2 rfl ?_
          refine go_ast td_X11_reach 28 rfl (q := 54) rfl (Ac_30 E x5) (t0 := 0) rfl (Aas_30 E x5 _) ?_
          refine go_bvg (fun g6 => ?_)
          refine go_iconst td_X11_reach 29 rfl (q := 55) rfl kc_1 ?_
          exact go_zret td_X11_reach 30 rfl rfl rfl rfl
        · refine go_pick [0] (lv' := [(0, .ref (E.1 0))]) rfl ?_
          exact kJ2 
def fA_D_node (a1 : Int32) (a2 : Int32) (g : G) : Option (Int32 × G) := Option.bind (fA_Plan_hasPlane a1 g) fun x1 => lj (α := Unit) (fun b2 => Option.bind (fA_D_refused 3 g) fun x3 => bt x3.1 (some (x3.1, x3.2))) fun J2 => (if x1 = 0 then J2 () else (if a2 < 0 then J2 () else (if (g.1 300) ≤ a2 then J2 () else ag 4 (g.2.1 28) a1 fun x4 => (if x4 = a2 then J2 () else Option.bind (fA_D_beginAct g) fun x5 => ck 4 a1 (bv (sA x5 28 (a1 : Int32).toNatClampNeg a2) fun g6 => some (1, g6))))))
set_option maxRecDepth 20000 in
set_option maxHeartbeats 4000000 in
theorem ok_fA_D_node (E : Ev) (a1 : Int32) (a2 : Int32) (g : G)  : Ct (wCA E) yX11_node mi_X11_node [.ref (E.1 0), .int a1, .int a2] (fun r => (some (.int r.1), r.2)) g (fA_D_node a1 a2 g) := by
  refine go_enter rfl rfl (Nat.le_of_ble_eq_true rfl) (lv := [(0, .ref (E.1 0)), (1, .int a1), (2, .int a2)]) rfl ?_
  unfold fA_D_node
  refine go_aload_n td_X11_node 0 rfl (q := 1) rfl 0 rfl ?_
  refine go_get td_X11_node 1 rfl (q := 4) rfl fl_X11_19 (Ac_0 E g) rfl ?_
  refine go_iload_n td_X11_node 2 rfl (q := 5) rfl 1 rfl ?_
  refine go_callV td_X11_node 3 rfl (q := 8) rfl (XkA E) lk_X11_201 (ok_fA_Plan_hasPlane E a1 g) ⟨rfl, rfl, Nat.le_of_ble_eq_true rfl, Nat.le_of_ble_eq_true rfl⟩ rfl rfl (Nat.le_of_ble_eq_true rfl) (Ac_3 E g) rfl (fun x1 => ?_)
  show Go (wCA E) _ _ g 8 _ [.int x1] _
  refine go_ljX (α := Unit) (fun b2 => [(0, .ref (E.1 0))]) (fun b2 => []) (fun b2 => g) 39 ?_ ?_
  · intro b2
    refine go_aload_n td_X11_node 19 rfl (q := 40) rfl 0 rfl ?_
    refine go_iconst td_X11_node 20 rfl (q := 41) rfl kc_3 ?_
    refine go_callV td_X11_node 21 rfl (q := 44) rfl (XkA E) lk_X11_130 (ok_fA_D_refused E 3 g) ⟨rfl, rfl, Nat.le_of_ble_eq_true rfl, Nat.le_of_ble_eq_true rfl⟩ rfl rfl (Nat.le_of_ble_eq_true rfl) (Ac_0 E g) rfl (fun x3 => ?_)
    show Go (wCA E) _ _ x3.2 44 _ [.int x3.1] _
    exact go_zretb td_X11_node 22 rfl rfl rfl
  intro J2 hJ2
  have kJ2 : Go (wCA E) _ _ g 39 [(0, .ref (E.1 0))] [] (J2 ()) := hJ2 ()
  refine go_if_eq 39 td_X11_node 4 rfl rfl (q := 11) rfl (fun _ => ?_) (fun _ => ?_)
  · refine go_pick [0] (lv' := [(0, .ref (E.1 0))]) rfl ?_
    exact kJ2 
  · refine go_iload_n td_X11_node 5 rfl (q := 12) rfl 2 rfl ?_
    refine go_if_lt 39 td_X11_node 6 rfl rfl (q := 15) rfl (fun _ => ?_) (fun _ => ?_)
    · refine go_pick [0] (lv' := [(0, .ref (E.1 0))]) rfl ?_
      exact kJ2 
    · refine go_iload_n td_X11_node 7 rfl (q := 16) rfl 2 rfl ?_
      refine go_aload_n td_X11_node 8 rfl (q := 17) rfl 0 rfl ?_
      refine go_get td_X11_node 9 rfl (q := 20) rfl fl_X11_19 (Ac_0 E g) rfl ?_
      refine go_get td_X11_node 10 rfl (q := 23) rfl fl_X11_163 (Ac_3 E g) rfl ?_
      refine go_icmp_ge 39 td_X11_node 11 rfl rfl (q := 26) rfl (fun _ => ?_) (fun _ => ?_)
      · refine go_pick [0] (lv' := [(0, .ref (E.1 0))]) rfl ?_
        exact kJ2 
      · refine go_aload_n td_X11_node 12 rfl (q := 27) rfl 0 rfl ?_
        refine go_get td_X11_node 13 rfl (q := 30) rfl fl_X11_29 (Ac_0 E g) rfl ?_
        refine go_get td_X11_node 14 rfl (q := 33) rfl fl_X11_223 (Ac_27 E g) rfl ?_
        refine go_iload_n td_X11_node 15 rfl (q := 34) rfl 1 rfl ?_
        refine go_ald td_X11_node 16 rfl (q := 35) rfl (Ac_28 E g) (t0 := 0) rfl (fun x4 => ?_)
        refine go_iload_n td_X11_node 17 rfl (q := 36) rfl 2 rfl ?_
        refine go_icmp_ne 45 td_X11_node 18 rfl rfl (q := 39) rfl (fun _ => ?_) (fun _ => ?_)
        · refine go_aload_n td_X11_node 23 rfl (q := 46) rfl 0 rfl ?_
          refine go_callV td_X11_node 24 rfl (q := 49) rfl (XkA E) lk_X11_441 (ok_fA_D_beginAct E g) ⟨rfl, rfl, Nat.le_of_ble_eq_true rfl, Nat.le_of_ble_eq_true rfl⟩ rfl rfl (Nat.le_of_ble_eq_true rfl) (Ac_0 E g) rfl (fun x5 => ?_)
          show Go (wCA E) _ _ x5 49 _ [] _
          refine go_aload_n td_X11_node 25 rfl (q := 50) rfl 0 rfl ?_
          refine go_get td_X11_node 26 rfl (q := 53) rfl fl_X11_29 (Ac_0 E x5) rfl ?_
          refine go_get td_X11_node 27 rfl (q := 56) rfl fl_X11_223 (Ac_27 E x5) rfl ?_
          refine go_iload_n td_X11_node 28 rfl (q := 57) rfl 1 rfl ?_
          refine go_iload_n td_X11_node 29 rfl (q := 58) rfl 2 rfl ?_
          refine go_ast td_X11_node 30 rfl (q := 59) rfl (Ac_28 E x5) (t0 := 0) rfl (Aas_28 E x5 _) ?_
          refine go_bvg (fun g6 => ?_)
          refine go_iconst td_X11_node 31 rfl (q := 60) rfl kc_1 ?_
          exact go_zret td_X11_node 32 rfl rfl rfl rfl
        · refine go_pick [0] (lv' := [(0, .ref (E.1 0))]) rfl ?_
          exact kJ2 
def fA_Fleet_spreadOut_2 (a1 : Int32) (a2 : Int32) (g : G) : Option (G) := Option.bind (fA_Plan_craftIn a1 g) fun x1 => bv (x1 &&& (g.1 2700)) fun x2 => Option.bind (fA_Integer_bitCount x2 g) fun x3 => ag 4 (g.2.1 7) a1 fun x4 => Lp (α := Int32 × Int32 × G) (fun rec5 s5 => (if (s5.2.2.1 306) ≤ s5.2.1 then some s5.2.2 else lj (α := Int32 × G) (fun b6 => rec5 (b6.1, s5.2.1 + 1, b6.2)) fun J6 => (if ((x2 >>> (s5.2.1 &&& 31)) &&& 1) = 0 then J6 (s5.1, s5.2.2) else Option.bind (fA_D_cut (s5.1 * x4) x3 s5.2.2) fun x7 => Option.bind (fA_D_rest (a2 + x7) x4 s5.2.2) fun x8 => ck 8 s5.2.1 (bv (sA s5.2.2 29 (s5.2.1 : Int32).toNatClampNeg x8) fun g9 => J6 (s5.1 + 1, g9))))) FU (0, 0, g)
set_option maxRecDepth 20000 in
set_option maxHeartbeats 4000000 in
theorem ok_fA_Fleet_spreadOut_2 (E : Ev) (a1 : Int32) (a2 : Int32) (g : G)  : Ct (wCA E) yX1_spreadOut mi_X1_spreadOut [.ref (E.1 27), .ref (E.1 3), .int a1, .int a2] (fun r => (none, r)) g (fA_Fleet_spreadOut_2 a1 a2 g) := by
  refine go_enter rfl rfl (Nat.le_of_ble_eq_true rfl) (lv := [(0, .ref (E.1 27)), (1, .ref (E.1 3)), (2, .int a1), (3, .int a2)]) rfl ?_
  unfold fA_Fleet_spreadOut_2
  refine go_aload_n td_X1_spreadOut 0 rfl (q := 1) rfl 1 rfl ?_
  refine go_iload_n td_X1_spreadOut 1 rfl (q := 2) rfl 2 rfl ?_
  refine go_callV td_X1_spreadOut 2 rfl (q := 5) rfl (XkA E) lk_X1_31 (ok_fA_Plan_craftIn E a1 g) ⟨rfl, rfl, Nat.le_of_ble_eq_true rfl, Nat.le_of_ble_eq_true rfl⟩ rfl rfl (Nat.le_of_ble_eq_true rfl) (Ac_3 E g) rfl (fun x1 => ?_)
  show Go (wCA E) _ _ g 5 _ [.int x1] _
  refine go_aload_n td_X1_spreadOut 3 rfl (q := 6) rfl 0 rfl ?_
  refine go_get td_X1_spreadOut 4 rfl (q := 9) rfl fl_X1_9 (Ac_27 E g) rfl ?_
  refine go_iand td_X1_spreadOut 5 rfl (q := 10) rfl ?_
  refine go_bvi (fun x2 => ?_)
  refine go_istore [(4, .int x2), (0, .ref (E.1 27)), (1, .ref (E.1 3)), (2, .int a1), (3, .int a2)] td_X1_spreadOut 6 rfl (q := 12) rfl (Nat.le_of_ble_eq_true rfl) rfl ?_
  refine go_iload td_X1_spreadOut 7 rfl (q := 14) rfl 0 rfl ?_
  refine go_callS td_X1_spreadOut 8 rfl (q := 17) rfl (XkA E) lk_X1_37 (ok_fA_Integer_bitCount E x2 g) ⟨rfl, rfl, Nat.le_of_ble_eq_true rfl, Nat.le_of_ble_eq_true rfl⟩ rfl rfl (Nat.le_of_ble_eq_true rfl) (fun x3 => ?_)
  show Go (wCA E) _ _ g 17 _ [.int x3] _
  refine go_istore [(5, .int x3), (4, .int x2), (0, .ref (E.1 27)), (1, .ref (E.1 3)), (2, .int a1), (3, .int a2)] td_X1_spreadOut 9 rfl (q := 19) rfl (Nat.le_of_ble_eq_true rfl) rfl ?_
  refine go_aload_n td_X1_spreadOut 10 rfl (q := 20) rfl 3 rfl ?_
  refine go_get td_X1_spreadOut 11 rfl (q := 23) rfl fl_X1_42 (Ac_3 E g) rfl ?_
  refine go_iload_n td_X1_spreadOut 12 rfl (q := 24) rfl 4 rfl ?_
  refine go_ald td_X1_spreadOut 13 rfl (q := 25) rfl (Ac_7 E g) (t0 := 0) rfl (fun x4 => ?_)
  refine go_istore [(6, .int x4), (5, .int x3), (4, .int x2), (0, .ref (E.1 27)), (1, .ref (E.1 3)), (2, .int a1), (3, .int a2)] td_X1_spreadOut 14 rfl (q := 27) rfl (Nat.le_of_ble_eq_true rfl) rfl ?_
  refine go_iconst td_X1_spreadOut 15 rfl (q := 28) rfl kc_0 ?_
  refine go_istore [(7, .int 0), (6, .int x4), (5, .int x3), (4, .int x2), (0, .ref (E.1 27)), (1, .ref (E.1 3)), (2, .int a1), (3, .int a2)] td_X1_spreadOut 16 rfl (q := 30) rfl (Nat.le_of_ble_eq_true rfl) rfl ?_
  refine go_iconst td_X1_spreadOut 17 rfl (q := 31) rfl kc_0 ?_
  refine go_istore [(8, .int 0), (7, .int 0), (6, .int x4), (5, .int x3), (4, .int x2), (0, .ref (E.1 27)), (1, .ref (E.1 3)), (2, .int a1), (3, .int a2)] td_X1_spreadOut 18 rfl (q := 33) rfl (Nat.le_of_ble_eq_true rfl) rfl ?_
  refine go_pick [5, 6, 8, 4, 3, 2, 1, 0] (lv' := [(0, .ref (E.1 27)), (1, .ref (E.1 3)), (3, .int a2), (4, .int x2), (5, .int x3), (6, .int x4), (7, .int 0), (8, .int 0)]) rfl ?_
  refine (show ∀ (u5_0 : Int32) (u5_1 : Int32) (u5_2 : G), Go (wCA E) _ _ u5_2 33 [(0, .ref (E.1 27)), (1, .ref (E.1 3)), (3, .int a2), (4, .int x2), (5, .int x3), (6, .int x4), (7, .int u5_0), (8, .int u5_1)] [] (Lp (α := Int32 × Int32 × G) _ FU (u5_0, u5_1, u5_2)) from ?_) 0 0 g
  intro u5_0 u5_1 u5_2
  refine go_Lp (α := Int32 × Int32 × G) (fun s5 => s5.2.2) (fun s5 => [(0, .ref (E.1 27)), (1, .ref (E.1 3)), (3, .int a2), (4, .int x2), (5, .int x3), (6, .int x4), (7, .int s5.1), (8, .int s5.2.1)]) ?_ FU (u5_0, u5_1, u5_2)
  intro rec5 hrec5 s5
  have krec5 : ∀ (u5_0 : Int32) (u5_1 : Int32) (u5_2 : G), Go (wCA E) _ _ u5_2 33 [(0, .ref (E.1 27)), (1, .ref (E.1 3)), (3, .int a2), (4, .int x2), (5, .int x3), (6, .int x4), (7, .int u5_0), (8, .int u5_1)] [] (rec5 (u5_0, u5_1, u5_2)) := fun u5_0 u5_1 u5_2 => hrec5 (u5_0, u5_1, u5_2)
  refine go_iload td_X1_spreadOut 19 rfl (q := 35) rfl 7 rfl ?_
  refine go_aload_n td_X1_spreadOut 20 rfl (q := 36) rfl 1 rfl ?_
  refine go_get td_X1_spreadOut 21 rfl (q := 39) rfl fl_X1_45 (Ac_3 E s5.2.2) rfl ?_
  refine go_icmp_ge 85 td_X1_spreadOut 22 rfl rfl (q := 42) rfl (fun _ => ?_) (fun _ => ?_)
  · exact go_vret td_X1_spreadOut 45 rfl rfl rfl
  · refine go_iload td_X1_spreadOut 23 rfl (q := 44) rfl 3 rfl ?_
    refine go_iload td_X1_spreadOut 24 rfl (q := 46) rfl 7 rfl ?_
    refine go_ishr td_X1_spreadOut 25 rfl (q := 47) rfl ?_
    refine go_iconst td_X1_spreadOut 26 rfl (q := 48) rfl kc_1 ?_
    refine go_iand td_X1_spreadOut 27 rfl (q := 49) rfl ?_
    refine go_ljX (α := Int32 × G) (fun b6 => [(0, .ref (E.1 27)), (1, .ref (E.1 3)), (3, .int a2), (4, .int x2), (5, .int x3), (6, .int x4), (7, .int b6.1), (8, .int s5.2.1)]) (fun b6 => []) (fun b6 => b6.2) 79 ?_ ?_
    · intro b6
      refine go_iinc [(8, .int (s5.2.1 + 1)), (0, .ref (E.1 27)), (1, .ref (E.1 3)), (3, .int a2), (4, .int x2), (5, .int x3), (6, .int x4), (7, .int b6.1)] td_X1_spreadOut 43 rfl (q := 82) rfl 7 rfl kc_1 (Nat.le_of_ble_eq_true rfl) rfl ?_
      refine go_goto td_X1_spreadOut 44 rfl (q := 33) rfl ?_
      refine go_pick [1, 2, 3, 4, 5, 6, 7, 0] (lv' := [(0, .ref (E.1 27)), (1, .ref (E.1 3)), (3, .int a2), (4, .int x2), (5, .int x3), (6, .int x4), (7, .int b6.1), (8, .int (s5.2.1 + 1))]) rfl ?_
      exact krec5 b6.1 (s5.2.1 + 1) b6.2
    intro J6 hJ6
    have kJ6 : ∀ (u6_0 : Int32) (u6_1 : G), Go (wCA E) _ _ u6_1 79 [(0, .ref (E.1 27)), (1, .ref (E.1 3)), (3, .int a2), (4, .int x2), (5, .int x3), (6, .int x4), (7, .int u6_0), (8, .int s5.2.1)] [] (J6 (u6_0, u6_1)) := fun u6_0 u6_1 => hJ6 (u6_0, u6_1)
    refine go_if_eq 79 td_X1_spreadOut 28 rfl rfl (q := 52) rfl (fun _ => ?_) (fun _ => ?_)
    · refine go_pick [0, 1, 2, 3, 4, 5, 6, 7] (lv' := [(0, .ref (E.1 27)), (1, .ref (E.1 3)), (3, .int a2), (4, .int x2), (5, .int x3), (6, .int x4), (7, .int s5.1), (8, .int s5.2.1)]) rfl ?_
      exact kJ6 s5.1 s5.2.2
    · refine go_aload_n td_X1_spreadOut 29 rfl (q := 53) rfl 0 rfl ?_
      refine go_get td_X1_spreadOut 30 rfl (q := 56) rfl fl_X1_19 (Ac_27 E s5.2.2) rfl ?_
      refine go_iload td_X1_spreadOut 31 rfl (q := 58) rfl 7 rfl ?_
      refine go_iload_n td_X1_spreadOut 32 rfl (q := 59) rfl 2 rfl ?_
      refine go_iload td_X1_spreadOut 33 rfl (q := 61) rfl 6 rfl ?_
      refine go_iload td_X1_spreadOut 34 rfl (q := 63) rfl 5 rfl ?_
      refine go_imul td_X1_spreadOut 35 rfl (q := 64) rfl ?_
      refine go_iload td_X1_spreadOut 36 rfl (q := 66) rfl 4 rfl ?_
      refine go_callN td_X1_spreadOut 37 rfl (q := 69) rfl (XkA E) (lk_X1_48 E) (ok_fA_D_cut E (s5.1 * x4) x3 s5.2.2) ⟨rfl, rfl, Nat.le_of_ble_eq_true rfl, Nat.le_of_ble_eq_true rfl⟩ rfl rfl (Nat.le_of_ble_eq_true rfl) (fun x7 => ?_)
      show Go (wCA E) _ _ s5.2.2 69 _ [.int x7, .int a2, .int s5.2.1, .ref (E.1 29)] _
      refine go_iadd td_X1_spreadOut 38 rfl (q := 70) rfl ?_
      refine go_iload td_X1_spreadOut 39 rfl (q := 72) rfl 5 rfl ?_
      refine go_callN td_X1_spreadOut 40 rfl (q := 75) rfl (XkA E) (lk_X1_52 E) (ok_fA_D_rest E (a2 + x7) x4 s5.2.2) ⟨rfl, rfl, Nat.le_of_ble_eq_true rfl, Nat.le_of_ble_eq_true rfl⟩ rfl rfl (Nat.le_of_ble_eq_true rfl) (fun x8 => ?_)
      show Go (wCA E) _ _ s5.2.2 75 _ [.int x8, .int s5.2.1, .ref (E.1 29)] _
      refine go_ast td_X1_spreadOut 41 rfl (q := 76) rfl (Ac_29 E s5.2.2) (t0 := 0) rfl (Aas_29 E s5.2.2 _) ?_
      refine go_bvg (fun g9 => ?_)
      refine go_iinc [(7, .int (s5.1 + 1)), (0, .ref (E.1 27)), (1, .ref (E.1 3)), (3, .int a2), (4, .int x2), (5, .int x3), (6, .int x4), (8, .int s5.2.1)] td_X1_spreadOut 42 rfl (q := 79) rfl 6 rfl kc_1 (Nat.le_of_ble_eq_true rfl) rfl ?_
      refine go_pick [1, 2, 3, 4, 5, 6, 0, 7] (lv' := [(0, .ref (E.1 27)), (1, .ref (E.1 3)), (3, .int a2), (4, .int x2), (5, .int x3), (6, .int x4), (7, .int (s5.1 + 1)), (8, .int s5.2.1)]) rfl ?_
      exact kJ6 (s5.1 + 1) g9
def fA_D_spread (a1 : Int32) (a2 : Int32) (g : G) : Option (Int32 × G) := Option.bind (fA_Plan_hasPlane a1 g) fun x1 => lj (α := Unit) (fun b2 => Option.bind (fA_D_refuse 3 g) fun x3 => some (x3.1, x3.2)) fun J2 => (if x1 = 0 then J2 () else (if a2 < 0 then J2 () else ag 4 (g.2.1 7) a1 fun x4 => (if a2 < x4 then Option.bind (fA_Plan_craftIn a1 g) fun x5 => bv (x5 &&& (g.1 2700)) fun x6 => (if x6 = 0 then Option.bind (fA_D_refuse 3 g) fun x10 => some (x10.1, x10.2) else Option.bind (fA_D_beginAct g) fun x7 => Option.bind (fA_Fleet_spreadOut_2 a1 a2 x7) fun x8 => Option.bind (fA_Integer_bitCount x6 x8) fun x9 => some (x9, x8)) else J2 ())))
set_option maxRecDepth 20000 in
set_option maxHeartbeats 4000000 in
theorem ok_fA_D_spread (E : Ev) (a1 : Int32) (a2 : Int32) (g : G)  : Ct (wCA E) yX11_spread mi_X11_spread [.ref (E.1 0), .int a1, .int a2] (fun r => (some (.int r.1), r.2)) g (fA_D_spread a1 a2 g) := by
  refine go_enter rfl rfl (Nat.le_of_ble_eq_true rfl) (lv := [(0, .ref (E.1 0)), (1, .int a1), (2, .int a2)]) rfl ?_
  unfold fA_D_spread
  refine go_aload_n td_X11_spread 0 rfl (q := 1) rfl 0 rfl ?_
  refine go_get td_X11_spread 1 rfl (q := 4) rfl fl_X11_19 (Ac_0 E g) rfl ?_
  refine go_iload_n td_X11_spread 2 rfl (q := 5) rfl 1 rfl ?_
  refine go_callV td_X11_spread 3 rfl (q := 8) rfl (XkA E) lk_X11_201 (ok_fA_Plan_hasPlane E a1 g) ⟨rfl, rfl, Nat.le_of_ble_eq_true rfl, Nat.le_of_ble_eq_true rfl⟩ rfl rfl (Nat.le_of_ble_eq_true rfl) (Ac_3 E g) rfl (fun x1 => ?_)
  show Go (wCA E) _ _ g 8 _ [.int x1] _
  refine go_ljX (α := Unit) (fun b2 => [(0, .ref (E.1 0))]) (fun b2 => []) (fun b2 => g) 28 ?_ ?_
  · intro b2
    refine go_aload_n td_X11_spread 14 rfl (q := 29) rfl 0 rfl ?_
    refine go_iconst td_X11_spread 15 rfl (q := 30) rfl kc_3 ?_
    refine go_callV td_X11_spread 16 rfl (q := 33) rfl (XkA E) lk_X11_122 (ok_fA_D_refuse E 3 g) ⟨rfl, rfl, Nat.le_of_ble_eq_true rfl, Nat.le_of_ble_eq_true rfl⟩ rfl rfl (Nat.le_of_ble_eq_true rfl) (Ac_0 E g) rfl (fun x3 => ?_)
    show Go (wCA E) _ _ x3.2 33 _ [.int x3.1] _
    exact go_iret td_X11_spread 17 rfl rfl rfl
  intro J2 hJ2
  have kJ2 : Go (wCA E) _ _ g 28 [(0, .ref (E.1 0))] [] (J2 ()) := hJ2 ()
  refine go_if_eq 28 td_X11_spread 4 rfl rfl (q := 11) rfl (fun _ => ?_) (fun _ => ?_)
  · refine go_pick [0] (lv' := [(0, .ref (E.1 0))]) rfl ?_
    exact kJ2 
  · refine go_iload_n td_X11_spread 5 rfl (q := 12) rfl 2 rfl ?_
    refine go_if_lt 28 td_X11_spread 6 rfl rfl (q := 15) rfl (fun _ => ?_) (fun _ => ?_)
    · refine go_pick [0] (lv' := [(0, .ref (E.1 0))]) rfl ?_
      exact kJ2 
    · refine go_iload_n td_X11_spread 7 rfl (q := 16) rfl 2 rfl ?_
      refine go_aload_n td_X11_spread 8 rfl (q := 17) rfl 0 rfl ?_
      refine go_get td_X11_spread 9 rfl (q := 20) rfl fl_X11_19 (Ac_0 E g) rfl ?_
      refine go_get td_X11_spread 10 rfl (q := 23) rfl fl_X11_229 (Ac_3 E g) rfl ?_
      refine go_iload_n td_X11_spread 11 rfl (q := 24) rfl 1 rfl ?_
      refine go_ald td_X11_spread 12 rfl (q := 25) rfl (Ac_7 E g) (t0 := 0) rfl (fun x4 => ?_)
      refine go_icmp_lt 34 td_X11_spread 13 rfl rfl (q := 28) rfl (fun _ => ?_) (fun _ => ?_)
      · refine go_aload_n td_X11_spread 18 rfl (q := 35) rfl 0 rfl ?_
        refine go_get td_X11_spread 19 rfl (q := 38) rfl fl_X11_19 (Ac_0 E g) rfl ?_
        refine go_iload_n td_X11_spread 20 rfl (q := 39) rfl 1 rfl ?_
        refine go_callV td_X11_spread 21 rfl (q := 42) rfl (XkA E) lk_X11_232 (ok_fA_Plan_craftIn E a1 g) ⟨rfl, rfl, Nat.le_of_ble_eq_true rfl, Nat.le_of_ble_eq_true rfl⟩ rfl rfl (Nat.le_of_ble_eq_true rfl) (Ac_3 E g) rfl (fun x5 => ?_)
        show Go (wCA E) _ _ g 42 _ [.int x5] _
        refine go_aload_n td_X11_spread 22 rfl (q := 43) rfl 0 rfl ?_
        refine go_get td_X11_spread 23 rfl (q := 46) rfl fl_X11_29 (Ac_0 E g) rfl ?_
        refine go_get td_X11_spread 24 rfl (q := 49) rfl fl_X11_178 (Ac_27 E g) rfl ?_
        refine go_iand td_X11_spread 25 rfl (q := 50) rfl ?_
        refine go_bvi (fun x6 => ?_)
        refine go_istore_n [(3, .int x6), (0, .ref (E.1 0)), (1, .int a1), (2, .int a2)] td_X11_spread 26 rfl (q := 51) rfl (Nat.le_of_ble_eq_true rfl) rfl ?_
        refine go_iload_n td_X11_spread 27 rfl (q := 52) rfl 0 rfl ?_
        refine go_if_ne 61 td_X11_spread 28 rfl rfl (q := 55) rfl (fun _ => ?_) (fun _ => ?_)
        · refine go_aload_n td_X11_spread 33 rfl (q := 62) rfl 1 rfl ?_
          refine go_callV td_X11_spread 34 rfl (q := 65) rfl (XkA E) lk_X11_441 (ok_fA_D_beginAct E g) ⟨rfl, rfl, Nat.le_of_ble_eq_true rfl, Nat.le_of_ble_eq_true rfl⟩ rfl rfl (Nat.le_of_ble_eq_true rfl) (Ac_0 E g) rfl (fun x7 => ?_)
          show Go (wCA E) _ _ x7 65 _ [] _
          refine go_aload_n td_X11_spread 35 rfl (q := 66) rfl 1 rfl ?_
          refine go_get td_X11_spread 36 rfl (q := 69) rfl fl_X11_29 (Ac_0 E x7) rfl ?_
          refine go_aload_n td_X11_spread 37 rfl (q := 70) rfl 1 rfl ?_
          refine go_get td_X11_spread 38 rfl (q := 73) rfl fl_X11_19 (Ac_0 E x7) rfl ?_
          refine go_iload_n td_X11_spread 39 rfl (q := 74) rfl 2 rfl ?_
          refine go_iload_n td_X11_spread 40 rfl (q := 75) rfl 3 rfl ?_
          refine go_callV td_X11_spread 41 rfl (q := 78) rfl (XkA E) lk_X11_450 (ok_fA_Fleet_spreadOut_2 E a1 a2 x7) ⟨rfl, rfl, Nat.le_of_ble_eq_true rfl, Nat.le_of_ble_eq_true rfl⟩ rfl rfl (Nat.le_of_ble_eq_true rfl) (Ac_27 E x7) rfl (fun x8 => ?_)
          show Go (wCA E) _ _ x8 78 _ [] _
          refine go_iload_n td_X11_spread 42 rfl (q := 79) rfl 0 rfl ?_
          refine go_callS td_X11_spread 43 rfl (q := 82) rfl (XkA E) lk_X11_181 (ok_fA_Integer_bitCount E x6 x8) ⟨rfl, rfl, Nat.le_of_ble_eq_true rfl, Nat.le_of_ble_eq_true rfl⟩ rfl rfl (Nat.le_of_ble_eq_true rfl) (fun x9 => ?_)
          show Go (wCA E) _ _ x8 82 _ [.int x9] _
          exact go_iret td_X11_spread 44 rfl rfl rfl
        · refine go_aload_n td_X11_spread 29 rfl (q := 56) rfl 1 rfl ?_
          refine go_iconst td_X11_spread 30 rfl (q := 57) rfl kc_3 ?_
          refine go_callV td_X11_spread 31 rfl (q := 60) rfl (XkA E) lk_X11_122 (ok_fA_D_refuse E 3 g) ⟨rfl, rfl, Nat.le_of_ble_eq_true rfl, Nat.le_of_ble_eq_true rfl⟩ rfl rfl (Nat.le_of_ble_eq_true rfl) (Ac_0 E g) rfl (fun x10 => ?_)
          show Go (wCA E) _ _ x10.2 60 _ [.int x10.1] _
          exact go_iret td_X11_spread 32 rfl rfl rfl
      · refine go_pick [0] (lv' := [(0, .ref (E.1 0))]) rfl ?_
        exact kJ2 
def fA_D_draw (a1 : Int32) (g : G) : Option (Int32 × G) := bv (sD g (((1103515245 * g.2.2.1) + 12345) &&& 2147483647)) fun g1 => Option.bind (fA_D_rest ((g1.2.2.1 >>> ((6 : Int32).toInt64 &&& 63) : Int64).toInt32) a1 g1) fun x2 => some (x2, g1)
set_option maxRecDepth 20000 in
set_option maxHeartbeats 4000000 in
theorem ok_fA_D_draw (E : Ev) (a1 : Int32) (g : G)  : Ct (wCA E) yX11_draw mi_X11_draw [.ref (E.1 0), .int a1] (fun r => (some (.int r.1), r.2)) g (fA_D_draw a1 g) := by
  refine go_enter rfl rfl (Nat.le_of_ble_eq_true rfl) (lv := [(0, .ref (E.1 0)), (1, .int a1)]) rfl ?_
  unfold fA_D_draw
  refine go_aload_n td_X11_draw 0 rfl (q := 1) rfl 0 rfl ?_
  refine go_ldc2 td_X11_draw 1 rfl (q := 4) rfl cn_X11_490 ?_
  refine go_aload_n td_X11_draw 2 rfl (q := 5) rfl 0 rfl ?_
  refine go_get td_X11_draw 3 rfl (q := 8) rfl fl_X11_110 (Ac_0 E g) rfl ?_
  refine go_lmul td_X11_draw 4 rfl (q := 9) rfl ?_
  refine go_ldc2 td_X11_draw 5 rfl (q := 12) rfl cn_X11_492 ?_
  refine go_ladd td_X11_draw 6 rfl (q := 13) rfl ?_
  refine go_ldc2 td_X11_draw 7 rfl (q := 16) rfl cn_X11_494 ?_
  refine go_land td_X11_draw 8 rfl (q := 17) rfl ?_
  refine go_put td_X11_draw 9 rfl (q := 20) rfl flp_X11_110 (Ac_0 E g) rfl rfl (Nat.le_of_ble_eq_true rfl) (Apd E g (((1103515245 * g.2.2.1) + 12345) &&& 2147483647)) ?_
  refine go_bvg (fun g1 => ?_)
  refine go_aload_n td_X11_draw 10 rfl (q := 21) rfl 0 rfl ?_
  refine go_get td_X11_draw 11 rfl (q := 24) rfl fl_X11_110 (Ac_0 E g1) rfl ?_
  refine go_bipush td_X11_draw 12 rfl (q := 26) rfl kb_6 ?_
  refine go_lshr td_X11_draw 13 rfl (q := 27) rfl ?_
  refine go_l2i td_X11_draw 14 rfl (q := 28) rfl ?_
  refine go_iload_n td_X11_draw 15 rfl (q := 29) rfl 1 rfl ?_
  refine go_callS td_X11_draw 16 rfl (q := 32) rfl (XkA E) lk_X11_468 (ok_fA_D_rest E ((g1.2.2.1 >>> ((6 : Int32).toInt64 &&& 63) : Int64).toInt32) a1 g1) ⟨rfl, rfl, Nat.le_of_ble_eq_true rfl, Nat.le_of_ble_eq_true rfl⟩ rfl rfl (Nat.le_of_ble_eq_true rfl) (fun x2 => ?_)
  show Go (wCA E) _ _ g1 32 _ [.int x2] _
  exact go_iret td_X11_draw 17 rfl rfl rfl
def fA_D_changeByChance (g : G) : Option (G) := Option.bind (fA_D_draw (g.1 306) g) fun x1 => Option.bind (fA_D_draw 4 x1.2) fun x2 => (if x2.1 = 0 then Option.bind (fA_Fleet_turnOver_2 x1.1 x2.2) fun x3 => some x3 else if x2.1 = 1 then Option.bind (fA_Plan_turnOf_2 x1.1 x2.2) fun x5 => Option.bind (fA_D_draw x5 x2.2) fun x6 => ck 8 x1.1 (bv (sA x6.2 29 (x1.1 : Int32).toNatClampNeg x6.1) fun g7 => some g7) else if x2.1 = 2 then Option.bind (fA_D_draw 7 x2.2) fun x9 => ck 8 x1.1 (bv (sA x9.2 30 (x1.1 : Int32).toNatClampNeg x9.1) fun g10 => some g10) else ag 8 (x2.2.2.1 9) x1.1 fun x12 => Option.bind (fA_D_draw (x2.2.1 300) x2.2) fun x13 => ck 4 x12 (bv (sA x13.2 28 (x12 : Int32).toNatClampNeg x13.1) fun g14 => some g14))
set_option maxRecDepth 20000 in
set_option maxHeartbeats 4000000 in
theorem ok_fA_D_changeByChance (E : Ev)  (g : G)  : Ct (wCA E) yX11_changeByChance mi_X11_changeByChance [.ref (E.1 0)] (fun r => (none, r)) g (fA_D_changeByChance g) := by
  refine go_enter rfl rfl (Nat.le_of_ble_eq_true rfl) (lv := [(0, .ref (E.1 0))]) rfl ?_
  unfold fA_D_changeByChance
  refine go_aload_n td_X11_changeByChance 0 rfl (q := 1) rfl 0 rfl ?_
  refine go_aload_n td_X11_changeByChance 1 rfl (q := 2) rfl 0 rfl ?_
  refine go_get td_X11_changeByChance 2 rfl (q := 5) rfl fl_X11_19 (Ac_0 E g) rfl ?_
  refine go_get td_X11_changeByChance 3 rfl (q := 8) rfl fl_X11_175 (Ac_3 E g) rfl ?_
  refine go_callV td_X11_changeByChance 4 rfl (q := 11) rfl (XkA E) lk_X11_496 (ok_fA_D_draw E (g.1 306) g) ⟨rfl, rfl, Nat.le_of_ble_eq_true rfl, Nat.le_of_ble_eq_true rfl⟩ rfl rfl (Nat.le_of_ble_eq_true rfl) (Ac_0 E g) rfl (fun x1 => ?_)
  show Go (wCA E) _ _ x1.2 11 _ [.int x1.1] _
  refine go_istore_n [(1, .int x1.1), (0, .ref (E.1 0))] td_X11_changeByChance 5 rfl (q := 12) rfl (Nat.le_of_ble_eq_true rfl) rfl ?_
  refine go_aload_n td_X11_changeByChance 6 rfl (q := 13) rfl 1 rfl ?_
  refine go_iconst td_X11_changeByChance 7 rfl (q := 14) rfl kc_4 ?_
  refine go_callV td_X11_changeByChance 8 rfl (q := 17) rfl (XkA E) lk_X11_496 (ok_fA_D_draw E 4 x1.2) ⟨rfl, rfl, Nat.le_of_ble_eq_true rfl, Nat.le_of_ble_eq_true rfl⟩ rfl rfl (Nat.le_of_ble_eq_true rfl) (Ac_0 E x1.2) rfl (fun x2 => ?_)
  show Go (wCA E) _ _ x2.2 17 _ [.int x2.1] _
  refine go_tcase (v := 0) 44 td_X11_changeByChance 9 rfl ⟨by decide, by decide, rfl, rfl⟩ ?_ (fun n4 => ?_)
  · refine go_aload_n td_X11_changeByChance 10 rfl (q := 45) rfl 1 rfl ?_
    refine go_get td_X11_changeByChance 11 rfl (q := 48) rfl fl_X11_29 (Ac_0 E x2.2) rfl ?_
    refine go_iload_n td_X11_changeByChance 12 rfl (q := 49) rfl 0 rfl ?_
    refine go_callV td_X11_changeByChance 13 rfl (q := 52) rfl (XkA E) lk_X11_444 (ok_fA_Fleet_turnOver_2 E x1.1 x2.2) ⟨rfl, rfl, Nat.le_of_ble_eq_true rfl, Nat.le_of_ble_eq_true rfl⟩ rfl rfl (Nat.le_of_ble_eq_true rfl) (Ac_27 E x2.2) rfl (fun x3 => ?_)
    show Go (wCA E) _ _ x3 52 _ [] _
    refine go_goto td_X11_changeByChance 14 rfl (q := 125) rfl ?_
    exact go_vret td_X11_changeByChance 50 rfl rfl rfl
  refine go_tcase (v := 1) 55 td_X11_changeByChance 9 rfl ⟨by decide, by decide, rfl, rfl⟩ ?_ (fun n8 => ?_)
  · refine go_aload_n td_X11_changeByChance 15 rfl (q := 56) rfl 1 rfl ?_
    refine go_get td_X11_changeByChance 16 rfl (q := 59) rfl fl_X11_29 (Ac_0 E x2.2) rfl ?_
    refine go_get td_X11_changeByChance 17 rfl (q := 62) rfl fl_X11_238 (Ac_27 E x2.2) rfl ?_
    refine go_iload_n td_X11_changeByChance 18 rfl (q := 63) rfl 0 rfl ?_
    refine go_aload_n td_X11_changeByChance 19 rfl (q := 64) rfl 1 rfl ?_
    refine go_aload_n td_X11_changeByChance 20 rfl (q := 65) rfl 1 rfl ?_
    refine go_get td_X11_changeByChance 21 rfl (q := 68) rfl fl_X11_19 (Ac_0 E x2.2) rfl ?_
    refine go_iload_n td_X11_changeByChance 22 rfl (q := 69) rfl 0 rfl ?_
    refine go_callV td_X11_changeByChance 23 rfl (q := 72) rfl (XkA E) lk_X11_447 (ok_fA_Plan_turnOf_2 E x1.1 x2.2) ⟨rfl, rfl, Nat.le_of_ble_eq_true rfl, Nat.le_of_ble_eq_true rfl⟩ rfl rfl (Nat.le_of_ble_eq_true rfl) (Ac_3 E x2.2) rfl (fun x5 => ?_)
    show Go (wCA E) _ _ x2.2 72 _ [.int x5, .ref (E.1 0), .int x1.1, .ref (E.1 29)] _
    refine go_callV td_X11_changeByChance 24 rfl (q := 75) rfl (XkA E) lk_X11_496 (ok_fA_D_draw E x5 x2.2) ⟨rfl, rfl, Nat.le_of_ble_eq_true rfl, Nat.le_of_ble_eq_true rfl⟩ rfl rfl (Nat.le_of_ble_eq_true rfl) (Ac_0 E x2.2) rfl (fun x6 => ?_)
    show Go (wCA E) _ _ x6.2 75 _ [.int x6.1, .int x1.1, .ref (E.1 29)] _
    refine go_ast td_X11_changeByChance 25 rfl (q := 76) rfl (Ac_29 E x6.2) (t0 := 0) rfl (Aas_29 E x6.2 _) ?_
    refine go_bvg (fun g7 => ?_)
    refine go_goto td_X11_changeByChance 26 rfl (q := 125) rfl ?_
    exact go_vret td_X11_changeByChance 50 rfl rfl rfl
  refine go_tcase (v := 2) 79 td_X11_changeByChance 9 rfl ⟨by decide, by decide, rfl, rfl⟩ ?_ (fun n11 => ?_)
  · refine go_aload_n td_X11_changeByChance 27 rfl (q := 80) rfl 1 rfl ?_
    refine go_get td_X11_changeByChance 28 rfl (q := 83) rfl fl_X11_29 (Ac_0 E x2.2) rfl ?_
    refine go_get td_X11_changeByChance 29 rfl (q := 86) rfl fl_X11_241 (Ac_27 E x2.2) rfl ?_
    refine go_iload_n td_X11_changeByChance 30 rfl (q := 87) rfl 0 rfl ?_
    refine go_aload_n td_X11_changeByChance 31 rfl (q := 88) rfl 1 rfl ?_
    refine go_bipush td_X11_changeByChance 32 rfl (q := 90) rfl kb_7 ?_
    refine go_callV td_X11_changeByChance 33 rfl (q := 93) rfl (XkA E) lk_X11_496 (ok_fA_D_draw E 7 x2.2) ⟨rfl, rfl, Nat.le_of_ble_eq_true rfl, Nat.le_of_ble_eq_true rfl⟩ rfl rfl (Nat.le_of_ble_eq_true rfl) (Ac_0 E x2.2) rfl (fun x9 => ?_)
    show Go (wCA E) _ _ x9.2 93 _ [.int x9.1, .int x1.1, .ref (E.1 30)] _
    refine go_ast td_X11_changeByChance 34 rfl (q := 94) rfl (Ac_30 E x9.2) (t0 := 0) rfl (Aas_30 E x9.2 _) ?_
    refine go_bvg (fun g10 => ?_)
    refine go_goto td_X11_changeByChance 35 rfl (q := 125) rfl ?_
    exact go_vret td_X11_changeByChance 50 rfl rfl rfl
  refine go_tdef 97 td_X11_changeByChance 9 rfl (sw_X11_changeByChance_17 n4 n8 n11) rfl ?_
  refine go_aload_n td_X11_changeByChance 36 rfl (q := 98) rfl 1 rfl ?_
  refine go_get td_X11_changeByChance 37 rfl (q := 101) rfl fl_X11_29 (Ac_0 E x2.2) rfl ?_
  refine go_get td_X11_changeByChance 38 rfl (q := 104) rfl fl_X11_223 (Ac_27 E x2.2) rfl ?_
  refine go_aload_n td_X11_changeByChance 39 rfl (q := 105) rfl 1 rfl ?_
  refine go_get td_X11_changeByChance 40 rfl (q := 108) rfl fl_X11_19 (Ac_0 E x2.2) rfl ?_
  refine go_get td_X11_changeByChance 41 rfl (q := 111) rfl fl_X11_235 (Ac_3 E x2.2) rfl ?_
  refine go_iload_n td_X11_changeByChance 42 rfl (q := 112) rfl 0 rfl ?_
  refine go_ald td_X11_changeByChance 43 rfl (q := 113) rfl (Ac_9 E x2.2) (t0 := 0) rfl (fun x12 => ?_)
  refine go_aload_n td_X11_changeByChance 44 rfl (q := 114) rfl 1 rfl ?_
  refine go_aload_n td_X11_changeByChance 45 rfl (q := 115) rfl 1 rfl ?_
  refine go_get td_X11_changeByChance 46 rfl (q := 118) rfl fl_X11_19 (Ac_0 E x2.2) rfl ?_
  refine go_get td_X11_changeByChance 47 rfl (q := 121) rfl fl_X11_163 (Ac_3 E x2.2) rfl ?_
  refine go_callV td_X11_changeByChance 48 rfl (q := 124) rfl (XkA E) lk_X11_496 (ok_fA_D_draw E (x2.2.1 300) x2.2) ⟨rfl, rfl, Nat.le_of_ble_eq_true rfl, Nat.le_of_ble_eq_true rfl⟩ rfl rfl (Nat.le_of_ble_eq_true rfl) (Ac_0 E x2.2) rfl (fun x13 => ?_)
  show Go (wCA E) _ _ x13.2 124 _ [.int x13.1, .int x12, .ref (E.1 28)] _
  refine go_ast td_X11_changeByChance 49 rfl (q := 125) rfl (Ac_28 E x13.2) (t0 := 0) rfl (Aas_28 E x13.2 _) ?_
  refine go_bvg (fun g14 => ?_)
  exact go_vret td_X11_changeByChance 50 rfl rfl rfl
def fA_D_chance (a1 : Int32) (g : G) : Option (Int32 × G) := lj (α := Unit) (fun b1 => Option.bind (fA_D_refuse 2 g) fun x2 => some (x2.1, x2.2)) fun J1 => (if a1 < 1 then J1 () else (if 40 < a1 then J1 () else (if (g.1 306) = 0 then J1 () else Option.bind (fA_D_beginAct g) fun x3 => Lp (α := Int32 × G) (fun rec4 s4 => (if a1 ≤ s4.1 then Option.bind (fA_Integer_bitCount (s4.2.1 2700) s4.2) fun x5 => some (x5, s4.2) else Option.bind (fA_D_changeByChance s4.2) fun x6 => rec4 (s4.1 + 1, x6))) FU (0, x3))))
set_option maxRecDepth 20000 in
set_option maxHeartbeats 4000000 in
theorem ok_fA_D_chance (E : Ev) (a1 : Int32) (g : G)  : Ct (wCA E) yX11_chance mi_X11_chance [.ref (E.1 0), .int a1] (fun r => (some (.int r.1), r.2)) g (fA_D_chance a1 g) := by
  refine go_enter rfl rfl (Nat.le_of_ble_eq_true rfl) (lv := [(0, .ref (E.1 0)), (1, .int a1)]) rfl ?_
  unfold fA_D_chance
  refine go_iload_n td_X11_chance 0 rfl (q := 1) rfl 1 rfl ?_
  refine go_iconst td_X11_chance 1 rfl (q := 2) rfl kc_1 ?_
  refine go_ljX (α := Unit) (fun b1 => [(0, .ref (E.1 0))]) (fun b1 => []) (fun b1 => g) 21 ?_ ?_
  · intro b1
    refine go_aload_n td_X11_chance 10 rfl (q := 22) rfl 0 rfl ?_
    refine go_iconst td_X11_chance 11 rfl (q := 23) rfl kc_2 ?_
    refine go_callV td_X11_chance 12 rfl (q := 26) rfl (XkA E) lk_X11_122 (ok_fA_D_refuse E 2 g) ⟨rfl, rfl, Nat.le_of_ble_eq_true rfl, Nat.le_of_ble_eq_true rfl⟩ rfl rfl (Nat.le_of_ble_eq_true rfl) (Ac_0 E g) rfl (fun x2 => ?_)
    show Go (wCA E) _ _ x2.2 26 _ [.int x2.1] _
    exact go_iret td_X11_chance 13 rfl rfl rfl
  intro J1 hJ1
  have kJ1 : Go (wCA E) _ _ g 21 [(0, .ref (E.1 0))] [] (J1 ()) := hJ1 ()
  refine go_icmp_lt 21 td_X11_chance 2 rfl rfl (q := 5) rfl (fun _ => ?_) (fun _ => ?_)
  · refine go_pick [0] (lv' := [(0, .ref (E.1 0))]) rfl ?_
    exact kJ1 
  · refine go_iload_n td_X11_chance 3 rfl (q := 6) rfl 1 rfl ?_
    refine go_bipush td_X11_chance 4 rfl (q := 8) rfl kb_40 ?_
    refine go_icmp_gt 21 td_X11_chance 5 rfl rfl (q := 11) rfl (fun _ => ?_) (fun _ => ?_)
    · refine go_pick [0] (lv' := [(0, .ref (E.1 0))]) rfl ?_
      exact kJ1 
    · refine go_aload_n td_X11_chance 6 rfl (q := 12) rfl 0 rfl ?_
      refine go_get td_X11_chance 7 rfl (q := 15) rfl fl_X11_19 (Ac_0 E g) rfl ?_
      refine go_get td_X11_chance 8 rfl (q := 18) rfl fl_X11_175 (Ac_3 E g) rfl ?_
      refine go_if_ne 27 td_X11_chance 9 rfl rfl (q := 21) rfl (fun _ => ?_) (fun _ => ?_)
      · refine go_aload_n td_X11_chance 14 rfl (q := 28) rfl 0 rfl ?_
        refine go_callV td_X11_chance 15 rfl (q := 31) rfl (XkA E) lk_X11_441 (ok_fA_D_beginAct E g) ⟨rfl, rfl, Nat.le_of_ble_eq_true rfl, Nat.le_of_ble_eq_true rfl⟩ rfl rfl (Nat.le_of_ble_eq_true rfl) (Ac_0 E g) rfl (fun x3 => ?_)
        show Go (wCA E) _ _ x3 31 _ [] _
        refine go_iconst td_X11_chance 16 rfl (q := 32) rfl kc_0 ?_
        refine go_istore_n [(2, .int 0), (0, .ref (E.1 0)), (1, .int a1)] td_X11_chance 17 rfl (q := 33) rfl (Nat.le_of_ble_eq_true rfl) rfl ?_
        refine go_pick [1, 2, 0] (lv' := [(0, .ref (E.1 0)), (1, .int a1), (2, .int 0)]) rfl ?_
        refine (show ∀ (u4_0 : Int32) (u4_1 : G), Go (wCA E) _ _ u4_1 33 [(0, .ref (E.1 0)), (1, .int a1), (2, .int u4_0)] [] (Lp (α := Int32 × G) _ FU (u4_0, u4_1)) from ?_) 0 x3
        intro u4_0 u4_1
        refine go_Lp (α := Int32 × G) (fun s4 => s4.2) (fun s4 => [(0, .ref (E.1 0)), (1, .int a1), (2, .int s4.1)]) ?_ FU (u4_0, u4_1)
        intro rec4 hrec4 s4
        have krec4 : ∀ (u4_0 : Int32) (u4_1 : G), Go (wCA E) _ _ u4_1 33 [(0, .ref (E.1 0)), (1, .int a1), (2, .int u4_0)] [] (rec4 (u4_0, u4_1)) := fun u4_0 u4_1 => hrec4 (u4_0, u4_1)
        refine go_iload_n td_X11_chance 18 rfl (q := 34) rfl 2 rfl ?_
        refine go_iload_n td_X11_chance 19 rfl (q := 35) rfl 1 rfl ?_
        refine go_icmp_ge 48 td_X11_chance 20 rfl rfl (q := 38) rfl (fun _ => ?_) (fun _ => ?_)
        · refine go_aload_n td_X11_chance 25 rfl (q := 49) rfl 0 rfl ?_
          refine go_get td_X11_chance 26 rfl (q := 52) rfl fl_X11_29 (Ac_0 E s4.2) rfl ?_
          refine go_get td_X11_chance 27 rfl (q := 55) rfl fl_X11_178 (Ac_27 E s4.2) rfl ?_
          refine go_callS td_X11_chance 28 rfl (q := 58) rfl (XkA E) lk_X11_181 (ok_fA_Integer_bitCount E (s4.2.1 2700) s4.2) ⟨rfl, rfl, Nat.le_of_ble_eq_true rfl, Nat.le_of_ble_eq_true rfl⟩ rfl rfl (Nat.le_of_ble_eq_true rfl) (fun x5 => ?_)
          show Go (wCA E) _ _ s4.2 58 _ [.int x5] _
          exact go_iret td_X11_chance 29 rfl rfl rfl
        · refine go_aload_n td_X11_chance 21 rfl (q := 39) rfl 0 rfl ?_
          refine go_callV td_X11_chance 22 rfl (q := 42) rfl (XkA E) lk_X11_454 (ok_fA_D_changeByChance E s4.2) ⟨rfl, rfl, Nat.le_of_ble_eq_true rfl, Nat.le_of_ble_eq_true rfl⟩ rfl rfl (Nat.le_of_ble_eq_true rfl) (Ac_0 E s4.2) rfl (fun x6 => ?_)
          show Go (wCA E) _ _ x6 42 _ [] _
          refine go_iinc [(2, .int (s4.1 + 1)), (0, .ref (E.1 0)), (1, .int a1)] td_X11_chance 23 rfl (q := 45) rfl 2 rfl kc_1 (Nat.le_of_ble_eq_true rfl) rfl ?_
          refine go_goto td_X11_chance 24 rfl (q := 33) rfl ?_
          refine go_pick [1, 2, 0] (lv' := [(0, .ref (E.1 0)), (1, .int a1), (2, .int (s4.1 + 1))]) rfl ?_
          exact krec4 (s4.1 + 1) x6
      · refine go_pick [0] (lv' := [(0, .ref (E.1 0))]) rfl ?_
        exact kJ1 
def fA_Fleet_take_4 (a1 : Nat) (g : G) : Option (G) := bv (sS g 2700 (g.1 (100 * (38 + 4 * a1)))) fun g1 => cp 4 4 0 0 4 (bv (sC g1 28 (va_cpy (g1.2.1 (38 + 4 * a1 + 1)) (g1.2.1 28) (0 : Int32).toNatClampNeg (0 : Int32).toNatClampNeg (4 : Int32).toNatClampNeg)) fun g2 => cp 8 8 0 0 8 (bv (sC g2 29 (va_cpy (g2.2.1 (38 + 4 * a1 + 2)) (g2.2.1 29) (0 : Int32).toNatClampNeg (0 : Int32).toNatClampNeg (8 : Int32).toNatClampNeg)) fun g3 => cp 8 8 0 0 8 (bv (sC g3 30 (va_cpy (g3.2.1 (38 + 4 * a1 + 3)) (g3.2.1 30) (0 : Int32).toNatClampNeg (0 : Int32).toNatClampNeg (8 : Int32).toNatClampNeg)) fun g4 => some g4)))
set_option maxRecDepth 20000 in
set_option maxHeartbeats 4000000 in
theorem ok_fA_Fleet_take_4 (E : Ev) (a1 : Nat) (g : G) (ha1 : a1 < 20) : Ct (wCA E) yX1_take mi_X1_take [.ref (E.1 27), .ref (E.1 (38 + 4 * a1))] (fun r => (none, r)) g (fA_Fleet_take_4 a1 g) := by
  refine go_enter rfl rfl (Nat.le_of_ble_eq_true rfl) (lv := [(0, .ref (E.1 27)), (1, .ref (E.1 (38 + 4 * a1)))]) rfl ?_
  unfold fA_Fleet_take_4
  refine go_aload_n td_X1_take 0 rfl (q := 1) rfl 0 rfl ?_
  refine go_aload_n td_X1_take 1 rfl (q := 2) rfl 1 rfl ?_
  refine go_get td_X1_take 2 rfl (q := 5) rfl fl_X1_9 (Ack_0 E g a1 ha1) rfl ?_
  refine go_put td_X1_take 3 rfl (q := 8) rfl flp_X1_9 (Ac_27 E g) rfl rfl (Nat.le_of_ble_eq_true rfl) (Aps_2700 E g (g.1 (100 * (38 + 4 * a1)))) ?_
  refine go_bvg (fun g1 => ?_)
  refine go_aload_n td_X1_take 4 rfl (q := 9) rfl 1 rfl ?_
  refine go_get td_X1_take 5 rfl (q := 12) rfl fl_X1_15 (Ack_0 E g1 a1 ha1) rfl ?_
  refine go_iconst td_X1_take 6 rfl (q := 13) rfl kc_0 ?_
  refine go_aload_n td_X1_take 7 rfl (q := 14) rfl 0 rfl ?_
  refine go_get td_X1_take 8 rfl (q := 17) rfl fl_X1_15 (Ac_27 E g1) rfl ?_
  refine go_iconst td_X1_take 9 rfl (q := 18) rfl kc_0 ?_
  refine go_iconst td_X1_take 10 rfl (q := 19) rfl kc_4 ?_
  refine go_copy td_X1_take 11 rfl (q := 22) rfl lk_X1_25 ⟨Nat.le_of_ble_eq_true rfl, Nat.le_of_ble_eq_true rfl⟩ (Ack_1 E g1 a1 ha1) (Ac_28 E g1) (t0 := 0) (t1 := 0) rfl rfl (Aas_28 E g1 _) ?_
  refine go_bvg (fun g2 => ?_)
  refine go_aload_n td_X1_take 12 rfl (q := 23) rfl 1 rfl ?_
  refine go_get td_X1_take 13 rfl (q := 26) rfl fl_X1_19 (Ack_0 E g2 a1 ha1) rfl ?_
  refine go_iconst td_X1_take 14 rfl (q := 27) rfl kc_0 ?_
  refine go_aload_n td_X1_take 15 rfl (q := 28) rfl 0 rfl ?_
  refine go_get td_X1_take 16 rfl (q := 31) rfl fl_X1_19 (Ac_27 E g2) rfl ?_
  refine go_iconst td_X1_take 17 rfl (q := 32) rfl kc_0 ?_
  refine go_bipush td_X1_take 18 rfl (q := 34) rfl kb_8 ?_
  refine go_copy td_X1_take 19 rfl (q := 37) rfl lk_X1_25 ⟨Nat.le_of_ble_eq_true rfl, Nat.le_of_ble_eq_true rfl⟩ (Ack_2 E g2 a1 ha1) (Ac_29 E g2) (t0 := 0) (t1 := 0) rfl rfl (Aas_29 E g2 _) ?_
  refine go_bvg (fun g3 => ?_)
  refine go_aload_n td_X1_take 20 rfl (q := 38) rfl 1 rfl ?_
  refine go_get td_X1_take 21 rfl (q := 41) rfl fl_X1_22 (Ack_0 E g3 a1 ha1) rfl ?_
  refine go_iconst td_X1_take 22 rfl (q := 42) rfl kc_0 ?_
  refine go_aload_n td_X1_take 23 rfl (q := 43) rfl 0 rfl ?_
  refine go_get td_X1_take 24 rfl (q := 46) rfl fl_X1_22 (Ac_27 E g3) rfl ?_
  refine go_iconst td_X1_take 25 rfl (q := 47) rfl kc_0 ?_
  refine go_bipush td_X1_take 26 rfl (q := 49) rfl kb_8 ?_
  refine go_copy td_X1_take 27 rfl (q := 52) rfl lk_X1_25 ⟨Nat.le_of_ble_eq_true rfl, Nat.le_of_ble_eq_true rfl⟩ (Ack_3 E g3 a1 ha1) (Ac_30 E g3) (t0 := 0) (t1 := 0) rfl rfl (Aas_30 E g3 _) ?_
  refine go_bvg (fun g4 => ?_)
  exact go_vret td_X1_take 28 rfl rfl rfl
def fA_History_restore (g : G) : Option (G) := dz 20 (bv (sS g 3601 ((((g.1 3601) + 20) - 1) - (((g.1 3601) + 20) - 1) / 20 * 20)) fun g1 => kg 20 (g1.1 3601) fun i2 => Option.bind (fA_Fleet_take_4 i2 g1) fun x3 => bv (sS x3 3600 ((x3.1 3600) - 1)) fun g4 => some g4)
set_option maxRecDepth 20000 in
set_option maxHeartbeats 4000000 in
theorem ok_fA_History_restore (E : Ev)  (g : G)  : Ct (wCA E) yX2_restore mi_X2_restore [.ref (E.1 36), .ref (E.1 27)] (fun r => (none, r)) g (fA_History_restore g) := by
  refine go_enter rfl rfl (Nat.le_of_ble_eq_true rfl) (lv := [(0, .ref (E.1 36)), (1, .ref (E.1 27))]) rfl ?_
  unfold fA_History_restore
  refine go_aload_n td_X2_restore 0 rfl (q := 1) rfl 0 rfl ?_
  refine go_aload_n td_X2_restore 1 rfl (q := 2) rfl 0 rfl ?_
  refine go_get td_X2_restore 2 rfl (q := 5) rfl fl_X2_15 (Ac_36 E g) rfl ?_
  refine go_bipush td_X2_restore 3 rfl (q := 7) rfl kb_20 ?_
  refine go_iadd td_X2_restore 4 rfl (q := 8) rfl ?_
  refine go_iconst td_X2_restore 5 rfl (q := 9) rfl kc_1 ?_
  refine go_isub td_X2_restore 6 rfl (q := 10) rfl ?_
  refine go_bipush td_X2_restore 7 rfl (q := 12) rfl kb_20 ?_
  refine go_irem td_X2_restore 8 rfl (q := 13) rfl ?_
  refine go_put td_X2_restore 9 rfl (q := 16) rfl flp_X2_15 (Ac_36 E g) rfl rfl (Nat.le_of_ble_eq_true rfl) (Aps_3601 E g ((((g.1 3601) + 20) - 1) - (((g.1 3601) + 20) - 1) / 20 * 20)) ?_
  refine go_bvg (fun g1 => ?_)
  refine go_aload_n td_X2_restore 10 rfl (q := 17) rfl 1 rfl ?_
  refine go_aload_n td_X2_restore 11 rfl (q := 18) rfl 0 rfl ?_
  refine go_get td_X2_restore 12 rfl (q := 21) rfl fl_X2_20 (Ac_36 E g1) rfl ?_
  refine go_aload_n td_X2_restore 13 rfl (q := 22) rfl 0 rfl ?_
  refine go_get td_X2_restore 14 rfl (q := 25) rfl fl_X2_15 (Ac_36 E g1) rfl ?_
  refine go_aald td_X2_restore 15 rfl (q := 26) rfl (Ac_37 E g1) (t0 := 2) rfl (fun i2 hi2 => ?_)
  refine go_callV td_X2_restore 16 rfl (q := 29) rfl (XkA E) lk_X2_25 (ok_fA_Fleet_take_4 E i2 g1 hi2) ⟨rfl, rfl, Nat.le_of_ble_eq_true rfl, Nat.le_of_ble_eq_true rfl⟩ rfl rfl (Nat.le_of_ble_eq_true rfl) (Ac_27 E g1) rfl (fun x3 => ?_)
  show Go (wCA E) _ _ x3 29 _ [] _
  refine go_aload_n td_X2_restore 17 rfl (q := 30) rfl 0 rfl ?_
  refine go_dup td_X2_restore 18 rfl (q := 31) rfl rfl ?_
  refine go_get td_X2_restore 19 rfl (q := 34) rfl fl_X2_9 (Ac_36 E x3) rfl ?_
  refine go_iconst td_X2_restore 20 rfl (q := 35) rfl kc_1 ?_
  refine go_isub td_X2_restore 21 rfl (q := 36) rfl ?_
  refine go_put td_X2_restore 22 rfl (q := 39) rfl flp_X2_9 (Ac_36 E x3) rfl rfl (Nat.le_of_ble_eq_true rfl) (Aps_3600 E x3 ((x3.1 3600) - 1)) ?_
  refine go_bvg (fun g4 => ?_)
  exact go_vret td_X2_restore 23 rfl rfl rfl
def fA_D_undo (g : G) : Option (Int32 × G) := (if (g.1 3600) = 0 then Option.bind (fA_D_refused 4 g) fun x3 => bt x3.1 (some (x3.1, x3.2)) else Option.bind (fA_History_restore g) fun x1 => bv (sS x1 18 0) fun g2 => some (1, g2))
set_option maxRecDepth 20000 in
set_option maxHeartbeats 4000000 in
theorem ok_fA_D_undo (E : Ev)  (g : G)  : Ct (wCA E) yX11_undo mi_X11_undo [.ref (E.1 0)] (fun r => (some (.int r.1), r.2)) g (fA_D_undo g) := by
  refine go_enter rfl rfl (Nat.le_of_ble_eq_true rfl) (lv := [(0, .ref (E.1 0))]) rfl ?_
  unfold fA_D_undo
  refine go_aload_n td_X11_undo 0 rfl (q := 1) rfl 0 rfl ?_
  refine go_get td_X11_undo 1 rfl (q := 4) rfl fl_X11_48 (Ac_0 E g) rfl ?_
  refine go_get td_X11_undo 2 rfl (q := 7) rfl fl_X11_198 (Ac_36 E g) rfl ?_
  refine go_if_ne 16 td_X11_undo 3 rfl rfl (q := 10) rfl (fun _ => ?_) (fun _ => ?_)
  · refine go_aload_n td_X11_undo 8 rfl (q := 17) rfl 0 rfl ?_
    refine go_get td_X11_undo 9 rfl (q := 20) rfl fl_X11_48 (Ac_0 E g) rfl ?_
    refine go_aload_n td_X11_undo 10 rfl (q := 21) rfl 0 rfl ?_
    refine go_get td_X11_undo 11 rfl (q := 24) rfl fl_X11_29 (Ac_0 E g) rfl ?_
    refine go_callV td_X11_undo 12 rfl (q := 27) rfl (XkA E) lk_X11_457 (ok_fA_History_restore E g) ⟨rfl, rfl, Nat.le_of_ble_eq_true rfl, Nat.le_of_ble_eq_true rfl⟩ rfl rfl (Nat.le_of_ble_eq_true rfl) (Ac_36 E g) rfl (fun x1 => ?_)
    show Go (wCA E) _ _ x1 27 _ [] _
    refine go_aload_n td_X11_undo 13 rfl (q := 28) rfl 0 rfl ?_
    refine go_iconst td_X11_undo 14 rfl (q := 29) rfl kc_0 ?_
    refine go_put td_X11_undo 15 rfl (q := 32) rfl flp_X11_114 (Ac_0 E x1) rfl rfl (Nat.le_of_ble_eq_true rfl) (Aps_18 E x1 0) ?_
    refine go_bvg (fun g2 => ?_)
    refine go_iconst td_X11_undo 16 rfl (q := 33) rfl kc_1 ?_
    exact go_zret td_X11_undo 17 rfl rfl rfl rfl
  · refine go_aload_n td_X11_undo 4 rfl (q := 11) rfl 0 rfl ?_
    refine go_iconst td_X11_undo 5 rfl (q := 12) rfl kc_4 ?_
    refine go_callV td_X11_undo 6 rfl (q := 15) rfl (XkA E) lk_X11_130 (ok_fA_D_refused E 4 g) ⟨rfl, rfl, Nat.le_of_ble_eq_true rfl, Nat.le_of_ble_eq_true rfl⟩ rfl rfl (Nat.le_of_ble_eq_true rfl) (Ac_0 E g) rfl (fun x3 => ?_)
    show Go (wCA E) _ _ x3.2 15 _ [.int x3.1] _
    exact go_zretb td_X11_undo 7 rfl rfl rfl
def fA_D_seed (a1 : Int32) (g : G) : Option (Int32 × G) := (if 0 ≤ a1 then bv (sD g ((a1 : Int32).toInt64)) fun g1 => some (1, g1) else Option.bind (fA_D_refused 5 g) fun x2 => bt x2.1 (some (x2.1, x2.2)))
set_option maxRecDepth 20000 in
set_option maxHeartbeats 4000000 in
theorem ok_fA_D_seed (E : Ev) (a1 : Int32) (g : G)  : Ct (wCA E) yX11_seed mi_X11_seed [.ref (E.1 0), .int a1] (fun r => (some (.int r.1), r.2)) g (fA_D_seed a1 g) := by
  refine go_enter rfl rfl (Nat.le_of_ble_eq_true rfl) (lv := [(0, .ref (E.1 0)), (1, .int a1)]) rfl ?_
  unfold fA_D_seed
  refine go_iload_n td_X11_seed 0 rfl (q := 1) rfl 1 rfl ?_
  refine go_if_ge 10 td_X11_seed 1 rfl rfl (q := 4) rfl (fun _ => ?_) (fun _ => ?_)
  · refine go_aload_n td_X11_seed 6 rfl (q := 11) rfl 0 rfl ?_
    refine go_iload_n td_X11_seed 7 rfl (q := 12) rfl 1 rfl ?_
    refine go_i2l td_X11_seed 8 rfl (q := 13) rfl ?_
    refine go_put td_X11_seed 9 rfl (q := 16) rfl flp_X11_110 (Ac_0 E g) rfl rfl (Nat.le_of_ble_eq_true rfl) (Apd E g ((a1 : Int32).toInt64)) ?_
    refine go_bvg (fun g1 => ?_)
    refine go_iconst td_X11_seed 10 rfl (q := 17) rfl kc_1 ?_
    exact go_zret td_X11_seed 11 rfl rfl rfl rfl
  · refine go_aload_n td_X11_seed 2 rfl (q := 5) rfl 0 rfl ?_
    refine go_iconst td_X11_seed 3 rfl (q := 6) rfl kc_5 ?_
    refine go_callV td_X11_seed 4 rfl (q := 9) rfl (XkA E) lk_X11_130 (ok_fA_D_refused E 5 g) ⟨rfl, rfl, Nat.le_of_ble_eq_true rfl, Nat.le_of_ble_eq_true rfl⟩ rfl rfl (Nat.le_of_ble_eq_true rfl) (Ac_0 E g) rfl (fun x2 => ?_)
    show Go (wCA E) _ _ x2.2 9 _ [.int x2.1] _
    exact go_zretb td_X11_seed 5 rfl rfl rfl
def fA_Fleet_checkWith (a1 : Int32) (a2 : Int32) (g : G) : Option (Int32) := dz 251 (some (((3 * a1) + a2) - ((3 * a1) + a2) / 251 * 251))
set_option maxRecDepth 20000 in
set_option maxHeartbeats 4000000 in
theorem ok_fA_Fleet_checkWith (E : Ev) (a1 : Int32) (a2 : Int32) (g : G)  : Ct (wCA E) yX1_checkWith mi_X1_checkWith [.int a1, .int a2] (fun r => (some (.int r), g)) g (fA_Fleet_checkWith a1 a2 g) := by
  refine go_enter rfl rfl (Nat.le_of_ble_eq_true rfl) (lv := [(0, .int a1), (1, .int a2)]) rfl ?_
  unfold fA_Fleet_checkWith
  refine go_iconst td_X1_checkWith 0 rfl (q := 1) rfl kc_3 ?_
  refine go_iload_n td_X1_checkWith 1 rfl (q := 2) rfl 0 rfl ?_
  refine go_imul td_X1_checkWith 2 rfl (q := 3) rfl ?_
  refine go_iload_n td_X1_checkWith 3 rfl (q := 4) rfl 1 rfl ?_
  refine go_iadd td_X1_checkWith 4 rfl (q := 5) rfl ?_
  refine go_sipush td_X1_checkWith 5 rfl (q := 8) rfl ks_251 ?_
  refine go_irem td_X1_checkWith 6 rfl (q := 9) rfl ?_
  exact go_iret td_X1_checkWith 7 rfl rfl rfl
def fA_Fleet_write (g : G) : Option (Int32 × G) := Lp (α := Int32 × Int32 × G) (fun rec1 s1 => (if (s1.2.2.1 305) ≤ s1.2.1 then Lp (α := Int32 × Int32 × G) (fun rec2 s2 => (if (s2.2.2.1 306) ≤ s2.2.1 then Lp (α := Int32 × Int32) (fun rec3 s3 => (if s2.1 ≤ s3.2 then ck 29 s2.1 (bv (sA s2.2.2 144 (s2.1 : Int32).toNatClampNeg s3.1) fun g4 => some (s2.1 + 1, g4)) else ag 29 (s2.2.2.2.1 144) s3.2 fun x5 => Option.bind (fA_Fleet_checkWith s3.1 x5 s2.2.2) fun x6 => rec3 (x6, s3.2 + 1))) FU (167, 0) else Option.bind (fA_Fleet_isUp s2.2.1 s2.2.2) fun x7 => lj (α := Int32) (fun b8 => ck 29 s2.1 (bv (sA s2.2.2 144 (s2.1 : Int32).toNatClampNeg b8) fun g9 => ag 8 (g9.2.1 29) s2.2.1 fun x10 => ck 29 (s2.1 + 1) (bv (sA g9 144 (s2.1 + 1 : Int32).toNatClampNeg x10) fun g11 => ag 8 (g11.2.1 30) s2.2.1 fun x12 => ck 29 (s2.1 + 2) (bv (sA g11 144 (s2.1 + 2 : Int32).toNatClampNeg x12) fun g13 => rec2 (s2.1 + 3, s2.2.1 + 1, g13))))) fun J8 => (if x7 = 0 then J8 0 else J8 1))) FU (s1.1, 0, s1.2.2) else ag 4 (s1.2.2.2.1 28) s1.2.1 fun x14 => ck 29 s1.1 (bv (sA s1.2.2 144 (s1.1 : Int32).toNatClampNeg x14) fun g15 => rec1 (s1.1 + 1, s1.2.1 + 1, g15)))) FU (0, 0, g)
set_option maxRecDepth 20000 in
set_option maxHeartbeats 4000000 in
theorem ok_fA_Fleet_write (E : Ev)  (g : G)  : Ct (wCA E) yX1_write mi_X1_write [.ref (E.1 27), .ref (E.1 3), .ref (E.1 144)] (fun r => (some (.int r.1), r.2)) g (fA_Fleet_write g) := by
  refine go_enter rfl rfl (Nat.le_of_ble_eq_true rfl) (lv := [(0, .ref (E.1 27)), (1, .ref (E.1 3)), (2, .ref (E.1 144))]) rfl ?_
  unfold fA_Fleet_write
  refine go_iconst td_X1_write 0 rfl (q := 1) rfl kc_0 ?_
  refine go_istore_n [(3, .int 0), (0, .ref (E.1 27)), (1, .ref (E.1 3)), (2, .ref (E.1 144))] td_X1_write 1 rfl (q := 2) rfl (Nat.le_of_ble_eq_true rfl) rfl ?_
  refine go_iconst td_X1_write 2 rfl (q := 3) rfl kc_0 ?_
  refine go_istore [(4, .int 0), (3, .int 0), (0, .ref (E.1 27)), (1, .ref (E.1 3)), (2, .ref (E.1 144))] td_X1_write 3 rfl (q := 5) rfl (Nat.le_of_ble_eq_true rfl) rfl ?_
  refine go_pick [2, 3, 4, 1, 0] (lv' := [(0, .ref (E.1 27)), (1, .ref (E.1 3)), (2, .ref (E.1 144)), (3, .int 0), (4, .int 0)]) rfl ?_
  refine (show ∀ (u1_0 : Int32) (u1_1 : Int32) (u1_2 : G), Go (wCA E) _ _ u1_2 5 [(0, .ref (E.1 27)), (1, .ref (E.1 3)), (2, .ref (E.1 144)), (3, .int u1_0), (4, .int u1_1)] [] (Lp (α := Int32 × Int32 × G) _ FU (u1_0, u1_1, u1_2)) from ?_) 0 0 g
  intro u1_0 u1_1 u1_2
  refine go_Lp (α := Int32 × Int32 × G) (fun s1 => s1.2.2) (fun s1 => [(0, .ref (E.1 27)), (1, .ref (E.1 3)), (2, .ref (E.1 144)), (3, .int s1.1), (4, .int s1.2.1)]) ?_ FU (u1_0, u1_1, u1_2)
  intro rec1 hrec1 s1
  have krec1 : ∀ (u1_0 : Int32) (u1_1 : Int32) (u1_2 : G), Go (wCA E) _ _ u1_2 5 [(0, .ref (E.1 27)), (1, .ref (E.1 3)), (2, .ref (E.1 144)), (3, .int u1_0), (4, .int u1_1)] [] (rec1 (u1_0, u1_1, u1_2)) := fun u1_0 u1_1 u1_2 => hrec1 (u1_0, u1_1, u1_2)
  refine go_iload td_X1_write 4 rfl (q := 7) rfl 4 rfl ?_
  refine go_aload_n td_X1_write 5 rfl (q := 8) rfl 1 rfl ?_
  refine go_get td_X1_write 6 rfl (q := 11) rfl fl_X1_55 (Ac_3 E s1.2.2) rfl ?_
  refine go_icmp_ge 33 td_X1_write 7 rfl rfl (q := 14) rfl (fun _ => ?_) (fun _ => ?_)
  · refine go_iconst td_X1_write 18 rfl (q := 34) rfl kc_0 ?_
    refine go_istore [(4, .int 0), (0, .ref (E.1 27)), (1, .ref (E.1 3)), (2, .ref (E.1 144)), (3, .int s1.1)] td_X1_write 19 rfl (q := 36) rfl (Nat.le_of_ble_eq_true rfl) rfl ?_
    refine go_pick [1, 2, 3, 4, 0] (lv' := [(0, .ref (E.1 27)), (1, .ref (E.1 3)), (2, .ref (E.1 144)), (3, .int s1.1), (4, .int 0)]) rfl ?_
    refine (show ∀ (u2_0 : Int32) (u2_1 : Int32) (u2_2 : G), Go (wCA E) _ _ u2_2 36 [(0, .ref (E.1 27)), (1, .ref (E.1 3)), (2, .ref (E.1 144)), (3, .int u2_0), (4, .int u2_1)] [] (Lp (α := Int32 × Int32 × G) _ FU (u2_0, u2_1, u2_2)) from ?_) s1.1 0 s1.2.2
    intro u2_0 u2_1 u2_2
    refine go_Lp (α := Int32 × Int32 × G) (fun s2 => s2.2.2) (fun s2 => [(0, .ref (E.1 27)), (1, .ref (E.1 3)), (2, .ref (E.1 144)), (3, .int s2.1), (4, .int s2.2.1)]) ?_ FU (u2_0, u2_1, u2_2)
    intro rec2 hrec2 s2
    have krec2 : ∀ (u2_0 : Int32) (u2_1 : Int32) (u2_2 : G), Go (wCA E) _ _ u2_2 36 [(0, .ref (E.1 27)), (1, .ref (E.1 3)), (2, .ref (E.1 144)), (3, .int u2_0), (4, .int u2_1)] [] (rec2 (u2_0, u2_1, u2_2)) := fun u2_0 u2_1 u2_2 => hrec2 (u2_0, u2_1, u2_2)
    refine go_iload td_X1_write 20 rfl (q := 38) rfl 4 rfl ?_
    refine go_aload_n td_X1_write 21 rfl (q := 39) rfl 1 rfl ?_
    refine go_get td_X1_write 22 rfl (q := 42) rfl fl_X1_45 (Ac_3 E s2.2.2) rfl ?_
    refine go_icmp_ge 95 td_X1_write 23 rfl rfl (q := 45) rfl (fun _ => ?_) (fun _ => ?_)
    · refine go_sipush td_X1_write 55 rfl (q := 98) rfl ks_167 ?_
      refine go_istore [(4, .int 167), (0, .ref (E.1 27)), (1, .ref (E.1 3)), (2, .ref (E.1 144)), (3, .int s2.1)] td_X1_write 56 rfl (q := 100) rfl (Nat.le_of_ble_eq_true rfl) rfl ?_
      refine go_iconst td_X1_write 57 rfl (q := 101) rfl kc_0 ?_
      refine go_istore [(5, .int 0), (4, .int 167), (0, .ref (E.1 27)), (1, .ref (E.1 3)), (2, .ref (E.1 144)), (3, .int s2.1)] td_X1_write 58 rfl (q := 103) rfl (Nat.le_of_ble_eq_true rfl) rfl ?_
      refine go_pick [4, 5, 1, 0] (lv' := [(2, .ref (E.1 144)), (3, .int s2.1), (4, .int 167), (5, .int 0)]) rfl ?_
      refine (show ∀ (u3_0 : Int32) (u3_1 : Int32), Go (wCA E) _ _ s2.2.2 103 [(2, .ref (E.1 144)), (3, .int s2.1), (4, .int u3_0), (5, .int u3_1)] [] (Lp (α := Int32 × Int32) _ FU (u3_0, u3_1)) from ?_) 167 0
      intro u3_0 u3_1
      refine go_Lp (α := Int32 × Int32) (fun s3 => s2.2.2) (fun s3 => [(2, .ref (E.1 144)), (3, .int s2.1), (4, .int s3.1), (5, .int s3.2)]) ?_ FU (u3_0, u3_1)
      intro rec3 hrec3 s3
      have krec3 : ∀ (u3_0 : Int32) (u3_1 : Int32), Go (wCA E) _ _ s2.2.2 103 [(2, .ref (E.1 144)), (3, .int s2.1), (4, .int u3_0), (5, .int u3_1)] [] (rec3 (u3_0, u3_1)) := fun u3_0 u3_1 => hrec3 (u3_0, u3_1)
      refine go_iload td_X1_write 59 rfl (q := 105) rfl 3 rfl ?_
      refine go_iload_n td_X1_write 60 rfl (q := 106) rfl 1 rfl ?_
      refine go_icmp_ge 126 td_X1_write 61 rfl rfl (q := 109) rfl (fun _ => ?_) (fun _ => ?_)
      · refine go_aload_n td_X1_write 70 rfl (q := 127) rfl 0 rfl ?_
        refine go_iload_n td_X1_write 71 rfl (q := 128) rfl 1 rfl ?_
        refine go_iload td_X1_write 72 rfl (q := 130) rfl 2 rfl ?_
        refine go_ast td_X1_write 73 rfl (q := 131) rfl (Ac_144 E s2.2.2) (t0 := 0) rfl (Aas_144 E s2.2.2 _) ?_
        refine go_bvg (fun g4 => ?_)
        refine go_iload_n td_X1_write 74 rfl (q := 132) rfl 1 rfl ?_
        refine go_iconst td_X1_write 75 rfl (q := 133) rfl kc_1 ?_
        refine go_iadd td_X1_write 76 rfl (q := 134) rfl ?_
        exact go_iret td_X1_write 77 rfl rfl rfl
      · refine go_iload td_X1_write 62 rfl (q := 111) rfl 2 rfl ?_
        refine go_aload_n td_X1_write 63 rfl (q := 112) rfl 0 rfl ?_
        refine go_iload td_X1_write 64 rfl (q := 114) rfl 3 rfl ?_
        refine go_ald td_X1_write 65 rfl (q := 115) rfl (Ac_144 E s2.2.2) (t0 := 0) rfl (fun x5 => ?_)
        refine go_callS td_X1_write 66 rfl (q := 118) rfl (XkA E) lk_X1_62 (ok_fA_Fleet_checkWith E s3.1 x5 s2.2.2) ⟨rfl, rfl, Nat.le_of_ble_eq_true rfl, Nat.le_of_ble_eq_true rfl⟩ rfl rfl (Nat.le_of_ble_eq_true rfl) (fun x6 => ?_)
        show Go (wCA E) _ _ s2.2.2 118 _ [.int x6] _
        refine go_istore [(4, .int x6), (2, .ref (E.1 144)), (3, .int s2.1), (5, .int s3.2)] td_X1_write 67 rfl (q := 120) rfl (Nat.le_of_ble_eq_true rfl) rfl ?_
        refine go_iinc [(5, .int (s3.2 + 1)), (4, .int x6), (2, .ref (E.1 144)), (3, .int s2.1)] td_X1_write 68 rfl (q := 123) rfl 3 rfl kc_1 (Nat.le_of_ble_eq_true rfl) rfl ?_
        refine go_goto td_X1_write 69 rfl (q := 103) rfl ?_
        refine go_pick [2, 3, 1, 0] (lv' := [(2, .ref (E.1 144)), (3, .int s2.1), (4, .int x6), (5, .int (s3.2 + 1))]) rfl ?_
        exact krec3 x6 (s3.2 + 1)
    · refine go_aload_n td_X1_write 24 rfl (q := 46) rfl 2 rfl ?_
      refine go_iload_n td_X1_write 25 rfl (q := 47) rfl 3 rfl ?_
      refine go_aload_n td_X1_write 26 rfl (q := 48) rfl 0 rfl ?_
      refine go_iload td_X1_write 27 rfl (q := 50) rfl 4 rfl ?_
      refine go_callV td_X1_write 28 rfl (q := 53) rfl (XkA E) lk_X1_58 (ok_fA_Fleet_isUp E s2.2.1 s2.2.2) ⟨rfl, rfl, Nat.le_of_ble_eq_true rfl, Nat.le_of_ble_eq_true rfl⟩ rfl rfl (Nat.le_of_ble_eq_true rfl) (Ac_27 E s2.2.2) rfl (fun x7 => ?_)
      show Go (wCA E) _ _ s2.2.2 53 _ [.int x7, .int s2.1, .ref (E.1 144)] _
      refine go_ljX (α := Int32) (fun b8 => [(0, .ref (E.1 27)), (1, .ref (E.1 3)), (2, .ref (E.1 144)), (3, .int s2.1), (4, .int s2.2.1)]) (fun b8 => [.int b8, .int s2.1, .ref (E.1 144)]) (fun b8 => s2.2.2) 61 ?_ ?_
      · intro b8
        refine go_ast td_X1_write 33 rfl (q := 62) rfl (Ac_144 E s2.2.2) (t0 := 0) rfl (Aas_144 E s2.2.2 _) ?_
        refine go_bvg (fun g9 => ?_)
        refine go_aload_n td_X1_write 34 rfl (q := 63) rfl 2 rfl ?_
        refine go_iload_n td_X1_write 35 rfl (q := 64) rfl 3 rfl ?_
        refine go_iconst td_X1_write 36 rfl (q := 65) rfl kc_1 ?_
        refine go_iadd td_X1_write 37 rfl (q := 66) rfl ?_
        refine go_aload_n td_X1_write 38 rfl (q := 67) rfl 0 rfl ?_
        refine go_get td_X1_write 39 rfl (q := 70) rfl fl_X1_19 (Ac_27 E g9) rfl ?_
        refine go_iload td_X1_write 40 rfl (q := 72) rfl 4 rfl ?_
        refine go_ald td_X1_write 41 rfl (q := 73) rfl (Ac_29 E g9) (t0 := 0) rfl (fun x10 => ?_)
        refine go_ast td_X1_write 42 rfl (q := 74) rfl (Ac_144 E g9) (t0 := 0) rfl (Aas_144 E g9 _) ?_
        refine go_bvg (fun g11 => ?_)
        refine go_aload_n td_X1_write 43 rfl (q := 75) rfl 2 rfl ?_
        refine go_iload_n td_X1_write 44 rfl (q := 76) rfl 3 rfl ?_
        refine go_iconst td_X1_write 45 rfl (q := 77) rfl kc_2 ?_
        refine go_iadd td_X1_write 46 rfl (q := 78) rfl ?_
        refine go_aload_n td_X1_write 47 rfl (q := 79) rfl 0 rfl ?_
        refine go_get td_X1_write 48 rfl (q := 82) rfl fl_X1_22 (Ac_27 E g11) rfl ?_
        refine go_iload td_X1_write 49 rfl (q := 84) rfl 4 rfl ?_
        refine go_ald td_X1_write 50 rfl (q := 85) rfl (Ac_30 E g11) (t0 := 0) rfl (fun x12 => ?_)
        refine go_ast td_X1_write 51 rfl (q := 86) rfl (Ac_144 E g11) (t0 := 0) rfl (Aas_144 E g11 _) ?_
        refine go_bvg (fun g13 => ?_)
        refine go_iinc [(3, .int (s2.1 + 3)), (0, .ref (E.1 27)), (1, .ref (E.1 3)), (2, .ref (E.1 144)), (4, .int s2.2.1)] td_X1_write 52 rfl (q := 89) rfl 3 rfl kc_3 (Nat.le_of_ble_eq_true rfl) rfl ?_
        refine go_iinc [(4, .int (s2.2.1 + 1)), (3, .int (s2.1 + 3)), (0, .ref (E.1 27)), (1, .ref (E.1 3)), (2, .ref (E.1 144))] td_X1_write 53 rfl (q := 92) rfl 4 rfl kc_1 (Nat.le_of_ble_eq_true rfl) rfl ?_
        refine go_goto td_X1_write 54 rfl (q := 36) rfl ?_
        refine go_pick [2, 3, 4, 1, 0] (lv' := [(0, .ref (E.1 27)), (1, .ref (E.1 3)), (2, .ref (E.1 144)), (3, .int (s2.1 + 3)), (4, .int (s2.2.1 + 1))]) rfl ?_
        exact krec2 (s2.1 + 3) (s2.2.1 + 1) g13
      intro J8 hJ8
      have kJ8 : ∀ (u8_0 : Int32), Go (wCA E) _ _ s2.2.2 61 [(0, .ref (E.1 27)), (1, .ref (E.1 3)), (2, .ref (E.1 144)), (3, .int s2.1), (4, .int s2.2.1)] [.int u8_0, .int s2.1, .ref (E.1 144)] (J8 u8_0) := fun u8_0 => hJ8 u8_0
      refine go_if_eq 60 td_X1_write 29 rfl rfl (q := 56) rfl (fun _ => ?_) (fun _ => ?_)
      · refine go_iconst td_X1_write 32 rfl (q := 61) rfl kc_0 ?_
        refine go_pick [0, 1, 2, 3, 4] (lv' := [(0, .ref (E.1 27)), (1, .ref (E.1 3)), (2, .ref (E.1 144)), (3, .int s2.1), (4, .int s2.2.1)]) rfl ?_
        exact kJ8 0
      · refine go_iconst td_X1_write 30 rfl (q := 57) rfl kc_1 ?_
        refine go_goto td_X1_write 31 rfl (q := 61) rfl ?_
        refine go_pick [0, 1, 2, 3, 4] (lv' := [(0, .ref (E.1 27)), (1, .ref (E.1 3)), (2, .ref (E.1 144)), (3, .int s2.1), (4, .int s2.2.1)]) rfl ?_
        exact kJ8 1
  · refine go_aload_n td_X1_write 8 rfl (q := 15) rfl 2 rfl ?_
    refine go_iload_n td_X1_write 9 rfl (q := 16) rfl 3 rfl ?_
    refine go_aload_n td_X1_write 10 rfl (q := 17) rfl 0 rfl ?_
    refine go_get td_X1_write 11 rfl (q := 20) rfl fl_X1_15 (Ac_27 E s1.2.2) rfl ?_
    refine go_iload td_X1_write 12 rfl (q := 22) rfl 4 rfl ?_
    refine go_ald td_X1_write 13 rfl (q := 23) rfl (Ac_28 E s1.2.2) (t0 := 0) rfl (fun x14 => ?_)
    refine go_ast td_X1_write 14 rfl (q := 24) rfl (Ac_144 E s1.2.2) (t0 := 0) rfl (Aas_144 E s1.2.2 _) ?_
    refine go_bvg (fun g15 => ?_)
    refine go_iinc [(3, .int (s1.1 + 1)), (0, .ref (E.1 27)), (1, .ref (E.1 3)), (2, .ref (E.1 144)), (4, .int s1.2.1)] td_X1_write 15 rfl (q := 27) rfl 3 rfl kc_1 (Nat.le_of_ble_eq_true rfl) rfl ?_
    refine go_iinc [(4, .int (s1.2.1 + 1)), (3, .int (s1.1 + 1)), (0, .ref (E.1 27)), (1, .ref (E.1 3)), (2, .ref (E.1 144))] td_X1_write 16 rfl (q := 30) rfl 4 rfl kc_1 (Nat.le_of_ble_eq_true rfl) rfl ?_
    refine go_goto td_X1_write 17 rfl (q := 5) rfl ?_
    refine go_pick [2, 3, 4, 1, 0] (lv' := [(0, .ref (E.1 27)), (1, .ref (E.1 3)), (2, .ref (E.1 144)), (3, .int (s1.1 + 1)), (4, .int (s1.2.1 + 1))]) rfl ?_
    exact krec1 (s1.1 + 1) (s1.2.1 + 1) g15
def fA_D_image (g : G) : Option (Int32 × G) := Option.bind (fA_Fleet_write g) fun x1 => bv (sS x1.2 14 x1.1) fun g2 => some (g2.1 14, g2)
set_option maxRecDepth 20000 in
set_option maxHeartbeats 4000000 in
theorem ok_fA_D_image (E : Ev)  (g : G)  : Ct (wCA E) yX11_image mi_X11_image [.ref (E.1 0)] (fun r => (some (.int r.1), r.2)) g (fA_D_image g) := by
  refine go_enter rfl rfl (Nat.le_of_ble_eq_true rfl) (lv := [(0, .ref (E.1 0))]) rfl ?_
  unfold fA_D_image
  refine go_aload_n td_X11_image 0 rfl (q := 1) rfl 0 rfl ?_
  refine go_aload_n td_X11_image 1 rfl (q := 2) rfl 0 rfl ?_
  refine go_get td_X11_image 2 rfl (q := 5) rfl fl_X11_29 (Ac_0 E g) rfl ?_
  refine go_aload_n td_X11_image 3 rfl (q := 6) rfl 0 rfl ?_
  refine go_get td_X11_image 4 rfl (q := 9) rfl fl_X11_19 (Ac_0 E g) rfl ?_
  refine go_aload_n td_X11_image 5 rfl (q := 10) rfl 0 rfl ?_
  refine go_get td_X11_image 6 rfl (q := 13) rfl fl_X11_93 (Ac_0 E g) rfl ?_
  refine go_callV td_X11_image 7 rfl (q := 16) rfl (XkA E) lk_X11_460 (ok_fA_Fleet_write E g) ⟨rfl, rfl, Nat.le_of_ble_eq_true rfl, Nat.le_of_ble_eq_true rfl⟩ rfl rfl (Nat.le_of_ble_eq_true rfl) (Ac_27 E g) rfl (fun x1 => ?_)
  show Go (wCA E) _ _ x1.2 16 _ [.int x1.1, .ref (E.1 0)] _
  refine go_put td_X11_image 8 rfl (q := 19) rfl flp_X11_100 (Ac_0 E x1.2) rfl rfl (Nat.le_of_ble_eq_true rfl) (Aps_14 E x1.2 x1.1) ?_
  refine go_bvg (fun g2 => ?_)
  refine go_aload_n td_X11_image 9 rfl (q := 20) rfl 0 rfl ?_
  refine go_get td_X11_image 10 rfl (q := 23) rfl fl_X11_100 (Ac_0 E g2) rfl ?_
  exact go_iret td_X11_image 11 rfl rfl rfl
def fA_D_octet (a1 : Int32) (g : G) : Option (Int32) := (if a1 < 0 then some (-1) else (if (g.1 14) ≤ a1 then some (-1) else ag 29 (g.2.1 144) a1 fun x1 => some x1))
set_option maxRecDepth 20000 in
set_option maxHeartbeats 4000000 in
theorem ok_fA_D_octet (E : Ev) (a1 : Int32) (g : G)  : Ct (wCA E) yX11_octet mi_X11_octet [.ref (E.1 0), .int a1] (fun r => (some (.int r), g)) g (fA_D_octet a1 g) := by
  refine go_enter rfl rfl (Nat.le_of_ble_eq_true rfl) (lv := [(0, .ref (E.1 0)), (1, .int a1)]) rfl ?_
  unfold fA_D_octet
  refine go_iload_n td_X11_octet 0 rfl (q := 1) rfl 1 rfl ?_
  refine go_if_lt 21 td_X11_octet 1 rfl rfl (q := 4) rfl (fun _ => ?_) (fun _ => ?_)
  · refine go_iconst td_X11_octet 11 rfl (q := 22) rfl kc_m1 ?_
    exact go_iret td_X11_octet 12 rfl rfl rfl
  · refine go_iload_n td_X11_octet 2 rfl (q := 5) rfl 1 rfl ?_
    refine go_aload_n td_X11_octet 3 rfl (q := 6) rfl 0 rfl ?_
    refine go_get td_X11_octet 4 rfl (q := 9) rfl fl_X11_100 (Ac_0 E g) rfl ?_
    refine go_icmp_ge 21 td_X11_octet 5 rfl rfl (q := 12) rfl (fun _ => ?_) (fun _ => ?_)
    · refine go_iconst td_X11_octet 11 rfl (q := 22) rfl kc_m1 ?_
      exact go_iret td_X11_octet 12 rfl rfl rfl
    · refine go_aload_n td_X11_octet 6 rfl (q := 13) rfl 0 rfl ?_
      refine go_get td_X11_octet 7 rfl (q := 16) rfl fl_X11_93 (Ac_0 E g) rfl ?_
      refine go_iload_n td_X11_octet 8 rfl (q := 17) rfl 1 rfl ?_
      refine go_ald td_X11_octet 9 rfl (q := 18) rfl (Ac_144 E g) (t0 := 0) rfl (fun x1 => ?_)
      refine go_goto td_X11_octet 10 rfl (q := 22) rfl ?_
      exact go_iret td_X11_octet 12 rfl rfl rfl
def fA_Fleet_checkOf (a1 : Int32) (g : G) : Option (Int32) := Lp (α := Int32 × Int32) (fun rec1 s1 => (if a1 ≤ s1.2 then some s1.1 else Option.bind (fA_Tape_byteAt s1.2 g) fun x2 => Option.bind (fA_Fleet_checkWith s1.1 x2 g) fun x3 => rec1 (x3, s1.2 + 1))) FU (167, 0)
set_option maxRecDepth 20000 in
set_option maxHeartbeats 4000000 in
theorem ok_fA_Fleet_checkOf (E : Ev) (a1 : Int32) (g : G)  : Ct (wCA E) yX1_checkOf mi_X1_checkOf [.ref (E.1 1), .int a1] (fun r => (some (.int r), g)) g (fA_Fleet_checkOf a1 g) := by
  refine go_enter rfl rfl (Nat.le_of_ble_eq_true rfl) (lv := [(0, .ref (E.1 1)), (1, .int a1)]) rfl ?_
  unfold fA_Fleet_checkOf
  refine go_sipush td_X1_checkOf 0 rfl (q := 3) rfl ks_167 ?_
  refine go_istore_n [(2, .int 167), (0, .ref (E.1 1)), (1, .int a1)] td_X1_checkOf 1 rfl (q := 4) rfl (Nat.le_of_ble_eq_true rfl) rfl ?_
  refine go_iconst td_X1_checkOf 2 rfl (q := 5) rfl kc_0 ?_
  refine go_istore_n [(3, .int 0), (2, .int 167), (0, .ref (E.1 1)), (1, .int a1)] td_X1_checkOf 3 rfl (q := 6) rfl (Nat.le_of_ble_eq_true rfl) rfl ?_
  refine go_pick [2, 3, 1, 0] (lv' := [(0, .ref (E.1 1)), (1, .int a1), (2, .int 167), (3, .int 0)]) rfl ?_
  refine (show ∀ (u1_0 : Int32) (u1_1 : Int32), Go (wCA E) _ _ g 6 [(0, .ref (E.1 1)), (1, .int a1), (2, .int u1_0), (3, .int u1_1)] [] (Lp (α := Int32 × Int32) _ FU (u1_0, u1_1)) from ?_) 167 0
  intro u1_0 u1_1
  refine go_Lp (α := Int32 × Int32) (fun s1 => g) (fun s1 => [(0, .ref (E.1 1)), (1, .int a1), (2, .int s1.1), (3, .int s1.2)]) ?_ FU (u1_0, u1_1)
  intro rec1 hrec1 s1
  have krec1 : ∀ (u1_0 : Int32) (u1_1 : Int32), Go (wCA E) _ _ g 6 [(0, .ref (E.1 1)), (1, .int a1), (2, .int u1_0), (3, .int u1_1)] [] (rec1 (u1_0, u1_1)) := fun u1_0 u1_1 => hrec1 (u1_0, u1_1)
  refine go_iload_n td_X1_checkOf 4 rfl (q := 7) rfl 3 rfl ?_
  refine go_iload_n td_X1_checkOf 5 rfl (q := 8) rfl 1 rfl ?_
  refine go_icmp_ge 27 td_X1_checkOf 6 rfl rfl (q := 11) rfl (fun _ => ?_) (fun _ => ?_)
  · refine go_iload_n td_X1_checkOf 15 rfl (q := 28) rfl 2 rfl ?_
    exact go_iret td_X1_checkOf 16 rfl rfl rfl
  · refine go_iload_n td_X1_checkOf 7 rfl (q := 12) rfl 2 rfl ?_
    refine go_aload_n td_X1_checkOf 8 rfl (q := 13) rfl 0 rfl ?_
    refine go_iload_n td_X1_checkOf 9 rfl (q := 14) rfl 3 rfl ?_
    refine go_callV td_X1_checkOf 10 rfl (q := 17) rfl (XkA E) lk_X1_71 (ok_fA_Tape_byteAt E s1.2 g) ⟨rfl, rfl, Nat.le_of_ble_eq_true rfl, Nat.le_of_ble_eq_true rfl⟩ rfl rfl (Nat.le_of_ble_eq_true rfl) (Ac_1 E g) rfl (fun x2 => ?_)
    show Go (wCA E) _ _ g 17 _ [.int x2, .int s1.1] _
    refine go_callS td_X1_checkOf 11 rfl (q := 20) rfl (XkA E) lk_X1_62 (ok_fA_Fleet_checkWith E s1.1 x2 g) ⟨rfl, rfl, Nat.le_of_ble_eq_true rfl, Nat.le_of_ble_eq_true rfl⟩ rfl rfl (Nat.le_of_ble_eq_true rfl) (fun x3 => ?_)
    show Go (wCA E) _ _ g 20 _ [.int x3] _
    refine go_istore_n [(2, .int x3), (0, .ref (E.1 1)), (1, .int a1), (3, .int s1.2)] td_X1_checkOf 12 rfl (q := 21) rfl (Nat.le_of_ble_eq_true rfl) rfl ?_
    refine go_iinc [(3, .int (s1.2 + 1)), (2, .int x3), (0, .ref (E.1 1)), (1, .int a1)] td_X1_checkOf 13 rfl (q := 24) rfl 3 rfl kc_1 (Nat.le_of_ble_eq_true rfl) rfl ?_
    refine go_goto td_X1_checkOf 14 rfl (q := 6) rfl ?_
    refine go_pick [2, 3, 1, 0] (lv' := [(0, .ref (E.1 1)), (1, .int a1), (2, .int x3), (3, .int (s1.2 + 1))]) rfl ?_
    exact krec1 x3 (s1.2 + 1)
def fA_Fleet_readCraftImage (a1 : Int32) (g : G) : Option (Int32 × G) := bv ((g.1 305) + (3 * a1)) fun x1 => Option.bind (fA_Tape_byteAt x1 g) fun x2 => lj (α := Int32) (fun b3 => bv (sS g 3100 ((g.1 3100) ||| b3)) fun g4 => Option.bind (fA_Tape_byteAt (x1 + 1) g4) fun x5 => ck 8 a1 (bv (sA g4 33 (a1 : Int32).toNatClampNeg x5) fun g6 => Option.bind (fA_Tape_byteAt (x1 + 2) g6) fun x7 => ck 8 a1 (bv (sA g6 34 (a1 : Int32).toNatClampNeg x7) fun g8 => (if 1 < x2 then some (0, g8) else ag 8 (g8.2.1 33) a1 fun x9 => Option.bind (fA_Plan_turnOf_2 a1 g8) fun x10 => (if x10 ≤ x9 then some (0, g8) else ag 8 (g8.2.1 34) a1 fun x11 => (if 12 < x11 then some (0, g8) else some (1, g8))))))) fun J3 => (if x2 = 1 then J3 ((1 : Int32) <<< (a1 &&& 31)) else J3 0)
set_option maxRecDepth 20000 in
set_option maxHeartbeats 4000000 in
theorem ok_fA_Fleet_readCraftImage (E : Ev) (a1 : Int32) (g : G)  : Ct (wCA E) yX1_readCraftImage mi_X1_readCraftImage [.ref (E.1 31), .ref (E.1 3), .ref (E.1 1), .int a1] (fun r => (some (.int r.1), r.2)) g (fA_Fleet_readCraftImage a1 g) := by
  refine go_enter rfl rfl (Nat.le_of_ble_eq_true rfl) (lv := [(0, .ref (E.1 31)), (1, .ref (E.1 3)), (2, .ref (E.1 1)), (3, .int a1)]) rfl ?_
  unfold fA_Fleet_readCraftImage
  refine go_aload_n td_X1_readCraftImage 0 rfl (q := 1) rfl 1 rfl ?_
  refine go_get td_X1_readCraftImage 1 rfl (q := 4) rfl fl_X1_55 (Ac_3 E g) rfl ?_
  refine go_iconst td_X1_readCraftImage 2 rfl (q := 5) rfl kc_3 ?_
  refine go_iload_n td_X1_readCraftImage 3 rfl (q := 6) rfl 3 rfl ?_
  refine go_imul td_X1_readCraftImage 4 rfl (q := 7) rfl ?_
  refine go_iadd td_X1_readCraftImage 5 rfl (q := 8) rfl ?_
  refine go_bvi (fun x1 => ?_)
  refine go_istore [(4, .int x1), (0, .ref (E.1 31)), (1, .ref (E.1 3)), (2, .ref (E.1 1)), (3, .int a1)] td_X1_readCraftImage 6 rfl (q := 10) rfl (Nat.le_of_ble_eq_true rfl) rfl ?_
  refine go_aload_n td_X1_readCraftImage 7 rfl (q := 11) rfl 3 rfl ?_
  refine go_iload td_X1_readCraftImage 8 rfl (q := 13) rfl 0 rfl ?_
  refine go_callV td_X1_readCraftImage 9 rfl (q := 16) rfl (XkA E) lk_X1_71 (ok_fA_Tape_byteAt E x1 g) ⟨rfl, rfl, Nat.le_of_ble_eq_true rfl, Nat.le_of_ble_eq_true rfl⟩ rfl rfl (Nat.le_of_ble_eq_true rfl) (Ac_1 E g) rfl (fun x2 => ?_)
  show Go (wCA E) _ _ g 16 _ [.int x2] _
  refine go_istore [(5, .int x2), (4, .int x1), (0, .ref (E.1 31)), (1, .ref (E.1 3)), (2, .ref (E.1 1)), (3, .int a1)] td_X1_readCraftImage 10 rfl (q := 18) rfl (Nat.le_of_ble_eq_true rfl) rfl ?_
  refine go_aload_n td_X1_readCraftImage 11 rfl (q := 19) rfl 2 rfl ?_
  refine go_dup td_X1_readCraftImage 12 rfl (q := 20) rfl rfl ?_
  refine go_get td_X1_readCraftImage 13 rfl (q := 23) rfl fl_X1_9 (Ac_31 E g) rfl ?_
  refine go_iload td_X1_readCraftImage 14 rfl (q := 25) rfl 0 rfl ?_
  refine go_iconst td_X1_readCraftImage 15 rfl (q := 26) rfl kc_1 ?_
  refine go_ljX (α := Int32) (fun b3 => [(0, .ref (E.1 31)), (1, .ref (E.1 3)), (2, .ref (E.1 1)), (3, .int a1), (4, .int x1), (5, .int x2)]) (fun b3 => [.int b3, .int (g.1 3100), .ref (E.1 31)]) (fun b3 => g) 36 ?_ ?_
  · intro b3
    refine go_ior td_X1_readCraftImage 22 rfl (q := 37) rfl ?_
    refine go_put td_X1_readCraftImage 23 rfl (q := 40) rfl flp_X1_9 (Ac_31 E g) rfl rfl (Nat.le_of_ble_eq_true rfl) (Aps_3100 E g ((g.1 3100) ||| b3)) ?_
    refine go_bvg (fun g4 => ?_)
    refine go_aload_n td_X1_readCraftImage 24 rfl (q := 41) rfl 0 rfl ?_
    refine go_get td_X1_readCraftImage 25 rfl (q := 44) rfl fl_X1_19 (Ac_31 E g4) rfl ?_
    refine go_iload_n td_X1_readCraftImage 26 rfl (q := 45) rfl 3 rfl ?_
    refine go_aload_n td_X1_readCraftImage 27 rfl (q := 46) rfl 2 rfl ?_
    refine go_iload td_X1_readCraftImage 28 rfl (q := 48) rfl 4 rfl ?_
    refine go_iconst td_X1_readCraftImage 29 rfl (q := 49) rfl kc_1 ?_
    refine go_iadd td_X1_readCraftImage 30 rfl (q := 50) rfl ?_
    refine go_callV td_X1_readCraftImage 31 rfl (q := 53) rfl (XkA E) lk_X1_71 (ok_fA_Tape_byteAt E (x1 + 1) g4) ⟨rfl, rfl, Nat.le_of_ble_eq_true rfl, Nat.le_of_ble_eq_true rfl⟩ rfl rfl (Nat.le_of_ble_eq_true rfl) (Ac_1 E g4) rfl (fun x5 => ?_)
    show Go (wCA E) _ _ g4 53 _ [.int x5, .int a1, .ref (E.1 33)] _
    refine go_ast td_X1_readCraftImage 32 rfl (q := 54) rfl (Ac_33 E g4) (t0 := 0) rfl (Aas_33 E g4 _) ?_
    refine go_bvg (fun g6 => ?_)
    refine go_aload_n td_X1_readCraftImage 33 rfl (q := 55) rfl 0 rfl ?_
    refine go_get td_X1_readCraftImage 34 rfl (q := 58) rfl fl_X1_22 (Ac_31 E g6) rfl ?_
    refine go_iload_n td_X1_readCraftImage 35 rfl (q := 59) rfl 3 rfl ?_
    refine go_aload_n td_X1_readCraftImage 36 rfl (q := 60) rfl 2 rfl ?_
    refine go_iload td_X1_readCraftImage 37 rfl (q := 62) rfl 4 rfl ?_
    refine go_iconst td_X1_readCraftImage 38 rfl (q := 63) rfl kc_2 ?_
    refine go_iadd td_X1_readCraftImage 39 rfl (q := 64) rfl ?_
    refine go_callV td_X1_readCraftImage 40 rfl (q := 67) rfl (XkA E) lk_X1_71 (ok_fA_Tape_byteAt E (x1 + 2) g6) ⟨rfl, rfl, Nat.le_of_ble_eq_true rfl, Nat.le_of_ble_eq_true rfl⟩ rfl rfl (Nat.le_of_ble_eq_true rfl) (Ac_1 E g6) rfl (fun x7 => ?_)
    show Go (wCA E) _ _ g6 67 _ [.int x7, .int a1, .ref (E.1 34)] _
    refine go_ast td_X1_readCraftImage 41 rfl (q := 68) rfl (Ac_34 E g6) (t0 := 0) rfl (Aas_34 E g6 _) ?_
    refine go_bvg (fun g8 => ?_)
    refine go_iload td_X1_readCraftImage 42 rfl (q := 70) rfl 5 rfl ?_
    refine go_iconst td_X1_readCraftImage 43 rfl (q := 71) rfl kc_1 ?_
    refine go_icmp_gt 103 td_X1_readCraftImage 44 rfl rfl (q := 74) rfl (fun _ => ?_) (fun _ => ?_)
    · refine go_iconst td_X1_readCraftImage 61 rfl (q := 104) rfl kc_0 ?_
      exact go_zret td_X1_readCraftImage 62 rfl rfl rfl rfl
    · refine go_aload_n td_X1_readCraftImage 45 rfl (q := 75) rfl 0 rfl ?_
      refine go_get td_X1_readCraftImage 46 rfl (q := 78) rfl fl_X1_19 (Ac_31 E g8) rfl ?_
      refine go_iload_n td_X1_readCraftImage 47 rfl (q := 79) rfl 3 rfl ?_
      refine go_ald td_X1_readCraftImage 48 rfl (q := 80) rfl (Ac_33 E g8) (t0 := 0) rfl (fun x9 => ?_)
      refine go_aload_n td_X1_readCraftImage 49 rfl (q := 81) rfl 1 rfl ?_
      refine go_iload_n td_X1_readCraftImage 50 rfl (q := 82) rfl 3 rfl ?_
      refine go_callV td_X1_readCraftImage 51 rfl (q := 85) rfl (XkA E) lk_X1_85 (ok_fA_Plan_turnOf_2 E a1 g8) ⟨rfl, rfl, Nat.le_of_ble_eq_true rfl, Nat.le_of_ble_eq_true rfl⟩ rfl rfl (Nat.le_of_ble_eq_true rfl) (Ac_3 E g8) rfl (fun x10 => ?_)
      show Go (wCA E) _ _ g8 85 _ [.int x10, .int x9] _
      refine go_icmp_ge 103 td_X1_readCraftImage 52 rfl rfl (q := 88) rfl (fun _ => ?_) (fun _ => ?_)
      · refine go_iconst td_X1_readCraftImage 61 rfl (q := 104) rfl kc_0 ?_
        exact go_zret td_X1_readCraftImage 62 rfl rfl rfl rfl
      · refine go_aload_n td_X1_readCraftImage 53 rfl (q := 89) rfl 0 rfl ?_
        refine go_get td_X1_readCraftImage 54 rfl (q := 92) rfl fl_X1_22 (Ac_31 E g8) rfl ?_
        refine go_iload_n td_X1_readCraftImage 55 rfl (q := 93) rfl 3 rfl ?_
        refine go_ald td_X1_readCraftImage 56 rfl (q := 94) rfl (Ac_34 E g8) (t0 := 0) rfl (fun x11 => ?_)
        refine go_bipush td_X1_readCraftImage 57 rfl (q := 96) rfl kb_12 ?_
        refine go_icmp_gt 103 td_X1_readCraftImage 58 rfl rfl (q := 99) rfl (fun _ => ?_) (fun _ => ?_)
        · refine go_iconst td_X1_readCraftImage 61 rfl (q := 104) rfl kc_0 ?_
          exact go_zret td_X1_readCraftImage 62 rfl rfl rfl rfl
        · refine go_iconst td_X1_readCraftImage 59 rfl (q := 100) rfl kc_1 ?_
          refine go_goto td_X1_readCraftImage 60 rfl (q := 104) rfl ?_
          exact go_zret td_X1_readCraftImage 62 rfl rfl rfl rfl
  intro J3 hJ3
  have kJ3 : ∀ (u3_0 : Int32), Go (wCA E) _ _ g 36 [(0, .ref (E.1 31)), (1, .ref (E.1 3)), (2, .ref (E.1 1)), (3, .int a1), (4, .int x1), (5, .int x2)] [.int u3_0, .int (g.1 3100), .ref (E.1 31)] (J3 u3_0) := fun u3_0 => hJ3 u3_0
  refine go_icmp_ne 35 td_X1_readCraftImage 16 rfl rfl (q := 29) rfl (fun _ => ?_) (fun _ => ?_)
  · refine go_iconst td_X1_readCraftImage 21 rfl (q := 36) rfl kc_0 ?_
    refine go_pick [2, 3, 4, 5, 1, 0] (lv' := [(0, .ref (E.1 31)), (1, .ref (E.1 3)), (2, .ref (E.1 1)), (3, .int a1), (4, .int x1), (5, .int x2)]) rfl ?_
    exact kJ3 0
  · refine go_iconst td_X1_readCraftImage 17 rfl (q := 30) rfl kc_1 ?_
    refine go_iload_n td_X1_readCraftImage 18 rfl (q := 31) rfl 5 rfl ?_
    refine go_ishl td_X1_readCraftImage 19 rfl (q := 32) rfl ?_
    refine go_goto td_X1_readCraftImage 20 rfl (q := 36) rfl ?_
    refine go_pick [2, 3, 4, 5, 1, 0] (lv' := [(0, .ref (E.1 31)), (1, .ref (E.1 3)), (2, .ref (E.1 1)), (3, .int a1), (4, .int x1), (5, .int x2)]) rfl ?_
    exact kJ3 ((1 : Int32) <<< (a1 &&& 31))
def fA_Fleet_readImage (g : G) : Option (Int32 × G) := bv ((g.1 305) + (3 * (g.1 306))) fun x1 => Option.bind (fA_Tape_size g) fun x2 => (if x2 = (x1 + 1) then Option.bind (fA_Tape_byteAt x1 g) fun x3 => Option.bind (fA_Fleet_checkOf x1 g) fun x4 => (if x3 = x4 then Lp (α := Int32 × G) (fun rec5 s5 => (if (s5.2.1 305) ≤ s5.1 then bv (sS s5.2 3100 0) fun g6 => Lp (α := Int32 × G) (fun rec7 s7 => (if (s7.2.1 306) ≤ s7.1 then some (1, s7.2) else Option.bind (fA_Fleet_readCraftImage s7.1 s7.2) fun x8 => (if x8.1 = 0 then some (0, x8.2) else rec7 (s7.1 + 1, x8.2)))) FU (0, g6) else Option.bind (fA_Tape_byteAt s5.1 s5.2) fun x9 => ck 4 s5.1 (bv (sA s5.2 32 (s5.1 : Int32).toNatClampNeg x9) fun g10 => ag 4 (g10.2.1 32) s5.1 fun x11 => (if x11 < (g10.1 300) then rec5 (s5.1 + 1, g10) else some (0, g10))))) FU (0, g) else some (0, g)) else some (0, g))
set_option maxRecDepth 20000 in
set_option maxHeartbeats 4000000 in
theorem ok_fA_Fleet_readImage (E : Ev)  (g : G)  : Ct (wCA E) yX1_readImage mi_X1_readImage [.ref (E.1 31), .ref (E.1 3), .ref (E.1 1)] (fun r => (some (.int r.1), r.2)) g (fA_Fleet_readImage g) := by
  refine go_enter rfl rfl (Nat.le_of_ble_eq_true rfl) (lv := [(0, .ref (E.1 31)), (1, .ref (E.1 3)), (2, .ref (E.1 1))]) rfl ?_
  unfold fA_Fleet_readImage
  refine go_aload_n td_X1_readImage 0 rfl (q := 1) rfl 1 rfl ?_
  refine go_get td_X1_readImage 1 rfl (q := 4) rfl fl_X1_55 (Ac_3 E g) rfl ?_
  refine go_iconst td_X1_readImage 2 rfl (q := 5) rfl kc_3 ?_
  refine go_aload_n td_X1_readImage 3 rfl (q := 6) rfl 1 rfl ?_
  refine go_get td_X1_readImage 4 rfl (q := 9) rfl fl_X1_45 (Ac_3 E g) rfl ?_
  refine go_imul td_X1_readImage 5 rfl (q := 10) rfl ?_
  refine go_iadd td_X1_readImage 6 rfl (q := 11) rfl ?_
  refine go_bvi (fun x1 => ?_)
  refine go_istore_n [(3, .int x1), (0, .ref (E.1 31)), (1, .ref (E.1 3)), (2, .ref (E.1 1))] td_X1_readImage 7 rfl (q := 12) rfl (Nat.le_of_ble_eq_true rfl) rfl ?_
  refine go_aload_n td_X1_readImage 8 rfl (q := 13) rfl 3 rfl ?_
  refine go_callV td_X1_readImage 9 rfl (q := 16) rfl (XkA E) lk_X1_65 (ok_fA_Tape_size E g) ⟨rfl, rfl, Nat.le_of_ble_eq_true rfl, Nat.le_of_ble_eq_true rfl⟩ rfl rfl (Nat.le_of_ble_eq_true rfl) (Ac_1 E g) rfl (fun x2 => ?_)
  show Go (wCA E) _ _ g 16 _ [.int x2] _
  refine go_iload_n td_X1_readImage 10 rfl (q := 17) rfl 0 rfl ?_
  refine go_iconst td_X1_readImage 11 rfl (q := 18) rfl kc_1 ?_
  refine go_iadd td_X1_readImage 12 rfl (q := 19) rfl ?_
  refine go_icmp_ne 35 td_X1_readImage 13 rfl rfl (q := 22) rfl (fun _ => ?_) (fun _ => ?_)
  · refine go_iconst td_X1_readImage 21 rfl (q := 36) rfl kc_0 ?_
    exact go_zret td_X1_readImage 22 rfl rfl rfl rfl
  · refine go_aload_n td_X1_readImage 14 rfl (q := 23) rfl 3 rfl ?_
    refine go_iload_n td_X1_readImage 15 rfl (q := 24) rfl 0 rfl ?_
    refine go_callV td_X1_readImage 16 rfl (q := 27) rfl (XkA E) lk_X1_71 (ok_fA_Tape_byteAt E x1 g) ⟨rfl, rfl, Nat.le_of_ble_eq_true rfl, Nat.le_of_ble_eq_true rfl⟩ rfl rfl (Nat.le_of_ble_eq_true rfl) (Ac_1 E g) rfl (fun x3 => ?_)
    show Go (wCA E) _ _ g 27 _ [.int x3] _
    refine go_aload_n td_X1_readImage 17 rfl (q := 28) rfl 3 rfl ?_
    refine go_iload_n td_X1_readImage 18 rfl (q := 29) rfl 0 rfl ?_
    refine go_callS td_X1_readImage 19 rfl (q := 32) rfl (XkA E) lk_X1_74 (ok_fA_Fleet_checkOf E x1 g) ⟨rfl, rfl, Nat.le_of_ble_eq_true rfl, Nat.le_of_ble_eq_true rfl⟩ rfl rfl (Nat.le_of_ble_eq_true rfl) (fun x4 => ?_)
    show Go (wCA E) _ _ g 32 _ [.int x4, .int x3] _
    refine go_icmp_eq 37 td_X1_readImage 20 rfl rfl (q := 35) rfl (fun _ => ?_) (fun _ => ?_)
    · refine go_iconst td_X1_readImage 23 rfl (q := 38) rfl kc_0 ?_
      refine go_istore [(4, .int 0), (3, .int x1), (0, .ref (E.1 31)), (1, .ref (E.1 3)), (2, .ref (E.1 1))] td_X1_readImage 24 rfl (q := 40) rfl (Nat.le_of_ble_eq_true rfl) rfl ?_
      refine go_pick [2, 3, 4, 0] (lv' := [(0, .ref (E.1 31)), (1, .ref (E.1 3)), (2, .ref (E.1 1)), (4, .int 0)]) rfl ?_
      refine (show ∀ (u5_0 : Int32) (u5_1 : G), Go (wCA E) _ _ u5_1 40 [(0, .ref (E.1 31)), (1, .ref (E.1 3)), (2, .ref (E.1 1)), (4, .int u5_0)] [] (Lp (α := Int32 × G) _ FU (u5_0, u5_1)) from ?_) 0 g
      intro u5_0 u5_1
      refine go_Lp (α := Int32 × G) (fun s5 => s5.2) (fun s5 => [(0, .ref (E.1 31)), (1, .ref (E.1 3)), (2, .ref (E.1 1)), (4, .int s5.1)]) ?_ FU (u5_0, u5_1)
      intro rec5 hrec5 s5
      have krec5 : ∀ (u5_0 : Int32) (u5_1 : G), Go (wCA E) _ _ u5_1 40 [(0, .ref (E.1 31)), (1, .ref (E.1 3)), (2, .ref (E.1 1)), (4, .int u5_0)] [] (rec5 (u5_0, u5_1)) := fun u5_0 u5_1 => hrec5 (u5_0, u5_1)
      refine go_iload td_X1_readImage 25 rfl (q := 42) rfl 3 rfl ?_
      refine go_aload_n td_X1_readImage 26 rfl (q := 43) rfl 1 rfl ?_
      refine go_get td_X1_readImage 27 rfl (q := 46) rfl fl_X1_55 (Ac_3 E s5.2) rfl ?_
      refine go_icmp_ge 84 td_X1_readImage 28 rfl rfl (q := 49) rfl (fun _ => ?_) (fun _ => ?_)
      · refine go_aload_n td_X1_readImage 47 rfl (q := 85) rfl 0 rfl ?_
        refine go_iconst td_X1_readImage 48 rfl (q := 86) rfl kc_0 ?_
        refine go_put td_X1_readImage 49 rfl (q := 89) rfl flp_X1_9 (Ac_31 E s5.2) rfl rfl (Nat.le_of_ble_eq_true rfl) (Aps_3100 E s5.2 0) ?_
        refine go_bvg (fun g6 => ?_)
        refine go_iconst td_X1_readImage 50 rfl (q := 90) rfl kc_0 ?_
        refine go_istore [(4, .int 0), (0, .ref (E.1 31)), (1, .ref (E.1 3)), (2, .ref (E.1 1))] td_X1_readImage 51 rfl (q := 92) rfl (Nat.le_of_ble_eq_true rfl) rfl ?_
        refine go_pick [1, 2, 3, 0] (lv' := [(0, .ref (E.1 31)), (1, .ref (E.1 3)), (2, .ref (E.1 1)), (4, .int 0)]) rfl ?_
        refine (show ∀ (u7_0 : Int32) (u7_1 : G), Go (wCA E) _ _ u7_1 92 [(0, .ref (E.1 31)), (1, .ref (E.1 3)), (2, .ref (E.1 1)), (4, .int u7_0)] [] (Lp (α := Int32 × G) _ FU (u7_0, u7_1)) from ?_) 0 g6
        intro u7_0 u7_1
        refine go_Lp (α := Int32 × G) (fun s7 => s7.2) (fun s7 => [(0, .ref (E.1 31)), (1, .ref (E.1 3)), (2, .ref (E.1 1)), (4, .int s7.1)]) ?_ FU (u7_0, u7_1)
        intro rec7 hrec7 s7
        have krec7 : ∀ (u7_0 : Int32) (u7_1 : G), Go (wCA E) _ _ u7_1 92 [(0, .ref (E.1 31)), (1, .ref (E.1 3)), (2, .ref (E.1 1)), (4, .int u7_0)] [] (rec7 (u7_0, u7_1)) := fun u7_0 u7_1 => hrec7 (u7_0, u7_1)
        refine go_iload td_X1_readImage 52 rfl (q := 94) rfl 3 rfl ?_
        refine go_aload_n td_X1_readImage 53 rfl (q := 95) rfl 1 rfl ?_
        refine go_get td_X1_readImage 54 rfl (q := 98) rfl fl_X1_45 (Ac_3 E s7.2) rfl ?_
        refine go_icmp_ge 120 td_X1_readImage 55 rfl rfl (q := 101) rfl (fun _ => ?_) (fun _ => ?_)
        · refine go_iconst td_X1_readImage 66 rfl (q := 121) rfl kc_1 ?_
          exact go_zret td_X1_readImage 67 rfl rfl rfl rfl
        · refine go_aload_n td_X1_readImage 56 rfl (q := 102) rfl 0 rfl ?_
          refine go_aload_n td_X1_readImage 57 rfl (q := 103) rfl 1 rfl ?_
          refine go_aload_n td_X1_readImage 58 rfl (q := 104) rfl 2 rfl ?_
          refine go_iload td_X1_readImage 59 rfl (q := 106) rfl 3 rfl ?_
          refine go_callV td_X1_readImage 60 rfl (q := 109) rfl (XkA E) lk_X1_81 (ok_fA_Fleet_readCraftImage E s7.1 s7.2) ⟨rfl, rfl, Nat.le_of_ble_eq_true rfl, Nat.le_of_ble_eq_true rfl⟩ rfl rfl (Nat.le_of_ble_eq_true rfl) (Ac_31 E s7.2) rfl (fun x8 => ?_)
          show Go (wCA E) _ _ x8.2 109 _ [.int x8.1] _
          refine go_if_ne 114 td_X1_readImage 61 rfl rfl (q := 112) rfl (fun _ => ?_) (fun _ => ?_)
          · refine go_iinc [(4, .int (s7.1 + 1)), (0, .ref (E.1 31)), (1, .ref (E.1 3)), (2, .ref (E.1 1))] td_X1_readImage 64 rfl (q := 117) rfl 3 rfl kc_1 (Nat.le_of_ble_eq_true rfl) rfl ?_
            refine go_goto td_X1_readImage 65 rfl (q := 92) rfl ?_
            refine go_pick [1, 2, 3, 0] (lv' := [(0, .ref (E.1 31)), (1, .ref (E.1 3)), (2, .ref (E.1 1)), (4, .int (s7.1 + 1))]) rfl ?_
            exact krec7 (s7.1 + 1) x8.2
          · refine go_iconst td_X1_readImage 62 rfl (q := 113) rfl kc_0 ?_
            exact go_zret td_X1_readImage 63 rfl rfl rfl rfl
      · refine go_aload_n td_X1_readImage 29 rfl (q := 50) rfl 0 rfl ?_
        refine go_get td_X1_readImage 30 rfl (q := 53) rfl fl_X1_15 (Ac_31 E s5.2) rfl ?_
        refine go_iload td_X1_readImage 31 rfl (q := 55) rfl 3 rfl ?_
        refine go_aload_n td_X1_readImage 32 rfl (q := 56) rfl 2 rfl ?_
        refine go_iload td_X1_readImage 33 rfl (q := 58) rfl 3 rfl ?_
        refine go_callV td_X1_readImage 34 rfl (q := 61) rfl (XkA E) lk_X1_71 (ok_fA_Tape_byteAt E s5.1 s5.2) ⟨rfl, rfl, Nat.le_of_ble_eq_true rfl, Nat.le_of_ble_eq_true rfl⟩ rfl rfl (Nat.le_of_ble_eq_true rfl) (Ac_1 E s5.2) rfl (fun x9 => ?_)
        show Go (wCA E) _ _ s5.2 61 _ [.int x9, .int s5.1, .ref (E.1 32)] _
        refine go_ast td_X1_readImage 35 rfl (q := 62) rfl (Ac_32 E s5.2) (t0 := 0) rfl (Aas_32 E s5.2 _) ?_
        refine go_bvg (fun g10 => ?_)
        refine go_aload_n td_X1_readImage 36 rfl (q := 63) rfl 0 rfl ?_
        refine go_get td_X1_readImage 37 rfl (q := 66) rfl fl_X1_15 (Ac_31 E g10) rfl ?_
        refine go_iload td_X1_readImage 38 rfl (q := 68) rfl 3 rfl ?_
        refine go_ald td_X1_readImage 39 rfl (q := 69) rfl (Ac_32 E g10) (t0 := 0) rfl (fun x11 => ?_)
        refine go_aload_n td_X1_readImage 40 rfl (q := 70) rfl 1 rfl ?_
        refine go_get td_X1_readImage 41 rfl (q := 73) rfl fl_X1_78 (Ac_3 E g10) rfl ?_
        refine go_icmp_lt 78 td_X1_readImage 42 rfl rfl (q := 76) rfl (fun _ => ?_) (fun _ => ?_)
        · refine go_iinc [(4, .int (s5.1 + 1)), (0, .ref (E.1 31)), (1, .ref (E.1 3)), (2, .ref (E.1 1))] td_X1_readImage 45 rfl (q := 81) rfl 3 rfl kc_1 (Nat.le_of_ble_eq_true rfl) rfl ?_
          refine go_goto td_X1_readImage 46 rfl (q := 40) rfl ?_
          refine go_pick [1, 2, 3, 0] (lv' := [(0, .ref (E.1 31)), (1, .ref (E.1 3)), (2, .ref (E.1 1)), (4, .int (s5.1 + 1))]) rfl ?_
          exact krec5 (s5.1 + 1) g10
        · refine go_iconst td_X1_readImage 43 rfl (q := 77) rfl kc_0 ?_
          exact go_zret td_X1_readImage 44 rfl rfl rfl rfl
    · refine go_iconst td_X1_readImage 21 rfl (q := 36) rfl kc_0 ?_
      exact go_zret td_X1_readImage 22 rfl rfl rfl rfl
def fA_D_on (g : G) : Option (Int32 × G) := Option.bind (fA_Plan_stands g) fun x1 => lj (α := Int32 × G) (fun b2 => Option.bind (fA_Tape_cutTo 0 b2.2) fun x3 => (if b2.1 = 0 then Option.bind (fA_D_refused 5 x3) fun x7 => bt x7.1 (some (x7.1, x7.2)) else Option.bind (fA_Fleet_take x3) fun x4 => Option.bind (fA_History_forget x4) fun x5 => bv (sS x5 18 0) fun g6 => some (1, g6))) fun J2 => lj (α := G) (fun b8 => J2 (0, b8)) fun J8 => (if x1 = 0 then J8 g else Option.bind (fA_Fleet_readImage g) fun x9 => (if x9.1 = 0 then J8 x9.2 else J2 (1, x9.2)))
set_option maxRecDepth 20000 in
set_option maxHeartbeats 4000000 in
theorem ok_fA_D_on (E : Ev)  (g : G)  : Ct (wCA E) yX11_on mi_X11_on [.ref (E.1 0)] (fun r => (some (.int r.1), r.2)) g (fA_D_on g) := by
  refine go_enter rfl rfl (Nat.le_of_ble_eq_true rfl) (lv := [(0, .ref (E.1 0))]) rfl ?_
  unfold fA_D_on
  refine go_aload_n td_X11_on 0 rfl (q := 1) rfl 0 rfl ?_
  refine go_get td_X11_on 1 rfl (q := 4) rfl fl_X11_19 (Ac_0 E g) rfl ?_
  refine go_callV td_X11_on 2 rfl (q := 7) rfl (XkA E) lk_X11_334 (ok_fA_Plan_stands E g) ⟨rfl, rfl, Nat.le_of_ble_eq_true rfl, Nat.le_of_ble_eq_true rfl⟩ rfl rfl (Nat.le_of_ble_eq_true rfl) (Ac_3 E g) rfl (fun x1 => ?_)
  show Go (wCA E) _ _ g 7 _ [.int x1] _
  refine go_ljX (α := Int32 × G) (fun b2 => [(0, .ref (E.1 0))]) (fun b2 => [.int b2.1]) (fun b2 => b2.2) 33 ?_ ?_
  · intro b2
    refine go_istore_n [(1, .int b2.1), (0, .ref (E.1 0))] td_X11_on 15 rfl (q := 34) rfl (Nat.le_of_ble_eq_true rfl) rfl ?_
    refine go_aload_n td_X11_on 16 rfl (q := 35) rfl 1 rfl ?_
    refine go_get td_X11_on 17 rfl (q := 38) rfl fl_X11_12 (Ac_0 E b2.2) rfl ?_
    refine go_iconst td_X11_on 18 rfl (q := 39) rfl kc_0 ?_
    refine go_callV td_X11_on 19 rfl (q := 42) rfl (XkA E) lk_X11_134 (ok_fA_Tape_cutTo E 0 b2.2) ⟨rfl, rfl, Nat.le_of_ble_eq_true rfl, Nat.le_of_ble_eq_true rfl⟩ rfl rfl (Nat.le_of_ble_eq_true rfl) (Ac_1 E b2.2) rfl (fun x3 => ?_)
    show Go (wCA E) _ _ x3 42 _ [] _
    refine go_iload_n td_X11_on 20 rfl (q := 43) rfl 0 rfl ?_
    refine go_if_ne 52 td_X11_on 21 rfl rfl (q := 46) rfl (fun _ => ?_) (fun _ => ?_)
    · refine go_aload_n td_X11_on 26 rfl (q := 53) rfl 1 rfl ?_
      refine go_get td_X11_on 27 rfl (q := 56) rfl fl_X11_29 (Ac_0 E x3) rfl ?_
      refine go_aload_n td_X11_on 28 rfl (q := 57) rfl 1 rfl ?_
      refine go_get td_X11_on 29 rfl (q := 60) rfl fl_X11_33 (Ac_0 E x3) rfl ?_
      refine go_callV td_X11_on 30 rfl (q := 63) rfl (XkA E) lk_X11_150 (ok_fA_Fleet_take E x3) ⟨rfl, rfl, Nat.le_of_ble_eq_true rfl, Nat.le_of_ble_eq_true rfl⟩ rfl rfl (Nat.le_of_ble_eq_true rfl) (Ac_27 E x3) rfl (fun x4 => ?_)
      show Go (wCA E) _ _ x4 63 _ [] _
      refine go_aload_n td_X11_on 31 rfl (q := 64) rfl 1 rfl ?_
      refine go_get td_X11_on 32 rfl (q := 67) rfl fl_X11_48 (Ac_0 E x4) rfl ?_
      refine go_callV td_X11_on 33 rfl (q := 70) rfl (XkA E) lk_X11_156 (ok_fA_History_forget E x4) ⟨rfl, rfl, Nat.le_of_ble_eq_true rfl, Nat.le_of_ble_eq_true rfl⟩ rfl rfl (Nat.le_of_ble_eq_true rfl) (Ac_36 E x4) rfl (fun x5 => ?_)
      show Go (wCA E) _ _ x5 70 _ [] _
      refine go_aload_n td_X11_on 34 rfl (q := 71) rfl 1 rfl ?_
      refine go_iconst td_X11_on 35 rfl (q := 72) rfl kc_0 ?_
      refine go_put td_X11_on 36 rfl (q := 75) rfl flp_X11_114 (Ac_0 E x5) rfl rfl (Nat.le_of_ble_eq_true rfl) (Aps_18 E x5 0) ?_
      refine go_bvg (fun g6 => ?_)
      refine go_iconst td_X11_on 37 rfl (q := 76) rfl kc_1 ?_
      exact go_zret td_X11_on 38 rfl rfl rfl rfl
    · refine go_aload_n td_X11_on 22 rfl (q := 47) rfl 1 rfl ?_
      refine go_iconst td_X11_on 23 rfl (q := 48) rfl kc_5 ?_
      refine go_callV td_X11_on 24 rfl (q := 51) rfl (XkA E) lk_X11_130 (ok_fA_D_refused E 5 x3) ⟨rfl, rfl, Nat.le_of_ble_eq_true rfl, Nat.le_of_ble_eq_true rfl⟩ rfl rfl (Nat.le_of_ble_eq_true rfl) (Ac_0 E x3) rfl (fun x7 => ?_)
      show Go (wCA E) _ _ x7.2 51 _ [.int x7.1] _
      exact go_zretb td_X11_on 25 rfl rfl rfl
  intro J2 hJ2
  have kJ2 : ∀ (u2_0 : Int32) (u2_1 : G), Go (wCA E) _ _ u2_1 33 [(0, .ref (E.1 0))] [.int u2_0] (J2 (u2_0, u2_1)) := fun u2_0 u2_1 => hJ2 (u2_0, u2_1)
  refine go_ljX (α := G) (fun b8 => [(0, .ref (E.1 0))]) (fun b8 => []) (fun b8 => b8) 32 ?_ ?_
  · intro b8
    refine go_iconst td_X11_on 14 rfl (q := 33) rfl kc_0 ?_
    refine go_pick [0] (lv' := [(0, .ref (E.1 0))]) rfl ?_
    exact kJ2 0 b8
  intro J8 hJ8
  have kJ8 : ∀ (u8_0 : G), Go (wCA E) _ _ u8_0 32 [(0, .ref (E.1 0))] [] (J8 u8_0) := fun u8_0 => hJ8 u8_0
  refine go_if_eq 32 td_X11_on 3 rfl rfl (q := 10) rfl (fun _ => ?_) (fun _ => ?_)
  · refine go_pick [0] (lv' := [(0, .ref (E.1 0))]) rfl ?_
    exact kJ8 g
  · refine go_aload_n td_X11_on 4 rfl (q := 11) rfl 0 rfl ?_
    refine go_get td_X11_on 5 rfl (q := 14) rfl fl_X11_33 (Ac_0 E g) rfl ?_
    refine go_aload_n td_X11_on 6 rfl (q := 15) rfl 0 rfl ?_
    refine go_get td_X11_on 7 rfl (q := 18) rfl fl_X11_19 (Ac_0 E g) rfl ?_
    refine go_aload_n td_X11_on 8 rfl (q := 19) rfl 0 rfl ?_
    refine go_get td_X11_on 9 rfl (q := 22) rfl fl_X11_12 (Ac_0 E g) rfl ?_
    refine go_callV td_X11_on 10 rfl (q := 25) rfl (XkA E) lk_X11_464 (ok_fA_Fleet_readImage E g) ⟨rfl, rfl, Nat.le_of_ble_eq_true rfl, Nat.le_of_ble_eq_true rfl⟩ rfl rfl (Nat.le_of_ble_eq_true rfl) (Ac_31 E g) rfl (fun x9 => ?_)
    show Go (wCA E) _ _ x9.2 25 _ [.int x9.1] _
    refine go_if_eq 32 td_X11_on 11 rfl rfl (q := 28) rfl (fun _ => ?_) (fun _ => ?_)
    · refine go_pick [0] (lv' := [(0, .ref (E.1 0))]) rfl ?_
      exact kJ8 x9.2
    · refine go_iconst td_X11_on 12 rfl (q := 29) rfl kc_1 ?_
      refine go_goto td_X11_on 13 rfl (q := 33) rfl ?_
      refine go_pick [0] (lv' := [(0, .ref (E.1 0))]) rfl ?_
      exact kJ2 1 x9.2
def fA_D_status (a1 : Int32) (g : G) : Option (Int32) := (if a1 < 0 then some (-1) else (if 6 ≤ a1 then some (-1) else ag 6 (g.2.1 145) a1 fun x1 => some x1))
set_option maxRecDepth 20000 in
set_option maxHeartbeats 4000000 in
theorem ok_fA_D_status (E : Ev) (a1 : Int32) (g : G)  : Ct (wCA E) yX11_status mi_X11_status [.ref (E.1 0), .int a1] (fun r => (some (.int r), g)) g (fA_D_status a1 g) := by
  refine go_enter rfl rfl (Nat.le_of_ble_eq_true rfl) (lv := [(0, .ref (E.1 0)), (1, .int a1)]) rfl ?_
  unfold fA_D_status
  refine go_iload_n td_X11_status 0 rfl (q := 1) rfl 1 rfl ?_
  refine go_if_lt 22 td_X11_status 1 rfl rfl (q := 4) rfl (fun _ => ?_) (fun _ => ?_)
  · refine go_iconst td_X11_status 12 rfl (q := 23) rfl kc_m1 ?_
    exact go_iret td_X11_status 13 rfl rfl rfl
  · refine go_iload_n td_X11_status 2 rfl (q := 5) rfl 1 rfl ?_
    refine go_aload_n td_X11_status 3 rfl (q := 6) rfl 0 rfl ?_
    refine go_get td_X11_status 4 rfl (q := 9) rfl fl_X11_97 (Ac_0 E g) rfl ?_
    refine go_alen (v := 6) td_X11_status 5 rfl (q := 10) rfl (Ac_145 E g) (t0 := 0) rfl rfl ?_
    refine go_icmp_ge 22 td_X11_status 6 rfl rfl (q := 13) rfl (fun _ => ?_) (fun _ => ?_)
    · refine go_iconst td_X11_status 12 rfl (q := 23) rfl kc_m1 ?_
      exact go_iret td_X11_status 13 rfl rfl rfl
    · refine go_aload_n td_X11_status 7 rfl (q := 14) rfl 0 rfl ?_
      refine go_get td_X11_status 8 rfl (q := 17) rfl fl_X11_97 (Ac_0 E g) rfl ?_
      refine go_iload_n td_X11_status 9 rfl (q := 18) rfl 1 rfl ?_
      refine go_ald td_X11_status 10 rfl (q := 19) rfl (Ac_145 E g) (t0 := 0) rfl (fun x1 => ?_)
      refine go_goto td_X11_status 11 rfl (q := 23) rfl ?_
      exact go_iret td_X11_status 13 rfl rfl rfl
