def tbL_e : List (Nat × ClassFile.Instr × Nat) := [(0, .new 7, 3), (3, .dup, 1), (4, .invokespecial 9, 3), (7, .astore_n 1, 1), (8, .new 10, 3), (11, .dup, 1), (12, .invokespecial 12, 3), (15, .astore_n 2, 1), (16, .iconst 0, 1), (17, .istore_n 3, 1)]
theorem tdL_e : AllDec code tbL_e := by unfold AllDec; decide +kernel
theorem lbL_D : LkB yX11_init mi_X11_init 0 ∧ mi_X11_init.2.2.2.2 = none ∧ yX11_init.name = "<init>" ∧ Cond.instanceMethod yX11_init ∈ Wt := ⟨⟨Wt_of (tk_1 _ (List.mem_of_getElem? (i := 27) rfl)) rfl, Wt_of (tk_1 _ (List.mem_of_getElem? (i := 1) rfl)) rfl, by decide, by decide, by decide +kernel⟩, rfl, rfl, Wt_of (tk_1 _ (List.mem_of_getElem? (i := 26) rfl)) rfl⟩
theorem lkL_D : Cond.methodLink R_law 9 yX11_init ∈ Wt := Wt_of (tk_1 _ (List.mem_of_getElem? (i := 25) rfl)) rfl
theorem lbL_M : LkB yX12_init mi_X12_init 0 ∧ mi_X12_init.2.2.2.2 = none ∧ yX12_init.name = "<init>" ∧ Cond.instanceMethod yX12_init ∈ Wt := ⟨⟨Wt_of (tk_6 _ (List.mem_of_getElem? (i := 176) rfl)) rfl, Wt_of (tk_1 _ (List.mem_of_getElem? (i := 12) rfl)) rfl, by decide, by decide, by decide +kernel⟩, rfl, rfl, Wt_of (tk_6 _ (List.mem_of_getElem? (i := 175) rfl)) rfl⟩
theorem lkL_M : Cond.methodLink R_law 12 yX12_init ∈ Wt := Wt_of (tk_6 _ (List.mem_of_getElem? (i := 174) rfl)) rfl
set_option maxRecDepth 20000 in
theorem lenD (Z : Zt) (β : Nat) : (tN_D Z β).length = 146 := rfl
theorem lenM (Z : Zt) (β : Nat) : (tN_M Z β).length = 30 := rfl
theorem dfD : ∀ j, j < 19 → defaultValue (tyX11 j) = vp_V [.null, .null, .null, .null, .null, .null, .null, .null, .null, .null, .null, .null, .null, .null, .int 0, .int 0, .int 0, .long 0, .int 0] j := by decide +kernel
theorem dfM : ∀ j, j < 65 → defaultValue (tyX12 j) = vp_V [.int 0, .int 0, .int 0, .int 0, .int 0, .int 0, .int 0, .int 0, .int 0, .int 0, .null, .null, .null, .null, .null, .null, .null, .null, .int 0, .int 0, .int 0, .int 0, .int 0, .int 0, .null, .null, .null, .null, .null, .null, .null, .null, .null, .int 0, .null, .int 0, .int 0, .int 0, .int 0, .int 0, .int 0, .int 0, .null, .null, .null, .int 0, .null, .int 0, .null, .null, .int 0, .int 0, .int 0, .int 0, .float 0, .null, .int 0, .int 0, .int 0, .null, .null, .null, .int 0, .null, .int 0] j := by decide +kernel
set_option maxHeartbeats 4000000 in
set_option maxRecDepth 20000 in
theorem start_of (hf : ∀ (L : Nat) (xs : Nat → Int32), L ≤ 3072 → fL L xs gA0 gB0 = some ()) {p : Program} {e : Env} {s : State} {m : MethodId} {below : List Frame} {meth : Method} {c : Code} (l : Launch) {b L : Nat} {xs : Nat → Int32} (hL : L ≤ 3072) (C0 : lw_At p s m meth c b L xs) : W p l e room_1 s m #[Value.ref b] below meth c s.heap [] 0 0 (lw_Z below #[Value.ref b] s) (entryFrame m ([Value.ref b] : List Value).toArray 4) := by
  obtain ⟨hx, hb, hr, hml, hown, hts, hX, hbl, hlocks, hgv⟩ := id C0
  obtain ⟨Z, hK⟩ := start_k hts
  obtain ⟨ads, hxA⟩ := start_x hts hgv Z
  have hXs : nX s := ⟨fun z hz => va_Nw.of rfl (hts _ (st_nw z hz)), va_AO.of (hts _ st_lw.2.2.2.2.1)⟩
  obtain ⟨β, hβ⟩ : ∃ β, β = s.heap.size := ⟨_, rfl⟩
  have hS : va_S (fun q => β ≤ q) s.heap s.heap [] := va_S.rf
  have hP : va_P Z.2 vwCl (wsF β []) s.heap := fun k q h => by simp [wsF] at h
  have hl := lv_entry ([.ref b]) (n := 4) (Nat.le_of_ble_eq_true rfl)
  rw [lg_entry_eq]
  generalize (lg_sl ([.ref b]) ++ List.replicate (4 - (lg_sl ([.ref b])).length) Slot.unset).toArray = ls at hl ⊢
  have hl : lv_has ls 4 [(0, .ref b)] := hl
  refine va_new (D := Z.2) (ci := 10) (fs := [.null, .null, .null, .null, .null, .null, .null, .null, .null, .null, .null, .null, .null, .null, .int 0, .int 0, .int 0, .long 0, .int 0]) (C := RX11) (T := TX11) (N := 19) hx hb hts inX11 tyX11 tyX11_ok hown (hts _ (List.mem_filter.mp (Wt_of (tk_1 _ (List.mem_of_getElem? (i := 23) rfl)) rfl)).1) (hts _ (List.mem_filter.mp (Wt_of (tk_1 _ (List.mem_of_getElem? (i := 24) rfl)) rfl)).1) (hts _ (List.mem_filter.mp (Wt_of (tk_1 _ (List.mem_of_getElem? (i := 1) rfl)) rfl)).1) hK hP (wsF_D β []) hS (fun q h => by show β ≤ q; omega) rfl dfD (Nat.le_of_ble_eq_true rfl) (Nat.le_of_ble_eq_true rfl) (tdL_e.at (i := 0) rfl) (fun a H hP hD hS => ?_)
  intro T0 hT X
  have ea : β + ([] : List va_E).length = a := (gn_next (t := []) X hT hP hD (by rw [hβ]; rfl)).symm
  subst ea
  refine (?_ : W p l e room_1 s m #[Value.ref b] below meth c H [] (0 + 1) (0 + 19) (lw_Z below #[Value.ref b] s) (F0 m 3 ls [.ref (β + 0)])) T0 hT X
  refine lv_dup hx hb (tdL_e.at (i := 1) rfl) rfl ?_
  refine lw_ctor (t := [.inr (10, [.null, .null, .null, .null, .null, .null, .null, .null, .null, .null, .null, .null, .null, .null, .int 0, .int 0, .int 0, .long 0, .int 0])]) (t0 := []) (β := β) (st := [.ref (β + 0)]) C0 hK hXs tdL_e 2 rfl lbL_D lkL_D (okN_D Z (β + 0)) ⟨Nat.le_of_ble_eq_true rfl, Nat.le_of_ble_eq_true rfl, Nat.le_of_ble_eq_true rfl, Nat.le_of_ble_eq_true rfl⟩ rfl (Nat.le_of_ble_eq_true rfl) rfl rfl hP (by rw [hβ]; rfl) hβ hS hl (fun H locs hP hS => ?_)
  refine lv_astore_n (lv' := [(1, .ref (β + 0)), (0, .ref b)]) hx hb (tdL_e.at (i := 3) rfl) rfl hl (by decide) rfl (fun ls hl => ?_)
  have hP : va_P Z.2 vwCl (wsF β (tN_D Z β)) H := hP
  refine va_new (D := Z.2) (ci := 11) (fs := [.int 0, .int 0, .int 0, .int 0, .int 0, .int 0, .int 0, .int 0, .int 0, .int 0, .null, .null, .null, .null, .null, .null, .null, .null, .int 0, .int 0, .int 0, .int 0, .int 0, .int 0, .null, .null, .null, .null, .null, .null, .null, .null, .null, .int 0, .null, .int 0, .int 0, .int 0, .int 0, .int 0, .int 0, .int 0, .null, .null, .null, .int 0, .null, .int 0, .null, .null, .int 0, .int 0, .int 0, .int 0, .float 0, .null, .int 0, .int 0, .int 0, .null, .null, .null, .int 0, .null, .int 0]) (C := RX12) (T := TX12) (N := 65) hx hb hts inX12 tyX12 tyX12_ok hown (hts _ (List.mem_filter.mp (Wt_of (tk_6 _ (List.mem_of_getElem? (i := 172) rfl)) rfl)).1) (hts _ (List.mem_filter.mp (Wt_of (tk_6 _ (List.mem_of_getElem? (i := 173) rfl)) rfl)).1) (hts _ (List.mem_filter.mp (Wt_of (tk_1 _ (List.mem_of_getElem? (i := 12) rfl)) rfl)).1) hK hP (wsF_D β _) hS (fun q h => by show β ≤ q; omega) rfl dfM (Nat.le_of_ble_eq_true rfl) (Nat.le_of_ble_eq_true rfl) (tdL_e.at (i := 4) rfl) (fun a H hP hD hS => ?_)
  intro T0 hT X
  have ea : β + (tN_D Z β).length = a := (gn_next X hT hP hD (by rw [hβ, lenD]; rfl)).symm
  subst ea
  have hP : va_P Z.2 vwCl (wsF β (tN_D Z β ++ [.inr (11, [.int 0, .int 0, .int 0, .int 0, .int 0, .int 0, .int 0, .int 0, .int 0, .int 0, .null, .null, .null, .null, .null, .null, .null, .null, .int 0, .int 0, .int 0, .int 0, .int 0, .int 0, .null, .null, .null, .null, .null, .null, .null, .null, .null, .int 0, .null, .int 0, .int 0, .int 0, .int 0, .int 0, .int 0, .int 0, .null, .null, .null, .int 0, .null, .int 0, .null, .null, .int 0, .int 0, .int 0, .int 0, .float 0, .null, .int 0, .int 0, .int 0, .null, .null, .null, .int 0, .null, .int 0])])) H := by rw [wsF_app]; exact hP
  refine (?_ : W p l e room_1 s m #[Value.ref b] below meth c H locs _ _ (lw_Z below #[Value.ref b] s) (F0 m 11 ls [.ref (β + (tN_D Z β).length)])) T0 hT X
  refine lv_dup hx hb (tdL_e.at (i := 5) rfl) rfl ?_
  refine lw_ctor (t := tN_D Z β ++ [.inr (11, [.int 0, .int 0, .int 0, .int 0, .int 0, .int 0, .int 0, .int 0, .int 0, .int 0, .null, .null, .null, .null, .null, .null, .null, .null, .int 0, .int 0, .int 0, .int 0, .int 0, .int 0, .null, .null, .null, .null, .null, .null, .null, .null, .null, .int 0, .null, .int 0, .int 0, .int 0, .int 0, .int 0, .int 0, .int 0, .null, .null, .null, .int 0, .null, .int 0, .null, .null, .int 0, .int 0, .int 0, .int 0, .float 0, .null, .int 0, .int 0, .int 0, .null, .null, .null, .int 0, .null, .int 0])]) (t0 := tN_D Z β) (β := β) (st := [.ref (β + (tN_D Z β).length)]) C0 hK hXs tdL_e 6 rfl lbL_M lkL_M (okN_M Z (β + (tN_D Z β).length)) ⟨Nat.le_of_ble_eq_true rfl, Nat.le_of_ble_eq_true rfl, Nat.le_of_ble_eq_true rfl, Nat.le_of_ble_eq_true rfl⟩ rfl (Nat.le_of_ble_eq_true rfl) rfl rfl hP (by rw [hβ, List.length_append, lenD]; rfl) hβ hS hl (fun H locs hP hS => ?_)
  refine lv_astore_n (lv' := [(2, .ref (β + (tN_D Z β).length)), (1, .ref (β + 0)), (0, .ref b)]) hx hb (tdL_e.at (i := 7) rfl) rfl hl (by decide) rfl (fun ls hl => ?_)
  refine lv_iconst (v := 0) hx hb (tdL_e.at (i := 8) rfl) (by decide) ?_
  refine lv_istore_n (lv' := [(3, .int 0), (2, .ref (β + (tN_D Z β).length)), (1, .ref (β + 0)), (0, .ref b)]) hx hb (tdL_e.at (i := 9) rfl) rfl hl (by decide) rfl (fun ls hl => ?_)
  rw [lenD] at hl
  have hPA : va_P Z.2 vwCl (wsF β (tN_D Z β)) H := by
    intro k q hq
    refine hP k q ?_
    rw [wsF_app]
    rw [List.getElem?_append_left (List.getElem?_eq_some_iff.mp hq).1]
    exact hq
  have hPB : va_P Z.2 vwCl (wsF (β + 146) (tN_M Z (β + 146))) H := by
    intro k q hq
    refine hP ((wsF β (tN_D Z β)).length + k) q ?_
    rw [wsF_app, List.getElem?_append_right (by omega), Nat.add_sub_cancel_left]
    exact hq
  refine W.widen (k := kC) (n := kS) (Nat.le_of_ble_eq_true rfl) (Nat.le_of_ble_eq_true rfl) ?_
  refine okL (E1 := eV Z β ads) (E2 := eV Z (β + 146) ads) gA0 gB0 (hf L xs hL) p l e s m below meth c H locs C0 ?_ (vaP_A0 ads hPA) (by rw [wB0]; exact hPB) (by rw [← hβ]; exact hS) ls (lv_sub hl [3, 2, 1, 0] rfl)
  refine ⟨rfl, hK, fun k hk => ?_, fun k hk => ?_, fun i j hi hj h => ?_, fun i j hi hj h => ?_, fun i j hi hj h => ?_, by rw [hβ]; exact hxA⟩
  · show s.heap.size ≤ β + k
    omega
  · show s.heap.size ≤ β + 146 + k
    omega
  · have h : β + i = β + j := h
    omega
  · have h : β + 146 + i = β + 146 + j := h
    omega
  · have h : β + i = β + 146 + j := h
    omega
