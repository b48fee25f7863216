set_option maxHeartbeats 4000000 in
/-- the law's call of a constructor whose object is the last cell -/
theorem lw_ctor {p : Program} {l : Launch} {e : Env} {s : State} {m : MethodId} {below : List Frame} {meth : Method} {c : Code} {b L : Nat} {xs : Nat → Int32} {H : Heap} {locs : List Loc} {Z : Zt} {lv : List (Nat × Value)} {st st1 : List Value} {kc ks pc index β : Nat} {y : MethodName} {mj : Mi} {x : va_E} {t t0 t1 : List va_E} {Q : State → Prop} {ls : Array Slot} {tb : List (Nat × ClassFile.Instr × Nat)} (C : lw_At p s m meth c b L xs) (hKs : va_K Z.2 vwCl (zty Z) s) (hXs : nX s)
    (T : AllDec code tb) (i : Nat) (h : tb[i]? = some (pc, .invokespecial index, 3)) (hL : LkB y mj 0 ∧ mj.2.2.2.2 = none ∧ y.name = "<init>" ∧ Cond.instanceMethod y ∈ Wt) (hl2 : Cond.methodLink R_law index y ∈ Wt) (hC : CtN Z y mj [] (β + t0.length) x t1)
    (hR : mj.2.2.2.1.frames + 1 ≤ room_1.frames ∧ 8 + (mj.2.2.1 + 11) + mj.2.2.2.1.locals ≤ room_1.locals ∧ kc + mj.2.2.2.1.cells ≤ room_1.cells ∧ ks + mj.2.2.2.1.slots ≤ room_1.slots) (hst : st1 = .ref (β + t0.length) :: st) (hw : (st.map fun v => v.category).sum ≤ 8) (ht : t = t0 ++ [x]) (hlen : t1.length = 1 + mj.2.2.2.1.cells)
    (hP : va_P Z.2 vwCl (wsF β t) H) (hz : s.heap.size + kc = β + t.length) (hb0 : β = s.heap.size) (hS : va_S (fun q => β ≤ q) s.heap H locs) (hl : lv_has ls 4 lv)
    (k : ∀ (H1 : Heap) (locs1 : List Loc), va_P Z.2 vwCl (wsF β (t0 ++ t1)) H1 → va_S (fun q => β ≤ q) s.heap H1 locs1 → W p l e room_1 s m #[Value.ref b] below meth c H1 locs1 (kc + mj.2.2.2.1.cells) (ks + mj.2.2.2.1.slots) Q (F0 m (pc + 3) ls st)) :
    W p l e room_1 s m #[Value.ref b] below meth c H locs kc ks Q (F0 m pc ls st1) := by
  intro T0 hT X
  obtain ⟨hx, hb, hr0, hml, hown, hts0, hX, hbl, hlocks, hgv⟩ := id C
  have hts : ∀ z ∈ Wt, z.before #[Value.ref b] s = true := fun z hz => hts0 z (List.mem_filter.mp hz).1
  obtain ⟨⟨l1, l2, l3, l4, l5⟩, lr, l6, l7⟩ := hL
  rw [lr] at l1
  have hlen0 : t.length = t0.length + 1 := by rw [ht]; simp
  have hsub : T0.heap.size ≤ s.heap.size + kc := X.same.2.2.1
  have hxat : (wsF β t)[t0.length]? = some (β + t0.length, x) := by rw [wsF_at, ht]; simp
  have hxl : β + t0.length < H.size := (hP _ _ hxat).lt
  have hHs : H.size = β + t0.length + 1 := by rw [hT] at hsub; omega
  have hPx : va_P Z.2 vwCl (wsF (β + t0.length) [x]) H := by
    intro k0 q0 hq0
    rw [wsF_at] at hq0
    cases k0 with
    | zero => cases hq0; exact hP _ _ hxat
    | succ k0 => cases hq0
  have hg : GoodIn Wt (.code y mj.2.1 mj.2.2.1 none :: Wt) := by
    intro z hz
    rcases List.mem_cons.mp hz with rfl | hz
    · exact ⟨l1, Wt_good l1⟩
    · exact ⟨hz, Wt_good hz⟩
  have hpre : PreS s H (va_Pc (.ref (β + t0.length) :: []) (fun U => va_P Z.2 vwCl (wsF (β + t0.length) [x]) U.heap ∧ U.heap.size = β + t0.length + 1 ∧ va_K Z.2 vwCl (zty Z) U ∧ nX U)) (.ref (β + t0.length) :: []) := by
    refine ⟨?_, fun U hU hW => ⟨rfl, by rw [hU]; exact hPx, by rw [hU]; exact hHs, va_K.moved hW.alike hKs, nX_warm hW hXs⟩⟩
    intro a U f mk hh
    obtain ⟨q0, qP, qz, qK, qX⟩ := hh
    exact ⟨q0, qP, qz, va_K.moved (u := U) (U := U.calling f mk a) (Vm.Alike.refl U.vm) qK, nX_same (U := U) rfl qX⟩
  have hr : va_Run p l e room_1 s m #[Value.ref b] below meth c H locs kc ks mj.2.2.2.1.cells mj.2.2.2.1.slots (F0 m pc ls st1) st (nQ Z (β + t0.length) t1 (Value.ref (β + t0.length) :: []).toArray) (fun q => β + t0.length ≤ q) :=
    va_runI (b := β + t0.length) (As := []) (rest := st) ⟨hx, hb, hml, hown, hts⟩ (hC l) (cwI 0 hts hg rfl rfl rfl (hts _ l2) (hts _ hl2) (hts _ l7) l6 ⟨l3, l4, l5⟩ ⟨hR.1, hR.2.1⟩) hpre rfl rfl hl.1 hst (lv_room hw) (T.at h) ⟨hR.2.2.1, hR.2.2.2⟩
  obtain ⟨v, st₀, u, T', Lc, h0, X', hLc, e1, e2, ⟨hv, hP1, hK1, hz1, hk⟩, sg⟩ := hr T0 hT X
  cases hv
  rw [h0] at hz1 hk
  have hPn : va_P Z.2 vwCl (wsF β (t0 ++ t1)) T'.heap := by
    rw [wsF_app]
    refine va_P.app ?_ (by rw [e1]; exact hP1)
    intro k0 q0 hq0
    have hk0 : k0 < t0.length := by
      rw [wsF_at] at hq0
      cases hc : t0[k0]? with
      | none => rw [hc] at hq0; cases hq0
      | some c0 => exact (List.getElem?_eq_some_iff.mp hc).1
    have hat : (wsF β t)[k0]? = some q0 := by
      rw [wsF_at] at hq0 ⊢
      rw [ht, List.getElem?_append_left hk0]
      exact hq0
    have hq1 : q0.1 = β + k0 := by
      rw [wsF_at] at hq0
      cases hc : t0[k0]? with
      | none => rw [hc] at hq0; cases hq0
      | some c0 => rw [hc] at hq0; cases hq0; rfl
    have hat2 := hP _ _ hat
    refine hat2.kept ?_
    rw [e1]
    exact hk q0.1 hat2.lt (by show ¬ β + t0.length ≤ q0.1; omega)
  have hS' : va_S (fun q => β ≤ q) s.heap T'.heap (locs ++ Lc) := ⟨Nat.le_trans hS.1 (by rw [e1]; exact hz1), fun q h1 h2 => by
      rw [e1, hk q (Nat.lt_of_lt_of_le h1 hS.1) (by intro h9; exact h2 (by show β ≤ q; have h9 : β + t0.length ≤ q := h9; omega))]
      exact hS.2.1 q h1 h2, fun q hq => by
      rcases List.mem_append.mp hq with h9 | h9
      · exact hS.2.2 q h9
      · have h9 : β + t0.length ≤ q.base := hLc q h9
        show β ≤ q.base
        omega⟩
  obtain ⟨t2, a1, b1⟩ := k T'.heap (locs ++ Lc) hPn hS' T' rfl X'
  exact ⟨t2, sg t2 a1, b1⟩
