/-! THE TEXT: a plane, in the model -/
/-- the end alive: all alive -/
theorem xNu_al {n : Nat} {T : Nat → Nat} {lo hi : Nat} {X : Xs} (h : (xNu n T lo hi X).2.1 = 0) : X.1 = 0 := by
  apply Classical.byContradiction
  intro z
  rw [xNu2_dead z] at h
  exact z h
theorem xM_al {n : Nat} {T : Nat → Nat} {k : Nat} {X : Xs} (h : (xM n T k X).1 = 0) : X.1 = 0 := by
  apply Classical.byContradiction
  intro z
  rw [xM_dead z] at h
  exact z h
theorem xNm_al {n : Nat} {T : Nat → Nat} {X : Xs} (h : (xNm n T X).1 = 0) : X.1 = 0 := by
  apply Classical.byContradiction
  intro z
  rw [xNm_dead z] at h
  exact z h
theorem xF_al {n : Nat} {T : Nat → Nat} {p : Pl} {X : Xs} (h : (xF n T p X).1 = 0) : X.1 = 0 := by
  apply Classical.byContradiction
  intro z
  rw [xF_dead z] at h
  exact z h
set_option maxHeartbeats 2000000 in
theorem planeB {n : Nat} {T : Nat → Nat} {p : Pl} {f : Fl} {X : Xs} {g : G} (hx : TX n T) (h : LQ n T X g) (h0 : X.1 = 0) (hs : X.2.2.2 ≤ X.2.2.1) (hO : g.2.1 19 = gB0.2.1 19) (hD : DB p f g) (hW : DW p f) :
    Sat (fB_M_readsPlane g) (fun g' => Fr (21 :: bS) [9, 10, 11, 16] w0 g g' ∧ LQ n T (xP3 n T p X).2 g' ∧ ((xP3 n T p X).2.1 = 0 → DB (plP n T p X) (plF n T p f X) g')) := by
  have b := hW.1
  have hn := hx.1
  unfold fB_M_readsPlane
  rw [lj_eq, hD.1.2.2.2.1, show (4 : Int32) = nI 4 from rfl, ite_eqn (by omega) (by decide)]
  by_cases hP : pP p = 4
  · rw [if_pos hP]
    have e0 : xP0 n T p X = fl 5 X.2.2.2 := if_neg (by omega)
    obtain ⟨g2, e2, F2, L2⟩ := failB (k := 5) (w := X.2.2.2) h.1 (by rw [h.2.1.2, h0]) (by decide) (by decide)
    have d : (fl 5 X.2.2.2).1 ≠ 0 := by show ¬ (5 : Nat) = 0; decide
    have e3 : (xP3 n T p X).2 = fl 5 X.2.2.2 := by
      unfold xP3 xP2 xP1
      rw [e0, xM_dead d, xNu2_dead d, xM_dead d, xNu2_dead d, xM_dead d, xNu2_dead d]
    rw [(h.2.2.1 h0).2.2.2 hs, show (5 : Int32) = nI 5 from rfl, e2, Option.bind_some]
    dsimp only
    rw [goesB L2, Option.bind_some, decide_eq_false d, if_pos b0, e3]
    exact Sat.of ⟨F2.wd (by decide) (by simp) (by simp), L2, fun z => absurd z d⟩
  · rw [if_neg hP]
    have hP : pP p < 4 := by omega
    have e0 : xP0 n T p X = xF n T p X := if_pos hP
    dsimp only
    rw [goesB h, Option.bind_some, decide_eq_true h0, if_neg b1, hD.1.2.2.2.1]
    refine (freshB hx h hO hD hW (by omega)).bind ?_
    rintro g3 ⟨F3, L3, k3, n3⟩
    rw [← e0] at L3 n3
    have O3 : g3.2.1 19 = gB0.2.1 19 := (F3.2.1 19 (by simp)).trans hO
    have c3 : g3.1 21 = nI (pP p) := (F3.1 21 (by decide)).trans hD.1.2.2.2.1
    rw [F3.1 18 (by decide), hD.1.1, show (nI (pC p) - 1 : Int32) = nI (pC p - 1) from nI_sub (b := 1) (by omega), c3]
    refine (toldB (k := 4) (lo := 0) hx L3 O3 (by decide) (by decide) (by omega)).bind ?_
    rintro ⟨v4, g4⟩ ⟨F4, L4, w4⟩
    have F4 : Fr bS [] w0 g3 g4 := F4
    have L4 : LQ n T (xP1 n T p X).2 g4 := L4
    have w4 : v4 = nI (xP1 n T p X).1 := w4
    dsimp only
    rw [ck_nI hP (by decide), bv_eq, nI_clamp (by omega), w4]
    obtain ⟨g5, eg5⟩ : ∃ g5, g5 = sA g4 9 (pP p) (nI (xP1 n T p X).1) := ⟨_, rfl⟩
    rw [← eg5]
    have F45 : Fr [] [9] w0 g4 g5 := by rw [eg5]; exact Fr.rf.sA (by simp)
    have F5 : Fr bS [9, 16] w0 g g5 := ((F3.wd (by simp) (by simp) (by simp)).tr F4 (by simp) (by simp) (by simp)).tr F45 (by simp) (by simp) (by simp)
    have v9 : g5.2.1 9 = upd (g.2.1 9) (pP p) (nI (xP1 n T p X).1) := by rw [eg5, sA_21, if_pos rfl, F4.2.1 9 (by simp), F3.2.1 9 (by simp)]
    have c5 : g5.1 21 = nI (pP p) := (F5.1 21 (by decide)).trans hD.1.2.2.2.1
    rw [show (2 : Int32) = nI 2 from rfl, n_dz (by decide) (by decide), F5.1 19 (by decide), hD.1.2.1, n_div (by omega) (by decide), c5]
    refine (toldB (k := 5) (lo := 0) hx (L4.fr F45 (by simp) (by simp)) ((F5.2.1 19 (by simp)).trans hO) (by decide) (by decide) (by omega)).bind ?_
    rintro ⟨v6, g6⟩ ⟨F6, L6, w6⟩
    have F6 : Fr bS [] w0 g5 g6 := F6
    have L6 : LQ n T (xP2 n T p X).2 g6 := L6
    have w6 : v6 = nI (xP2 n T p X).1 := w6
    dsimp only
    rw [ck_nI hP (by decide), bv_eq, nI_clamp (by omega), w6]
    obtain ⟨g7, eg7⟩ : ∃ g7, g7 = sA g6 10 (pP p) (nI (xP2 n T p X).1) := ⟨_, rfl⟩
    rw [← eg7]
    have F67 : Fr [] [10] w0 g6 g7 := by rw [eg7]; exact Fr.rf.sA (by simp)
    have F57 : Fr bS [10] w0 g5 g7 := (F6.wd (by simp) (by simp) (by simp)).tr F67 (by simp) (by simp) (by simp)
    have F7 : Fr bS [9, 10, 16] w0 g g7 := (F5.wd (by simp) (by simp) (by simp)).tr F57 (by simp) (by simp) (by simp)
    have v10 : g7.2.1 10 = upd (g.2.1 10) (pP p) (nI (xP2 n T p X).1) := by rw [eg7, sA_21, if_pos rfl, F6.2.1 10 (by simp), F5.2.1 10 (by simp)]
    have c7 : g7.1 21 = nI (pP p) := (F7.1 21 (by decide)).trans hD.1.2.2.2.1
    rw [c7]
    refine (toldB (k := 6) (lo := 2) (hi := 96) hx (L6.fr F67 (by simp) (by simp)) ((F7.2.1 19 (by simp)).trans hO) (by decide) (by decide) (by decide)).bind ?_
    rintro ⟨v8, g8⟩ ⟨F8, L8, w8⟩
    have F8 : Fr bS [] w0 g7 g8 := F8
    have L8 : LQ n T (xP3 n T p X).2 g8 := L8
    have w8 : v8 = nI (xP3 n T p X).1 := w8
    dsimp only
    rw [ck_nI hP (by decide), bv_eq, nI_clamp (by omega), w8, bv_eq]
    obtain ⟨g9, eg9⟩ : ∃ g9, g9 = sS (sA g8 11 (pP p) (nI (xP3 n T p X).1)) 21 ((sA g8 11 (pP p) (nI (xP3 n T p X).1)).1 21 + 1) := ⟨_, rfl⟩
    rw [← eg9]
    have F89 : Fr [21] [11] w0 g8 g9 := by rw [eg9]; exact (Fr.rf.sA (by simp)).sS (by simp)
    have F79 : Fr (21 :: bS) [11] w0 g7 g9 := (F8.wd (by decide) (by simp) (by simp)).tr F89 (by simp) (by simp) (by simp)
    have F9 : Fr (21 :: bS) [9, 10, 11, 16] w0 g g9 := (F7.wd (by decide) (by decide) (by simp)).tr F79 (by simp) (by simp) (by simp)
    refine Sat.of ⟨F9, L8.fr F89 (by simp) (by simp), fun z => ?_⟩
    have e3' : xP3 n T p X = xNu n T 2 96 (xM n T 6 (xP2 n T p X).2) := rfl
    have e2' : xP2 n T p X = xNu n T 0 (pR p / 2) (xM n T 5 (xP1 n T p X).2) := rfl
    have e1' : xP1 n T p X = xNu n T 0 (pC p - 1) (xM n T 4 (xP0 n T p X)) := rfl
    rw [e3'] at z
    have a2 := xM_al (xNu_al z)
    rw [e2'] at a2
    have a1 := xM_al (xNu_al a2)
    rw [e1'] at a1
    have a0 := xM_al (xNu_al a1)
    have F59 : Fr (21 :: bS) [10, 11] w0 g5 g9 := (F57.wd (by decide) (by simp) (by simp)).tr F79 (by simp) (by simp) (by simp)
    have F39 : Fr (21 :: bS) [9, 10, 11] w0 g3 g9 := ((F4.wd (by decide) (by simp) (by simp)).tr F45 (by simp) (by simp) (by simp)).tr F59 (by simp) (by simp) (by simp)
    refine DBadP hD hW F9 (by decide) (by decide) hP ?_ ?_ ?_ ?_ (fun j hj => ?_) (fun i hi => ?_)
    · rw [eg9]
      show g8.1 21 + 1 = _
      rw [F8.1 21 (by decide), c7]
      exact nI_add _ 1
    · rw [F59.2.1 9 (by simp), v9]
    · rw [F79.2.1 10 (by simp), v10]
    · rw [eg9]
      show (sA g8 11 (pP p) (nI (xP3 n T p X).1)).2.1 11 = _
      rw [sA_21, if_pos rfl, F8.2.1 11 (by simp), F7.2.1 11 (by simp)]
    · rw [F39.2.1 16 (by simp)]
      exact k3 j hj
    · rw [F39.2.1 16 (by simp)]
      exact n3 a0 i hi
