/-! THE TEXT: a craft, in the model -/
theorem xQ_al {T : Nat → Nat} {p : Pl} {Y : Xs} (h : (xQk T p Y).1 = 0) : Y.1 = 0 := (xQ_ok h).1
set_option maxHeartbeats 2000000 in
theorem craftRB {n : Nat} {T : Nat → Nat} {p : Pl} {f : Fl} {X : Xs} {g : G} (hx : TX n T) (h : LQ n T X g) (h0 : X.1 = 0) (hs : X.2.2.2 ≤ X.2.2.1) (hO : g.2.1 19 = gB0.2.1 19) (hD : DB p f g) (hW : DW p f) :
    Sat (fB_M_readsCraft g) (fun g' => Fr (22 :: bS) [12, 13, 14, 16] w0 g g' ∧ LQ n T (xC4 n T p X).2 g' ∧ ((xC4 n T p X).2.1 = 0 → DB (crP n T p X) (crF n T p f X) g')) := by
  have b := hW.1
  have hn := hx.1
  unfold fB_M_readsCraft
  rw [lj_eq, hD.1.2.2.2.2.1, show (8 : Int32) = nI 8 from rfl, ite_eqn (by omega) (by decide)]
  by_cases hK : pK p = 8
  · rw [if_pos hK]
    have e0 : xC0 n T p X = fl 5 X.2.2.2 := if_neg (by omega)
    obtain ⟨g2, e2, F2, L2⟩ := failB (k := 5) (w := X.2.2.2) h.1 (by rw [h.2.1.2, h0]) (by decide) (by decide)
    have d : (fl 5 X.2.2.2).1 ≠ 0 := by show ¬ (5 : Nat) = 0; decide
    have e3 : (xC4 n T p X).2 = fl 5 X.2.2.2 := by
      unfold xC4 xC3 xC2 xC1
      rw [e0, xM_dead d, xNm_dead d, xQ_dead d, xM_dead d, xNu2_dead d, xM_dead d, xNu2_dead d]
    rw [(h.2.2.1 h0).2.2.2 hs, show (5 : Int32) = nI 5 from rfl, e2, Option.bind_some]
    dsimp only
    rw [goesB L2, Option.bind_some, decide_eq_false d, if_pos b0, e3]
    exact Sat.of ⟨F2.wd (by decide) (by simp) (by simp), L2, fun z => absurd z d⟩
  · rw [if_neg hK]
    have hK : pK p < 8 := by omega
    have e0 : xC0 n T p X = xF n T p X := if_pos hK
    dsimp only
    rw [goesB h, Option.bind_some, decide_eq_true h0, if_neg b1, hD.1.2.2.2.2.1, show (4 + nI (pK p) : Int32) = nI (4 + pK p) from nI_add 4 _]
    refine (freshB hx h hO hD hW (by omega)).bind ?_
    rintro g3 ⟨F3, L3, k3, n3⟩
    rw [← e0] at L3 n3
    have O3 : g3.2.1 19 = gB0.2.1 19 := (F3.2.1 19 (by simp)).trans hO
    refine (mustB (k := 8) hx L3 O3 (by decide)).bind ?_
    rintro g4 ⟨F4, L4⟩
    refine (nameB hx L4 ((F4.2.1 19 (by simp)).trans O3)).bind ?_
    rintro g5 ⟨F5, L5⟩
    have L5 : LQ n T (xC1 n T p X) g5 := L5
    have F35 : Fr bS [] w0 g3 g5 := F4.tr F5 (by simp) (by simp) (by simp)
    have F5' : Fr bS [16] w0 g g5 := F3.tr F35 (by simp) (by simp) (by simp)
    rw [goesB L5, Option.bind_some, lj_eq]
    obtain ⟨Q, hQ⟩ : ∃ Q : G → Prop, Q = fun g' => Fr (22 :: bS) [12, 13, 14, 16] w0 g g' ∧ LQ n T (xC4 n T p X).2 g' ∧ ((xC4 n T p X).2.1 = 0 → DB (crP n T p X) (crF n T p f X) g') := ⟨_, rfl⟩
    rw [← hQ]
    have dead : ∀ g' : G, Fr (22 :: bS) [12, 13, 14, 16] w0 g g' → LQ n T (xC2 n T p X) g' → (xC2 n T p X).1 ≠ 0 → Q g' := by
      intro g' F L d
      have e3 : (xC4 n T p X).2 = xC2 n T p X := by
        unfold xC4 xC3
        rw [xM_dead d, xNu2_dead d, xM_dead d, xNu2_dead d]
      rw [hQ, e3]
      exact ⟨F, L, fun z => absurd z d⟩
    by_cases z5 : (xC1 n T p X).1 = 0
    · rw [decide_eq_true z5, if_neg b1]
      have eC1 : xC1 n T p X = xNm n T (xM n T 8 (xC0 n T p X)) := rfl
      have z5' := z5
      rw [eC1] at z5'
      have z4 := xNm_al z5'
      have a4 := (L4.2.2.1 z4).2.1
      have wo := (xNm_ok (n := n) (T := T) z4 a4 z5').2.1
      rw [← eC1] at wo
      have p5 := L5.2.2.1 z5
      have s5 := p5.2.2.2 (Nat.le_of_lt wo.1)
      have D3n : ∀ k, k < pP p → ∀ i, i < 6 → g5.2.1 16 (6 * (0 + k) + i) = nI (nm p (0 + k) i) ∧ nm p (0 + k) i < 32 := by
        intro k hk i hi
        rw [Nat.zero_add]
        refine ⟨?_, hW.2.2.2.2.1 k i (by omega) hi⟩
        rw [F35.2.1 16 (by simp), k3 _ (by omega)]
        exact hD.2.2.2.2 k i (by omega) hi
      have i1 : fB_M_nameIn 0 (g5.1 21) g5 = some (pOI (fun k => pkN (nm p k)) (pP p) (cdw T (xC1 n T p X))) := by
        rw [F5'.1 21 (by decide), hD.1.2.2.2.1]
        have := nameInB (a := 0) (m := pP p) (l := nm p) hx L5.1 wo s5 p5.2.2.1 (by omega) D3n
        rw [show (fun k => pkN (nm p (0 + k))) = fun k => pkN (nm p k) from funext (fun k => by rw [Nat.zero_add])] at this
        exact this
      rw [i1, Option.bind_some]
      dsimp only
      rw [lj_eq]
      by_cases lp : hmc T p (xC1 n T p X) < pP p
      · have e2 : xC2 n T p X = xC1 n T p X := by
          unfold xC2 xQk
          rw [if_neg (fun z => z z5), if_pos lp]
        have ep : pOI (fun k => pkN (nm p k)) (pP p) (cdw T (xC1 n T p X)) = nI (hmc T p (xC1 n T p X)) := if_pos lp
        have tq := hW.2.1 _ lp
        have c5 : g5.1 22 = nI (pK p) := (F5'.1 22 (by decide)).trans hD.1.2.2.2.2.1
        rw [if_neg (fun z => (pOI_m1 (by omega)).mp z lp)]
        dsimp only
        rw [goesB L5, Option.bind_some, decide_eq_true z5, if_neg b1, ep, c5, ck_nI hK (by decide), bv_eq, nI_clamp (by omega)]
        obtain ⟨g6, eg6⟩ : ∃ g6, g6 = sA g5 12 (pK p) (nI (hmc T p (xC1 n T p X))) := ⟨_, rfl⟩
        rw [← eg6]
        have F56 : Fr [] [12] w0 g5 g6 := by rw [eg6]; exact Fr.rf.sA (by simp)
        have F6 : Fr bS [12, 16] w0 g g6 := (F5'.wd (by simp) (by simp) (by simp)).tr F56 (by simp) (by simp) (by simp)
        have v12 : g6.2.1 12 = upd (g.2.1 12) (pK p) (nI (hmc T p (xC1 n T p X))) := by rw [eg6, sA_21, if_pos rfl, F5'.2.1 12 (by simp)]
        have c6 : g6.1 22 = nI (pK p) := (F6.1 22 (by decide)).trans hD.1.2.2.2.2.1
        have L6 : LQ n T (xC2 n T p X) g6 := by rw [e2]; exact L5.fr F56 (by simp) (by simp)
        rw [ag_nI (by omega) (by decide), F6.2.1 11 (by simp), (hD.2.1 _ lp).2.2, show (nI (tu p (hmc T p (xC1 n T p X))) - 1 : Int32) = nI (tu p (hmc T p (xC1 n T p X)) - 1) from nI_sub (b := 1) (by omega), c6]
        refine (toldB (k := 9) (lo := 0) hx L6 ((F6.2.1 19 (by simp)).trans hO) (by decide) (by decide) (by omega)).bind ?_
        rintro ⟨v7, g7⟩ ⟨F7, L7, w7⟩
        have F7 : Fr bS [] w0 g6 g7 := F7
        have L7 : LQ n T (xC3 n T p X).2 g7 := L7
        have w7 : v7 = nI (xC3 n T p X).1 := w7
        dsimp only
        rw [ck_nI hK (by decide), bv_eq, nI_clamp (by omega), w7]
        obtain ⟨g8, eg8⟩ : ∃ g8, g8 = sA g7 13 (pK p) (nI (xC3 n T p X).1) := ⟨_, rfl⟩
        rw [← eg8]
        have F78 : Fr [] [13] w0 g7 g8 := by rw [eg8]; exact Fr.rf.sA (by simp)
        have F68 : Fr bS [13] w0 g6 g8 := (F7.wd (by simp) (by simp) (by simp)).tr F78 (by simp) (by simp) (by simp)
        have F8 : Fr bS [12, 13, 16] w0 g g8 := (F6.wd (by simp) (by simp) (by simp)).tr F68 (by simp) (by simp) (by simp)
        have v13 : g8.2.1 13 = upd (g.2.1 13) (pK p) (nI (xC3 n T p X).1) := by rw [eg8, sA_21, if_pos rfl, F7.2.1 13 (by simp), F6.2.1 13 (by simp)]
        have c8 : g8.1 22 = nI (pK p) := (F8.1 22 (by decide)).trans hD.1.2.2.2.2.1
        rw [c8]
        refine (toldB (k := 10) (lo := 0) (hi := 12) hx (L7.fr F78 (by simp) (by simp)) ((F8.2.1 19 (by simp)).trans hO) (by decide) (by decide) (by decide)).bind ?_
        rintro ⟨v9, g9⟩ ⟨F9, L9, w9⟩
        have F9 : Fr bS [] w0 g8 g9 := F9
        have L9 : LQ n T (xC4 n T p X).2 g9 := L9
        have w9 : v9 = nI (xC4 n T p X).1 := w9
        dsimp only
        rw [ck_nI hK (by decide), bv_eq, nI_clamp (by omega), w9, bv_eq]
        obtain ⟨g10, eg10⟩ : ∃ g10, g10 = sS (sA g9 14 (pK p) (nI (xC4 n T p X).1)) 22 ((sA g9 14 (pK p) (nI (xC4 n T p X).1)).1 22 + 1) := ⟨_, rfl⟩
        rw [← eg10, hQ]
        have F910 : Fr [22] [14] w0 g9 g10 := by rw [eg10]; exact (Fr.rf.sA (by simp)).sS (by simp)
        have F810 : Fr (22 :: bS) [14] w0 g8 g10 := (F9.wd (by decide) (by simp) (by simp)).tr F910 (by simp) (by simp) (by simp)
        have F10 : Fr (22 :: bS) [12, 13, 14, 16] w0 g g10 := (F8.wd (by decide) (by decide) (by simp)).tr F810 (by simp) (by simp) (by simp)
        refine Sat.of ⟨F10, L9.fr F910 (by simp) (by simp), fun z => ?_⟩
        have a0 := xM_al z4
        have F610 : Fr (22 :: bS) [13, 14] w0 g6 g10 := (F68.wd (by decide) (by simp) (by simp)).tr F810 (by simp) (by simp) (by simp)
        have F310 : Fr (22 :: bS) [12, 13, 14] w0 g3 g10 := ((F35.wd (by decide) (by simp) (by simp)).tr F56 (by simp) (by simp) (by simp)).tr F610 (by simp) (by simp) (by simp)
        refine DBadC hD hW F10 (by decide) (by decide) hK ?_ ?_ ?_ ?_ (fun j hj => ?_) (fun i hi => ?_)
        · rw [eg10]
          show g9.1 22 + 1 = _
          rw [F9.1 22 (by decide), c8]
          exact nI_add _ 1
        · rw [F610.2.1 12 (by simp), v12]
        · rw [F810.2.1 13 (by simp), v13]
        · rw [eg10]
          show (sA g9 14 (pK p) (nI (xC4 n T p X).1)).2.1 14 = _
          rw [sA_21, if_pos rfl, F9.2.1 14 (by simp), F8.2.1 14 (by simp)]
        · rw [F310.2.1 16 (by simp)]
          exact k3 j hj
        · rw [F310.2.1 16 (by simp)]
          exact n3 a0 i hi
      · have e2 : xC2 n T p X = fl 3 (xC1 n T p X).2.2.2 := by
          unfold xC2 xQk
          rw [if_neg (fun z => z z5), if_neg lp]
        have d : (fl 3 (xC1 n T p X).2.2.2).1 ≠ 0 := by show ¬ (3 : Nat) = 0; decide
        obtain ⟨g6, e6, F6, L6⟩ := failB (k := 3) (w := (xC1 n T p X).2.2.2) L5.1 (by rw [L5.2.1.2, z5]) (by decide) (by decide)
        rw [if_pos ((pOI_m1 (by omega)).mpr lp), s5, show (3 : Int32) = nI 3 from rfl, e6, Option.bind_some]
        dsimp only
        rw [goesB L6, Option.bind_some, decide_eq_false d, if_pos b0]
        exact Sat.of (dead g6 ((F5'.wd (by decide) (by decide) (by simp)).tr F6 (by decide) (by simp) (by simp)) (by rw [e2]; exact L6) (by rw [e2]; exact d))
    · have e2 : xC2 n T p X = xC1 n T p X := xQ_dead z5
      rw [decide_eq_false z5, if_pos b0]
      dsimp only
      rw [lj_eq, if_neg (show ¬ (0 : Int32) = -1 by decide)]
      dsimp only
      rw [goesB L5, Option.bind_some, decide_eq_false z5, if_pos b0]
      exact Sat.of (dead g5 (F5'.wd (by decide) (by decide) (by simp)) (by rw [e2]; exact L5) (by rw [e2]; exact z5))
