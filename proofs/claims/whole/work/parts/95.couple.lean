/-! THE CALLS: couple, told -/
set_option maxHeartbeats 1000000 in
theorem couplesA {p : Pl} (hw : WP p) {f : Fl} {g : G} (hP : PA p g) (hF : FA p f 2700 27 g) (hV : VF p f g) (hK : g.1 11801 = nI (2 ^ pC p - 1)) :
    Sat (fA_Trial_tryCouples g) (fun g' => Fr [13200, 13201, 13202, 13300] [127, 128, 129, 134, 135, 136] w1 g g' ∧ (g'.1 13200, g'.1 13201, g'.1 13202) = WS p f (pK p * 8)) := by
  have h1 := hw.c
  unfold fA_Trial_tryCouples
  refine (trialA ⟨by omega, by omega⟩ hF).bind ?_
  rintro g1 ⟨F1, _, x0, x1, x2, _⟩
  refine (holdA hw (hP.fr F1 (by simp) (by simp)) (hV.fr F1 (by simp)).vv (s := 0) (by decide)).bind ?_
  rintro g2 ⟨F2, H2⟩
  have H2 : HH p 127 (fun _ _ _ => false) g2 := H2.cg (fun t y x => by unfold ob; simp)
  have F12 : Fr [13200, 13201, 13202, 13300] [127, 128, 129, 134, 135, 136] w1 g g2 := (F1.wd (by simp) (by simp) (by simp)).tr F2 (by simp) (by simp) (by simp)
  obtain ⟨In, hIn⟩ : ∃ In : Nat → G → Prop, In = fun k g' => Fr [13200, 13201, 13202, 13300] [127, 128, 129, 134, 135, 136] w1 g g' ∧ HH p 127 (fun _ _ _ => false) g' ∧ (g'.1 13200, g'.1 13201, g'.1 13202) = WS p f k := ⟨_, rfl⟩
  refine Sat.lp (fun a s => ∃ g', s = (nI a, g') ∧ In (a * 8) g') (pK p) (by omega) ⟨g2, rfl, ?_⟩ ?_ ?_
  · rw [hIn]
    refine ⟨F12, H2, ?_⟩
    rw [F2.1 13200 (by simp), F2.1 13201 (by simp), F2.1 13202 (by simp), x0, x1, x2]
    rfl
  · rintro rec a _ ha ⟨g3, rfl, i3⟩ hrec
    have F3 := by rw [hIn] at i3; exact i3.1
    have P3 := hP.fr F3 (by simp) (by simp)
    simp only []
    rw [P3.1.2.2.2.2.2.2.1, if_neg (nI_ge ha (by omega)), bv_eq, show (nI a + 1 : Int32) = nI (a + 1) from nI_add a 1]
    refine Sat.lp (fun j s => ∃ g', s = (nI (a + 1 + j), g') ∧ In (a * 8 + (a + 1 + j)) g') (pK p - (a + 1)) (by omega) ⟨g3, rfl, ?_⟩ ?_ ?_
    · rw [hIn] at i3 ⊢
      refine ⟨i3.1, i3.2.1, ?_⟩
      rw [i3.2.2, Nat.add_zero, WS_first (by omega)]
    · rintro rec2 j _ hj ⟨g4, rfl, i4⟩ hrec2
      rw [hIn] at i4
      obtain ⟨F4, H4, w4⟩ := i4
      have P4 := hP.fr F4 (by simp) (by simp)
      have V4 := hV.fr F4 (by simp)
      have u4 : g4.1 2700 = nI (us p f) := (F4.1 2700 (by simp)).trans hF.1
      have hb : a + 1 + j < pK p := by omega
      obtain ⟨b, hbd⟩ : ∃ b, b = a + 1 + j := ⟨_, rfl⟩
      simp only []
      rw [← hbd] at hb w4 ⊢
      have st := WS_step (p := p) (f := f) (a := a) (b := b) (by omega) hb (by omega)
      have e16 : a * 8 + (a + 1 + (j + 1)) = a * 8 + (b + 1) := by omega
      have e17 : a + 1 + (j + 1) = b + 1 := by omega
      rw [e16, e17] at hrec2
      have skip : WS p f (a * 8 + (b + 1)) = WS p f (a * 8 + b) → ∀ g', Fr [13200, 13201, 13202, 13300] [127, 128, 129, 134, 135, 136] w1 g g' → HH p 127 (fun _ _ _ => false) g' → (g'.1 13200, g'.1 13201, g'.1 13202) = WS p f (a * 8 + b) → Sat (rec2 (nI b + 1, g')) (fun g' => Fr [13200, 13201, 13202, 13300] [127, 128, 129, 134, 135, 136] w1 g g' ∧ (g'.1 13200, g'.1 13201, g'.1 13202) = WS p f (pK p * 8)) := by
        intro e g' Fg Hg wg
        rw [show (nI b + 1 : Int32) = nI (b + 1) from nI_add b 1]
        refine hrec2 _ ⟨g', rfl, ?_⟩
        rw [hIn]
        exact ⟨Fg, Hg, by rw [wg, e]⟩
      simp only [lj_eq]
      rw [P4.1.2.2.2.2.2.2.1, if_neg (nI_ge hb (by omega)), isUpA (u := 0) (n := 0) u4 (by omega) (by omega), Option.bind_some, isUpA (u := 0) (n := 0) u4 hb (by omega), Option.bind_some, u4, w2A (by omega) (by omega)]
      by_cases ua : fup f a = 1
      · rw [if_neg (show ¬ bI (decide (fup f a = 1)) = (0 : Int32) by rw [decide_eq_true ua]; exact z1)]
        by_cases ub' : fup f b = 1
        · rw [if_neg (show ¬ bI (decide (fup f b = 1)) = (0 : Int32) by rw [decide_eq_true ub']; exact z1)]
          refine (joinA hw P4 V4.vv (Nat.lt_trans (w2_lt p f a b) (by decide)) H4).bind ?_
          rintro g5 ⟨F5, H5⟩
          have H5 : HH p 128 (sx2 p f (w2 p f a b)) g5 := H5.cg (fun t y x => by rw [Bool.false_or]; rfl)
          have F45 := F4.tr F5 (by simp) (by simp) (by simp)
          refine (worstGapA hw (hP.fr F45 (by simp) (by simp)) ((F45.1 11801 (by simp)).trans hK) H5).bind ?_
          rintro ⟨r, g6⟩ ⟨F6, er⟩
          have er : r = nI (ww p (sx2 p f (w2 p f a b))) := er
          rw [← gp_at (p := p) (f := f) (a := a) (b := b) (by omega)] at er
          have F46 := F45.tr F6 (by simp) (by simp) (by simp)
          have F56 : Fr [] [128, 129] w0 g4 g6 := (F5.wd (by simp) (by simp) (by simp)).tr F6 (by simp) (by simp) (by simp)
          have H6 := H4.fr F56 (by simp)
          have w6 : (g6.1 13200, g6.1 13201, g6.1 13202) = WS p f (a * 8 + b) := by rw [F56.1 13200 (by simp), F56.1 13201 (by simp), F56.1 13202 (by simp)]; exact w4
          have gl : gp p f (a * 8 + b) ≤ 240 := Nat.le_trans (ww_le p _) (by omega)
          dsimp only
          rw [er]
          have take : (WS p f (a * 8 + b)).2.2 < nI (gp p f (a * 8 + b)) → Sat (bv (sS g6 13200 (nI a)) fun g12 => bv (sS g12 13201 (nI b)) fun g13 => bv (sS g13 13202 (nI (gp p f (a * 8 + b)))) fun g14 => rec2 (nI b + 1, g14)) (fun g' => Fr [13200, 13201, 13202, 13300] [127, 128, 129, 134, 135, 136] w1 g g' ∧ (g'.1 13200, g'.1 13201, g'.1 13202) = WS p f (pK p * 8)) := by
            intro l
            rw [bv_eq, bv_eq, bv_eq, show (nI b + 1 : Int32) = nI (b + 1) from nI_add b 1]
            refine hrec2 _ ⟨_, rfl, ?_⟩
            rw [hIn]
            have Fz : Fr [13200, 13201, 13202] [] w0 g6 (sS (sS (sS g6 13200 (nI a)) 13201 (nI b)) 13202 (nI (gp p f (a * 8 + b)))) := ((Fr.rf.sS (by simp)).sS (by simp)).sS (by simp)
            refine ⟨F46.tr Fz (by simp) (by simp) (by simp), H6.fr Fz (by simp), ?_⟩
            rw [st, if_pos ⟨ua, ub', l⟩]
            rfl
          have p1 : g6.1 13200 = (WS p f (a * 8 + b)).1 := by rw [← w6]
          have p3 : g6.1 13202 = (WS p f (a * 8 + b)).2.2 := by rw [← w6]
          rw [p1, p3]
          rcases WS_inv hw f (a * 8 + b) (by omega) with e | ⟨x, y, v, hx, hv, e⟩
          · rw [e, if_pos (show m1 = -1 from rfl)]
            exact take (by rw [e]; exact (m1_lt (by omega)).mpr trivial)
          · rw [e, if_neg (show ¬ nI x = -1 from fun z => (n_ne_m1 (by omega)).mp z)]
            dsimp only
            rw [ite_len (by omega) (by omega)]
            by_cases l : gp p f (a * 8 + b) ≤ v
            · rw [if_pos l]
              refine skip ?_ g6 F46 H6 w6
              rw [st, if_neg (fun z => ?_)]
              have z3 := z.2.2
              rw [e] at z3
              exact absurd ((nI_ltI (by omega) (by omega)).mp z3) (by omega)
            · rw [if_neg l]
              exact take (by rw [e]; exact nI_lt (by omega) (by omega))
        · rw [if_pos (show bI (decide (fup f b = 1)) = (0 : Int32) by rw [decide_eq_false ub']; rfl)]
          exact skip (by rw [st, if_neg (fun z => ub' z.2.1)]) g4 F4 H4 w4
      · rw [if_pos (show bI (decide (fup f a = 1)) = (0 : Int32) by rw [decide_eq_false ua]; rfl)]
        exact skip (by rw [st, if_neg (fun z => ua z.1)]) g4 F4 H4 w4
    · rintro rec2 _ ⟨g4, rfl, i4⟩
      have F4 := by rw [hIn] at i4; exact i4.1
      have P4 := hP.fr F4 (by simp) (by simp)
      simp only []
      rw [P4.1.2.2.2.2.2.2.1, if_pos (nI_le (by omega) (by omega))]
      refine hrec _ ⟨g4, rfl, ?_⟩
      rw [hIn] at i4 ⊢
      refine ⟨i4.1, i4.2.1, ?_⟩
      rw [i4.2.2, WS_last (b := a + 1 + (pK p - (a + 1))) (by omega) (by omega) (by omega)]
  · rintro rec _ ⟨g3, rfl, i3⟩
    rw [hIn] at i3
    have P3 := hP.fr i3.1 (by simp) (by simp)
    simp only []
    rw [P3.1.2.2.2.2.2.2.1, if_pos (nI_le (Nat.le_refl _) (by omega))]
    exact Sat.of ⟨i3.1, i3.2.2⟩
