/-! DESK -/
theorem nowB {p : Pl} {f : Fl} {g : G} (hW : DW p f) (e4 : g.1 4 = nI (pP p)) (e5 : g.1 5 = nI (pK p)) (h1 : ∀ q, q < pP p → g.2.1 1 q = nI (fnd f q)) (h2 : ∀ c, c < pK p → g.2.1 5 c = nI (fph f c) ∧ g.2.1 6 c = nI (frc f c)) (rB : Int32) :
    Sat (Lp (α := Int32 × G) (fun rec10 s10 => (if (s10.2.1 4) ≤ s10.1 then Lp (α := Int32 × G) (fun rec11 s11 => (if (s11.2.1 5) ≤ s11.1 then bv (sS s11.2 45 0) fun g12 => bv (sS g12 58 0) fun g13 => bv (sS g13 47 0) fun g14 => some (rB, g14) else ck 28 (4 + s11.1) (bv (sA s11.2 20 (4 + s11.1 : Int32).toNatClampNeg 1) fun g15 => ag 8 (g15.2.1 5) s11.1 fun x16 => ck 28 (12 + s11.1) (bv (sA g15 20 (12 + s11.1 : Int32).toNatClampNeg x16) fun g17 => ag 8 (g17.2.1 6) s11.1 fun x18 => ck 28 (20 + s11.1) (bv (sA g17 20 (20 + s11.1 : Int32).toNatClampNeg x18) fun g19 => rec11 (s11.1 + 1, g19)))))) FU (0, s10.2) else ag 4 (s10.2.2.1 1) s10.1 fun x20 => ck 28 (0 + s10.1) (bv (sA s10.2 20 (0 + s10.1 : Int32).toNatClampNeg x20) fun g21 => rec10 (s10.1 + 1, g21)))) FU (0, g)) (fun r => r.1 = rB ∧ Fr [45, 58, 47] [20] w0 g r.2 ∧ r.2.1 45 = nI 0 ∧ r.2.1 58 = nI 0 ∧ r.2.1 47 = nI 0 ∧ FB p f r.2) := by
  have b := hW.1
  have up := hW.2.2.2.2.2.2
  refine Sat.lp (fun q z => ∃ g', z = (nI q, g') ∧ Fr [] [20] w0 g g' ∧ ∀ j, j < q → g'.2.1 20 j = nI (fnd f j)) (pP p) (by omega) ⟨g, rfl, Fr.rf, fun j hj => absurd hj (Nat.not_lt_zero j)⟩ ?_ ?_
  · rintro rec q _ hq ⟨g', rfl, F, k⟩ hrec
    dsimp only
    rw [F.1 4 (by simp), e4, if_neg (nI_ge hq (by omega)), ag_nI (by omega) (by decide), F.2.1 1 (by simp), h1 q hq, show (0 + nI q : Int32) = nI (0 + q) from nI_add 0 q, Nat.zero_add, ck_nI (by omega) (by decide), bv_eq, nI_clamp (by omega), show (nI q + 1 : Int32) = nI (q + 1) from nI_add q 1]
    refine hrec _ ⟨_, rfl, F.sA (by simp), fun j hj => ?_⟩
    rw [sA_21, if_pos rfl]
    by_cases e : j = q
    · rw [e, upd_self]
    · rw [upd_ne _ _ e]
      exact k j (by omega)
  · rintro rec _ ⟨g1, rfl, F1, k1⟩
    dsimp only
    rw [F1.1 4 (by simp), e4, if_pos (nI_le (Nat.le_refl _) (by omega))]
    refine Sat.lp (fun c z => ∃ g', z = (nI c, g') ∧ Fr [] [20] w0 g g' ∧ (∀ j, j < pP p → g'.2.1 20 j = nI (fnd f j)) ∧ ∀ j, j < c → g'.2.1 20 (4 + j) = nI (fup f j) ∧ g'.2.1 20 (12 + j) = nI (fph f j) ∧ g'.2.1 20 (20 + j) = nI (frc f j)) (pK p) (by omega) ⟨g1, rfl, F1, k1, fun j hj => absurd hj (Nat.not_lt_zero j)⟩ ?_ ?_
    · rintro rec2 c _ hc ⟨g', rfl, F, k, kc⟩ hrec2
      have a5 : g'.2.1 5 c = nI (fph f c) := by rw [F.2.1 5 (by simp)]; exact (h2 c hc).1
      have a6 : g'.2.1 6 c = nI (frc f c) := by rw [F.2.1 6 (by simp)]; exact (h2 c hc).2
      dsimp only
      rw [F.1 5 (by simp), e5, if_neg (nI_ge hc (by omega)), show (4 + nI c : Int32) = nI (4 + c) from nI_add 4 c, show (12 + nI c : Int32) = nI (12 + c) from nI_add 12 c, show (20 + nI c : Int32) = nI (20 + c) from nI_add 20 c, ck_nI (by omega) (by decide), bv_eq, nI_clamp (by omega)]
      obtain ⟨u1, eu1⟩ : ∃ u1, u1 = sA g' 20 (4 + c) 1 := ⟨_, rfl⟩
      have y1 : u1.2.1 5 c = nI (fph f c) := by rw [eu1]; exact a5
      have y2 : u1.2.1 6 c = nI (frc f c) := by rw [eu1]; exact a6
      rw [← eu1, ag_nI (by omega) (by decide), y1, ck_nI (by omega) (by decide), bv_eq, nI_clamp (by omega)]
      obtain ⟨u2, eu2⟩ : ∃ u2, u2 = sA u1 20 (12 + c) (nI (fph f c)) := ⟨_, rfl⟩
      have y3 : u2.2.1 6 c = nI (frc f c) := by rw [eu2]; exact y2
      rw [← eu2, ag_nI (by omega) (by decide), y3, ck_nI (by omega) (by decide), bv_eq, nI_clamp (by omega), show (nI c + 1 : Int32) = nI (c + 1) from nI_add c 1]
      have z20 : (sA u2 20 (20 + c) (nI (frc f c))).2.1 20 = upd (upd (upd (g'.2.1 20) (4 + c) 1) (12 + c) (nI (fph f c))) (20 + c) (nI (frc f c)) := by rw [eu2, eu1]; rfl
      refine hrec2 _ ⟨_, rfl, ?_, fun j hj => ?_, fun j hj => ?_⟩
      · rw [eu2, eu1]
        exact ((F.sA (by simp)).sA (by simp)).sA (by simp)
      · rw [z20, upd_ne _ _ (by omega), upd_ne _ _ (by omega), upd_ne _ _ (by omega)]
        exact k j hj
      · rw [z20]
        by_cases e : j = c
        · rw [e, up c hc]
          refine ⟨?_, ?_, ?_⟩
          · rw [upd_ne _ _ (by omega), upd_ne _ _ (by omega), upd_self]
            rfl
          · rw [upd_ne _ _ (by omega), upd_self]
          · rw [upd_self]
        · refine ⟨?_, ?_, ?_⟩
          · rw [upd_ne _ _ (by omega), upd_ne _ _ (by omega), upd_ne _ _ (by omega)]
            exact (kc j (by omega)).1
          · rw [upd_ne _ _ (by omega), upd_ne _ _ (by omega), upd_ne _ _ (by omega)]
            exact (kc j (by omega)).2.1
          · rw [upd_ne _ _ (by omega), upd_ne _ _ (by omega), upd_ne _ _ (by omega)]
            exact (kc j (by omega)).2.2
    · rintro rec2 _ ⟨g2, rfl, F2, k2, kc2⟩
      dsimp only
      rw [F2.1 5 (by simp), e5, if_pos (nI_le (Nat.le_refl _) (by omega)), bv_eq, bv_eq, bv_eq]
      exact Sat.of ⟨rfl, (((F2.wd (by simp) (by simp) (by simp)).sS (by simp)).sS (by simp)).sS (by simp), rfl, rfl, rfl, k2, kc2⟩
set_option maxHeartbeats 2000000 in
theorem read2 {n : Nat} {T : Nat → Nat} (hx : TX n T) {gA gB : G} (hA : TA n T gA) (hB : TQ n T gB) (hO : gB.2.1 19 = gB0.2.1 19) (b38 : gB.1 38 = nI 0) (b40 : gB.1 40 = nI 0) (b41 : gB.1 41 = m1) : E2 n T gA gB (fA_Reader_read gA) (fB_M_readsAll gB) := by
  have hn := hx.1
  rw [read_eq, reads_eq]
  unfold fA_Plan_clear fA_Fleet_clear
  simp only [bv_eq, Option.bind_some]
  obtain ⟨GA, eGA⟩ : ∃ GA, GA = (sS (sS (sS (sS (sS (sS (sS (sS (sS (sS (sS (sS (sS (sS gA 3500 0) 3501 (-1)) 3502 0) 3506 0) 3511 0) 1500 0) 1501 0) 1502 0) 1503 0) 1504 0) 1505 0) 1506 0) 1507 0) 3100 0) := ⟨_, rfl⟩
  obtain ⟨GB, eGB⟩ : ∃ GB, GB = sS (sS (sS gB 21 0) 22 0) 23 0 := ⟨_, rfl⟩
  rw [← eGA, ← eGB]
  have FA0 : Fr lSA lTA w0 gA GA := by
    rw [eGA]
    exact ((((((((((((((Fr.rf.sS (by decide)).sS (by decide)).sS (by decide)).sS (by decide)).sS (by decide)).sS (by decide)).sS (by decide)).sS (by decide)).sS (by decide)).sS (by decide)).sS (by decide)).sS (by decide)).sS (by decide)).sS (by decide))
  have FB0 : Fr lSB lTB w0 gB GB := by
    rw [eGB]
    exact ((Fr.rf.sS (by decide)).sS (by decide)).sS (by decide)
  have FB0' : Fr [21, 22, 23] [] w0 gB GB := by
    rw [eGB]
    exact ((Fr.rf.sS (by simp)).sS (by simp)).sS (by simp)
  obtain ⟨X, eX⟩ : ∃ X : Xs, X = (0, 0, 0, 1) := ⟨_, rfl⟩
  have x0 : X.1 = 0 := by rw [eX]
  have LGA : LA n T X GA := by
    rw [eX]
    refine ⟨hA.fr FA0 (by decide) (by decide), ⟨Nat.zero_le _, by rw [eGA]; rfl⟩, fun _ => ⟨by rw [eGA]; rfl, Nat.zero_le _, by rw [eGA]; rfl, ?_, fun z => absurd z (by decide)⟩, fun z => absurd rfl z⟩
    rw [eGA]
    show (0 : Int32) = bI (tch n T 0)
    unfold tch
    rw [decide_eq_false (Nat.lt_irrefl 0), Bool.false_and]
    rfl
  have LGB : LQ n T X GB := by
    rw [eX]
    exact ⟨hB.fr FB0' (by simp) (by simp), ⟨Nat.zero_le _, by rw [FB0'.1 40 (by simp), b40]⟩, fun _ => ⟨by rw [FB0'.1 41 (by simp), b41], Nat.zero_le _, by rw [FB0'.1 38 (by simp), b38], fun z => absurd z (by decide)⟩, fun z => absurd rfl z⟩
  have OB : GB.2.1 19 = gB0.2.1 19 := (FB0'.2.1 19 (by simp)).trans hO
  obtain ⟨⟨r1, g1⟩, e1, F1, L1, er1, h1⟩ := gridA hx LGA x0 (by rw [eGA]; rfl) (by rw [eGA]; rfl) (by rw [eGA]; rfl) (by rw [eGA]; rfl)
  obtain ⟨⟨v2, g2⟩, e2, F2, L2, w2⟩ := toldB (k := 0) (lo := 4) (hi := 24) hx LGB OB (by decide) (by decide) (by decide)
  have F2 : Fr bS [] w0 GB g2 := F2
  have L2 : LQ n T (xG1 n T X).2 g2 := L2
  have w2 : v2 = nI (xG1 n T X).1 := w2
  obtain ⟨g3, eg3⟩ : ∃ g3, g3 = sS g2 18 (nI (xG1 n T X).1) := ⟨_, rfl⟩
  have F23 : Fr [18] [] w0 g2 g3 := by rw [eg3]; exact Fr.rf.sS (by simp)
  have F3 : Fr (18 :: bS) [] w0 GB g3 := (F2.wd (by decide) (by simp) (by simp)).tr F23 (by simp) (by simp) (by simp)
  obtain ⟨⟨v4, g4⟩, e4, F4, L4, w4⟩ := toldB (k := 1) (lo := 3) (hi := 12) hx (L2.fr F23 (by simp) (by simp)) ((F3.2.1 19 (by simp)).trans OB) (by decide) (by decide) (by decide)
  have F4 : Fr bS [] w0 g3 g4 := F4
  have L4 : LQ n T (xG2 n T X).2 g4 := L4
  have w4 : v4 = nI (xG2 n T X).1 := w4
  obtain ⟨g5, eg5⟩ : ∃ g5, g5 = sS g4 19 (nI (xG2 n T X).1) := ⟨_, rfl⟩
  have F45 : Fr [19] [] w0 g4 g5 := by rw [eg5]; exact Fr.rf.sS (by simp)
  have F35 : Fr (19 :: bS) [] w0 g3 g5 := (F4.wd (by decide) (by simp) (by simp)).tr F45 (by simp) (by simp) (by simp)
  obtain ⟨⟨v6, g6⟩, e6, F6, L6, w6⟩ := toldB (k := 2) (lo := 2) (hi := 96) hx (L4.fr F45 (by simp) (by simp)) ((F35.2.1 19 (by simp)).trans ((F3.2.1 19 (by simp)).trans OB)) (by decide) (by decide) (by decide)
  have F6 : Fr bS [] w0 g5 g6 := F6
  have L6 : LQ n T (xG3 n T X).2 g6 := L6
  have w6 : v6 = nI (xG3 n T X).1 := w6
  obtain ⟨g7, eg7⟩ : ∃ g7, g7 = sS g6 20 (nI (xG3 n T X).1) := ⟨_, rfl⟩
  have F67 : Fr [20] [] w0 g6 g7 := by rw [eg7]; exact Fr.rf.sS (by simp)
  have F57 : Fr (20 :: bS) [] w0 g5 g7 := (F6.wd (by decide) (by simp) (by simp)).tr F67 (by simp) (by simp) (by simp)
  obtain ⟨g8, e8, F8, L8⟩ := endB hx (L6.fr F67 (by simp) (by simp)) (fun z => by
    have e : xG3 n T X = xNu n T 2 96 (xM n T 2 (xG2 n T X).2) := rfl
    rw [e] at z ⊢
    exact xNu_se z)
  have F1 : Fr (1500 :: 1501 :: 1502 :: 3502 :: aS) [] w0 GA g1 := F1
  have L1 : LA n T (xE n T (xG3 n T X).2) g1 := L1
  have er1 : r1 = bI (decide ((xE n T (xG3 n T X).2).1 = 0)) := er1
  rw [e1, Option.bind_some, show (0 : Int32) = nI 0 from rfl, show (1 : Int32) = nI 1 from rfl, show (2 : Int32) = nI 2 from rfl, show (3 : Int32) = nI 3 from rfl, show (4 : Int32) = nI 4 from rfl, show (12 : Int32) = nI 12 from rfl, show (24 : Int32) = nI 24 from rfl, show (96 : Int32) = nI 96 from rfl, e2, Option.bind_some]
  dsimp only
  rw [w2, ← eg3, e4, Option.bind_some]
  dsimp only
  rw [w4, ← eg5, e6, Option.bind_some]
  dsimp only
  rw [w6, ← eg7, e8, Option.bind_some, er1]
  obtain ⟨Z, eZ⟩ : ∃ Z, Z = xE n T (xG3 n T X).2 := ⟨_, rfl⟩
  dsimp only at h1
  rw [← eZ] at L1 L8 h1 ⊢
  have FA1 : Fr lSA lTA w0 gA g1 := FA0.tr F1 (by decide) (by simp) (by simp)
  have FB3 : Fr (18 :: 19 :: 20 :: bS) [] w0 GB g8 := (((F3.wd (by decide) (by simp) (by simp)).tr F35 (by decide) (by simp) (by simp)).tr F57 (by decide) (by simp) (by simp)).tr F8 (by decide) (by simp) (by simp)
  have FB8 : Fr lSB lTB w0 gB g8 := FB0.tr FB3 (by decide) (by simp) (by simp)
  by_cases z : Z.1 = 0
  · rw [decide_eq_true z, if_neg (show ¬ bI true = nI 0 from z1)]
    obtain ⟨h2, h3, h4, h5, h6⟩ := h1 z
    have hO8 : g8.2.1 19 = gB0.2.1 19 := (FB3.2.1 19 (by simp)).trans OB
    have hDB : DB (grP n T X) f0 g8 := by
      refine DB0 ?_ ?_ ?_ ?_ ?_ ?_
      · rw [F8.1 18 (by decide), F57.1 18 (by decide), F35.1 18 (by decide), eg3]
        rfl
      · rw [F8.1 19 (by decide), F57.1 19 (by decide), eg5]
        rfl
      · rw [F8.1 20 (by decide), eg7]
        rfl
      · rw [FB3.1 21 (by decide), eGB]
        rfl
      · rw [FB3.1 22 (by decide), eGB]
        rfl
      · rw [FB3.1 23 (by decide), eGB]
        rfl
    exact loop2 hx n FU FU 0 1 Z (grP n T X) f0 g1 g8 (by omega) (by have : FU = 1000000 := rfl; omega) (by have : FU = 1000000 := rfl; omega) h4 z h5 L1 L8 h2 hDB h3 hO8 (by rw [h6, eGA]; rfl) FA1 FB8
  · rw [decide_eq_false z, if_pos (show bI false = nI 0 from rfl), show FU = 999999 + 1 from rfl, deadB L8 z]
    exact ⟨_, _, _, _, rfl, rfl, FA1, FB8, Z, L1, L8, by rw [decide_eq_false z]; rfl, fun y => absurd y z⟩
