/-! DESK: what was read is taken -/
def stY (p : Pl) (Y : Nat) : Pl := (fun i => if i = 3 then Y else p.1 i, p.2)
theorem stY_wd {p : Pl} {Y : Nat} : wd (stY p Y) = wd p := rfl
theorem stY_al {p : Pl} {Y : Nat} : al (stY p Y) = al p := rfl
theorem stY_us {p : Pl} {Y : Nat} {f : Fl} : us (stY p Y) f = us p f := rfl
theorem DW.wp {p : Pl} {f : Fl} (h : DW p f) {Y : Nat} (hY : 0 < Y ∧ Y ≤ 240) (hd : pD p ∣ Y) (ht : ∀ j, j < pP p → tu p j ∣ Y) : WP (stY p Y) := by
  obtain ⟨h1, h2, h3, h4, h5, h6, h7⟩ := h
  exact ⟨⟨h1.1, h1.2.1⟩, ⟨h1.2.2.1, h1.2.2.2.1⟩, ⟨h1.2.2.2.2.1, h1.2.2.2.2.2.1⟩, ⟨hY.1, hY.2, hd⟩, ⟨h1.2.2.2.2.2.2.1, h1.2.2.2.2.2.2.2.1, h1.2.2.2.2.2.2.2.2⟩, fun q hq => ⟨(h2 q hq).1, (h2 q hq).2.1, (h2 q hq).2.2, ht q hq⟩, h3, h4⟩
theorem Sat.bv {α β : Type} {a : α} {k : α → Option β} {P : β → Prop} (h : ∀ b, b = a → Sat (k b) P) : Sat (bv a k) P := h a rfl
set_option maxHeartbeats 2000000 in
theorem planTake {p : Pl} {f : Fl} {g : G} {Y : Nat} (hD : DA p f g) (hW : DW p f) (e3 : g.1 1503 = nI Y) (e4 : g.1 1504 = nI (al p)) (ew : ∀ y, y < pR p → g.2.1 16 y = nI (wd p y)) :
    Sat (fA_Plan_take g) (fun g' => Fr [300, 301, 302, 303, 304, 305, 306, 307] [4, 5, 6, 7, 8, 9, 10, 11, 12, 13, 14] w0 g g' ∧ PA (stY p Y) g') := by
  have b := hW.1
  unfold fA_Plan_take
  have F0 : Fr [300, 301, 302, 303, 304, 305, 306, 307] [4, 5, 6, 7, 8, 9, 10, 11, 12, 13, 14] w0 g g := Fr.rf
  refine Sat.bv (fun g1 q1 => ?_)
  have F1 : Fr [300, 301, 302, 303, 304, 305, 306, 307] [4, 5, 6, 7, 8, 9, 10, 11, 12, 13, 14] w0 g g1 := by rw [q1]; exact F0.sS (by simp)
  refine Sat.bv (fun g2 q2 => ?_)
  have F2 : Fr [300, 301, 302, 303, 304, 305, 306, 307] [4, 5, 6, 7, 8, 9, 10, 11, 12, 13, 14] w0 g g2 := by rw [q2]; exact F1.sS (by simp)
  refine Sat.bv (fun g3 q3 => ?_)
  have F3 : Fr [300, 301, 302, 303, 304, 305, 306, 307] [4, 5, 6, 7, 8, 9, 10, 11, 12, 13, 14] w0 g g3 := by rw [q3]; exact F2.sS (by simp)
  refine Sat.bv (fun g4 q4 => ?_)
  have F4 : Fr [300, 301, 302, 303, 304, 305, 306, 307] [4, 5, 6, 7, 8, 9, 10, 11, 12, 13, 14] w0 g g4 := by rw [q4]; exact F3.sS (by simp)
  refine Sat.bv (fun g5 q5 => ?_)
  have F5 : Fr [300, 301, 302, 303, 304, 305, 306, 307] [4, 5, 6, 7, 8, 9, 10, 11, 12, 13, 14] w0 g g5 := by rw [q5]; exact F4.sS (by simp)
  refine Sat.bv (fun g6 q6 => ?_)
  have F6 : Fr [300, 301, 302, 303, 304, 305, 306, 307] [4, 5, 6, 7, 8, 9, 10, 11, 12, 13, 14] w0 g g6 := by rw [q6]; exact F5.sS (by simp)
  refine Sat.bv (fun g7 q7 => ?_)
  have F7 : Fr [300, 301, 302, 303, 304, 305, 306, 307] [4, 5, 6, 7, 8, 9, 10, 11, 12, 13, 14] w0 g g7 := by rw [q7]; exact F6.sS (by simp)
  refine Sat.bv (fun g8 q8 => ?_)
  have F8 : Fr [300, 301, 302, 303, 304, 305, 306, 307] [4, 5, 6, 7, 8, 9, 10, 11, 12, 13, 14] w0 g g8 := by rw [q8]; exact F7.sS (by simp)
  rw [show (0 : Int32) = nI 0 from rfl, show (12 : Int32) = nI 12 from rfl, cp_nI (by omega) (by omega) (by decide) (by decide)]
  refine Sat.bv (fun g9 q9 => ?_)
  have F9 : Fr [300, 301, 302, 303, 304, 305, 306, 307] [4, 5, 6, 7, 8, 9, 10, 11, 12, 13, 14] w0 g g9 := by rw [q9]; exact F8.sC (by simp)
  rw [show (4 : Int32) = nI 4 from rfl, cp_nI (by omega) (by omega) (by decide) (by decide)]
  refine Sat.bv (fun g10 q10 => ?_)
  have F10 : Fr [300, 301, 302, 303, 304, 305, 306, 307] [4, 5, 6, 7, 8, 9, 10, 11, 12, 13, 14] w0 g g10 := by rw [q10]; exact F9.sC (by simp)
  rw [cp_nI (by omega) (by omega) (by decide) (by decide)]
  refine Sat.bv (fun g11 q11 => ?_)
  have F11 : Fr [300, 301, 302, 303, 304, 305, 306, 307] [4, 5, 6, 7, 8, 9, 10, 11, 12, 13, 14] w0 g g11 := by rw [q11]; exact F10.sC (by simp)
  rw [cp_nI (by omega) (by omega) (by decide) (by decide)]
  refine Sat.bv (fun g12 q12 => ?_)
  have F12 : Fr [300, 301, 302, 303, 304, 305, 306, 307] [4, 5, 6, 7, 8, 9, 10, 11, 12, 13, 14] w0 g g12 := by rw [q12]; exact F11.sC (by simp)
  rw [show (8 : Int32) = nI 8 from rfl, cp_nI (by omega) (by omega) (by decide) (by decide)]
  refine Sat.bv (fun g13 q13 => ?_)
  have F13 : Fr [300, 301, 302, 303, 304, 305, 306, 307] [4, 5, 6, 7, 8, 9, 10, 11, 12, 13, 14] w0 g g13 := by rw [q13]; exact F12.sC (by simp)
  rw [cp_nI (by omega) (by omega) (by decide) (by decide)]
  refine Sat.bv (fun g14 q14 => ?_)
  have F14 : Fr [300, 301, 302, 303, 304, 305, 306, 307] [4, 5, 6, 7, 8, 9, 10, 11, 12, 13, 14] w0 g g14 := by rw [q14]; exact F13.sC (by simp)
  rw [show (6 : Int32) = nI 6 from rfl, cp_nI (by omega) (by omega) (by decide) (by decide)]
  refine Sat.bv (fun g15 q15 => ?_)
  have F15 : Fr [300, 301, 302, 303, 304, 305, 306, 307] [4, 5, 6, 7, 8, 9, 10, 11, 12, 13, 14] w0 g g15 := by rw [q15]; exact F14.sC (by simp)
  rw [cp_nI (by omega) (by omega) (by decide) (by decide)]
  refine Sat.bv (fun g16 q16 => ?_)
  have F16 : Fr [300, 301, 302, 303, 304, 305, 306, 307] [4, 5, 6, 7, 8, 9, 10, 11, 12, 13, 14] w0 g g16 := by rw [q16]; exact F15.sC (by simp)
  rw [cp_nI (by omega) (by omega) (by decide) (by decide)]
  refine Sat.bv (fun g17 q17 => ?_)
  have F17 : Fr [300, 301, 302, 303, 304, 305, 306, 307] [4, 5, 6, 7, 8, 9, 10, 11, 12, 13, 14] w0 g g17 := by rw [q17]; exact F16.sC (by simp)
  rw [cp_nI (by omega) (by omega) (by decide) (by decide)]
  refine Sat.bv (fun g18 q18 => ?_)
  have F18 : Fr [300, 301, 302, 303, 304, 305, 306, 307] [4, 5, 6, 7, 8, 9, 10, 11, 12, 13, 14] w0 g g18 := by rw [q18]; exact F17.sC (by simp)
  rw [cp_nI (by omega) (by omega) (by decide) (by decide)]
  refine Sat.bv (fun g19 q19 => ?_)
  have F19 : Fr [300, 301, 302, 303, 304, 305, 306, 307] [4, 5, 6, 7, 8, 9, 10, 11, 12, 13, 14] w0 g g19 := by rw [q19]; exact F18.sC (by simp)
  have T19 : Fr [] [] w0 g19 g19 := Fr.rf
  have T18 : Fr [] [14] w0 g18 g19 := by
    have s : Fr [] [14] w0 g18 g19 := by rw [q19]; exact Fr.rf.sC (by simp)
    exact s.tr T19 (by simp) (by simp) (by simp)
  have T17 : Fr [] [13, 14] w0 g17 g19 := by
    have s : Fr [] [13, 14] w0 g17 g18 := by rw [q18]; exact Fr.rf.sC (by simp)
    exact s.tr T18 (by simp) (by simp) (by simp)
  have T16 : Fr [] [12, 13, 14] w0 g16 g19 := by
    have s : Fr [] [12, 13, 14] w0 g16 g17 := by rw [q17]; exact Fr.rf.sC (by simp)
    exact s.tr T17 (by simp) (by simp) (by simp)
  have T15 : Fr [] [11, 12, 13, 14] w0 g15 g19 := by
    have s : Fr [] [11, 12, 13, 14] w0 g15 g16 := by rw [q16]; exact Fr.rf.sC (by simp)
    exact s.tr T16 (by simp) (by simp) (by simp)
  have T14 : Fr [] [10, 11, 12, 13, 14] w0 g14 g19 := by
    have s : Fr [] [10, 11, 12, 13, 14] w0 g14 g15 := by rw [q15]; exact Fr.rf.sC (by simp)
    exact s.tr T15 (by simp) (by simp) (by simp)
  have T13 : Fr [] [9, 10, 11, 12, 13, 14] w0 g13 g19 := by
    have s : Fr [] [9, 10, 11, 12, 13, 14] w0 g13 g14 := by rw [q14]; exact Fr.rf.sC (by simp)
    exact s.tr T14 (by simp) (by simp) (by simp)
  have T12 : Fr [] [8, 9, 10, 11, 12, 13, 14] w0 g12 g19 := by
    have s : Fr [] [8, 9, 10, 11, 12, 13, 14] w0 g12 g13 := by rw [q13]; exact Fr.rf.sC (by simp)
    exact s.tr T13 (by simp) (by simp) (by simp)
  have T11 : Fr [] [7, 8, 9, 10, 11, 12, 13, 14] w0 g11 g19 := by
    have s : Fr [] [7, 8, 9, 10, 11, 12, 13, 14] w0 g11 g12 := by rw [q12]; exact Fr.rf.sC (by simp)
    exact s.tr T12 (by simp) (by simp) (by simp)
  have T10 : Fr [] [6, 7, 8, 9, 10, 11, 12, 13, 14] w0 g10 g19 := by
    have s : Fr [] [6, 7, 8, 9, 10, 11, 12, 13, 14] w0 g10 g11 := by rw [q11]; exact Fr.rf.sC (by simp)
    exact s.tr T11 (by simp) (by simp) (by simp)
  have T9 : Fr [] [5, 6, 7, 8, 9, 10, 11, 12, 13, 14] w0 g9 g19 := by
    have s : Fr [] [5, 6, 7, 8, 9, 10, 11, 12, 13, 14] w0 g9 g10 := by rw [q10]; exact Fr.rf.sC (by simp)
    exact s.tr T10 (by simp) (by simp) (by simp)
  have T8 : Fr [] [4, 5, 6, 7, 8, 9, 10, 11, 12, 13, 14] w0 g8 g19 := by
    have s : Fr [] [4, 5, 6, 7, 8, 9, 10, 11, 12, 13, 14] w0 g8 g9 := by rw [q9]; exact Fr.rf.sC (by simp)
    exact s.tr T9 (by simp) (by simp) (by simp)
  have T7 : Fr [307] [4, 5, 6, 7, 8, 9, 10, 11, 12, 13, 14] w0 g7 g19 := by
    have s : Fr [307] [4, 5, 6, 7, 8, 9, 10, 11, 12, 13, 14] w0 g7 g8 := by rw [q8]; exact Fr.rf.sS (by simp)
    exact s.tr T8 (by simp) (by simp) (by simp)
  have T6 : Fr [306, 307] [4, 5, 6, 7, 8, 9, 10, 11, 12, 13, 14] w0 g6 g19 := by
    have s : Fr [306, 307] [4, 5, 6, 7, 8, 9, 10, 11, 12, 13, 14] w0 g6 g7 := by rw [q7]; exact Fr.rf.sS (by simp)
    exact s.tr T7 (by simp) (by simp) (by simp)
  have T5 : Fr [305, 306, 307] [4, 5, 6, 7, 8, 9, 10, 11, 12, 13, 14] w0 g5 g19 := by
    have s : Fr [305, 306, 307] [4, 5, 6, 7, 8, 9, 10, 11, 12, 13, 14] w0 g5 g6 := by rw [q6]; exact Fr.rf.sS (by simp)
    exact s.tr T6 (by simp) (by simp) (by simp)
  have T4 : Fr [304, 305, 306, 307] [4, 5, 6, 7, 8, 9, 10, 11, 12, 13, 14] w0 g4 g19 := by
    have s : Fr [304, 305, 306, 307] [4, 5, 6, 7, 8, 9, 10, 11, 12, 13, 14] w0 g4 g5 := by rw [q5]; exact Fr.rf.sS (by simp)
    exact s.tr T5 (by simp) (by simp) (by simp)
  have T3 : Fr [303, 304, 305, 306, 307] [4, 5, 6, 7, 8, 9, 10, 11, 12, 13, 14] w0 g3 g19 := by
    have s : Fr [303, 304, 305, 306, 307] [4, 5, 6, 7, 8, 9, 10, 11, 12, 13, 14] w0 g3 g4 := by rw [q4]; exact Fr.rf.sS (by simp)
    exact s.tr T4 (by simp) (by simp) (by simp)
  have T2 : Fr [302, 303, 304, 305, 306, 307] [4, 5, 6, 7, 8, 9, 10, 11, 12, 13, 14] w0 g2 g19 := by
    have s : Fr [302, 303, 304, 305, 306, 307] [4, 5, 6, 7, 8, 9, 10, 11, 12, 13, 14] w0 g2 g3 := by rw [q3]; exact Fr.rf.sS (by simp)
    exact s.tr T3 (by simp) (by simp) (by simp)
  have T1 : Fr [301, 302, 303, 304, 305, 306, 307] [4, 5, 6, 7, 8, 9, 10, 11, 12, 13, 14] w0 g1 g19 := by
    have s : Fr [301, 302, 303, 304, 305, 306, 307] [4, 5, 6, 7, 8, 9, 10, 11, 12, 13, 14] w0 g1 g2 := by rw [q2]; exact Fr.rf.sS (by simp)
    exact s.tr T2 (by simp) (by simp) (by simp)
  have v300 : g19.1 300 = g.1 1500 := by
    rw [T1.1 300 (by simp), q1]
    show g.1 1500 = _
    exact F0.1 1500 (by simp)
  have v301 : g19.1 301 = g.1 1501 := by
    rw [T2.1 301 (by simp), q2]
    show g1.1 1501 = _
    exact F1.1 1501 (by simp)
  have v302 : g19.1 302 = g.1 1502 := by
    rw [T3.1 302 (by simp), q3]
    show g2.1 1502 = _
    exact F2.1 1502 (by simp)
  have v303 : g19.1 303 = g.1 1503 := by
    rw [T4.1 303 (by simp), q4]
    show g3.1 1503 = _
    exact F3.1 1503 (by simp)
  have v304 : g19.1 304 = g.1 1504 := by
    rw [T5.1 304 (by simp), q5]
    show g4.1 1504 = _
    exact F4.1 1504 (by simp)
  have v305 : g19.1 305 = g.1 1505 := by
    rw [T6.1 305 (by simp), q6]
    show g5.1 1505 = _
    exact F5.1 1505 (by simp)
  have v306 : g19.1 306 = g.1 1506 := by
    rw [T7.1 306 (by simp), q7]
    show g6.1 1506 = _
    exact F6.1 1506 (by simp)
  have v307 : g19.1 307 = g.1 1507 := by
    rw [T8.1 307 (by simp), q8]
    show g7.1 1507 = _
    exact F7.1 1507 (by simp)
  have v4 : ∀ j, j < 12 → g19.2.1 4 j = g.2.1 16 j := by
    intro j hj
    rw [T9.2.1 4 (by simp), q9, sC_21, if_pos rfl, nI_clamp (by decide), nI_clamp (by decide), cpy0 hj, F8.2.1 16 (by simp)]
  have v5 : ∀ j, j < 4 → g19.2.1 5 j = g.2.1 17 j := by
    intro j hj
    rw [T10.2.1 5 (by simp), q10, sC_21, if_pos rfl, nI_clamp (by decide), nI_clamp (by decide), cpy0 hj, F9.2.1 17 (by simp)]
  have v6 : ∀ j, j < 4 → g19.2.1 6 j = g.2.1 18 j := by
    intro j hj
    rw [T11.2.1 6 (by simp), q11, sC_21, if_pos rfl, nI_clamp (by decide), nI_clamp (by decide), cpy0 hj, F10.2.1 18 (by simp)]
  have v7 : ∀ j, j < 4 → g19.2.1 7 j = g.2.1 19 j := by
    intro j hj
    rw [T12.2.1 7 (by simp), q12, sC_21, if_pos rfl, nI_clamp (by decide), nI_clamp (by decide), cpy0 hj, F11.2.1 19 (by simp)]
  have v8 : ∀ j, j < 8 → g19.2.1 8 j = g.2.1 20 j := by
    intro j hj
    rw [T13.2.1 8 (by simp), q13, sC_21, if_pos rfl, nI_clamp (by decide), nI_clamp (by decide), cpy0 hj, F12.2.1 20 (by simp)]
  have v9 : ∀ j, j < 8 → g19.2.1 9 j = g.2.1 21 j := by
    intro j hj
    rw [T14.2.1 9 (by simp), q14, sC_21, if_pos rfl, nI_clamp (by decide), nI_clamp (by decide), cpy0 hj, F13.2.1 21 (by simp)]
  have v10 : ∀ j, j < 6 → g19.2.1 10 j = g.2.1 22 j := by
    intro j hj
    rw [T15.2.1 10 (by simp), q15, sC_21, if_pos rfl, nI_clamp (by decide), nI_clamp (by decide), cpy0 hj, F14.2.1 22 (by simp)]
  have v11 : ∀ j, j < 6 → g19.2.1 11 j = g.2.1 23 j := by
    intro j hj
    rw [T16.2.1 11 (by simp), q16, sC_21, if_pos rfl, nI_clamp (by decide), nI_clamp (by decide), cpy0 hj, F15.2.1 23 (by simp)]
  have v12 : ∀ j, j < 6 → g19.2.1 12 j = g.2.1 24 j := by
    intro j hj
    rw [T17.2.1 12 (by simp), q17, sC_21, if_pos rfl, nI_clamp (by decide), nI_clamp (by decide), cpy0 hj, F16.2.1 24 (by simp)]
  have v13 : ∀ j, j < 6 → g19.2.1 13 j = g.2.1 25 j := by
    intro j hj
    rw [T18.2.1 13 (by simp), q18, sC_21, if_pos rfl, nI_clamp (by decide), nI_clamp (by decide), cpy0 hj, F17.2.1 25 (by simp)]
  have v14 : ∀ j, j < 6 → g19.2.1 14 j = g.2.1 26 j := by
    intro j hj
    rw [T19.2.1 14 (by simp), q19, sC_21, if_pos rfl, nI_clamp (by decide), nI_clamp (by decide), cpy0 hj, F18.2.1 26 (by simp)]
  refine Sat.of ⟨F19, ?_⟩
  obtain ⟨h1, h2, h3, h4, h5⟩ := hD
  refine ⟨⟨v300.trans h1.1, v301.trans h1.2.1, v302.trans h1.2.2.1, v303.trans e3, v304.trans e4, v305.trans h1.2.2.2.1, v306.trans h1.2.2.2.2.1, v307.trans h1.2.2.2.2.2⟩, fun q hq => ?_, fun c hc => ?_, fun z hz => ?_, fun y hy => ?_⟩
  · have hq : q < pP p := hq
    rw [v6 q (by omega), v7 q (by omega), v5 q (by omega)]
    exact h2 q hq
  · have hc : c < pK p := hc
    rw [v9 c (by omega), v8 c (by omega)]
    exact h3 c hc
  · have hz : z < pS p := hz
    rw [v11 z (by omega), v12 z (by omega), v13 z (by omega), v14 z (by omega), v10 z (by omega)]
    exact h4 z hz
  · have hy : y < pR p := hy
    rw [v4 y (by omega)]
    exact ew y hy
abbrev w2' : Bool × Bool × Bool := (false, false, true)
theorem adoptA {p : Pl} (hw : WP p) {g : G} (hP : PA p g) : Sat (fA_Sky_adopt g) (fun g' => Fr [11801, 11802] [121] w2' g g' ∧ SH p g' ∧ SK p g') := by
  have h1 := hw.c
  have a := al_b hw
  have a0 : 0 < al p := Nat.lt_of_lt_of_le (wd_pos hw (y := 0) (by omega)) (a.2 0 (by omega))
  unfold fA_Sky_adopt
  rw [bv_eq, bv_eq, hP.1.1]
  have ef : (((1 : Int32) <<< (nI (pC p) &&& 31)) - 1 : Int32) = nI (2 ^ pC p - 1) := by
    rw [show (1 : Int32) = nI 1 from rfl, show (31 : Int32) = nI 31 from rfl, n_31 (by omega), n_shl _ (by omega), Nat.one_shiftLeft, nI_sub (Nat.one_le_two_pow)]
  rw [ef]
  obtain ⟨g2, eg2⟩ : ∃ g2, g2 = sS (sS g 11801 (nI (2 ^ pC p - 1))) 11802 0 := ⟨_, rfl⟩
  rw [← eg2]
  have F2 : Fr [11801, 11802] [121] w2' g g2 := by rw [eg2]; exact (Fr.rf.sS (by simp)).sS (by simp)
  have k1 : g2.1 11801 = nI (2 ^ pC p - 1) := by rw [eg2]; rfl
  have k2 : g2.1 11802 = nI 0 := by rw [eg2]; rfl
  refine Sat.lp (fun y z => ∃ g', z = (nI y, g') ∧ Fr [] [] w2' g2 g' ∧ ∀ j, j < y → g'.2.2.2.2 j = FP.fdiv (FP.i2f (nI (wd p j))) (FP.i2f (nI (al p)))) (pR p) (by omega) ⟨g2, rfl, Fr.rf, fun j hj => absurd hj (Nat.not_lt_zero j)⟩ ?_ ?_
  · rintro rec y _ hy ⟨g', rfl, F, k⟩ hrec
    have P' := (hP.fr F2 (by simp) (by simp)).fr F (by simp) (by simp)
    have hs := (shr_b hw hy).1
    dsimp only
    rw [P'.1.2.1, if_neg (nI_ge hy (by omega)), lj_eq, P'.1.2.2.2.2.1, if_neg (show ¬ nI (al p) ≤ 0 from nI_ge (a := 0) a0 (by omega)), ag_nI (by omega) (by decide), P'.2.2.2.2 y hy, nf_eq (show (FP.fdiv (FP.i2f (nI (wd p y))) (FP.i2f (nI (al p)))).toNat ≤ 2139095040 from Nat.le_of_lt hs.1)]
    dsimp only
    rw [ck_nI (by omega) (by decide), bv_eq, nI_clamp (by omega), show (nI y + 1 : Int32) = nI (y + 1) from nI_add y 1]
    refine hrec _ ⟨_, rfl, F.sH rfl, fun j hj => ?_⟩
    show (if j = y then _ else g'.2.2.2.2 j) = _
    by_cases e : j = y
    · rw [if_pos e, e]
    · rw [if_neg e]
      exact k j (by omega)
  · rintro rec _ ⟨g', rfl, F, k⟩
    have P' := (hP.fr F2 (by simp) (by simp)).fr F (by simp) (by simp)
    dsimp only
    rw [P'.1.2.1, if_pos (nI_le (Nat.le_refl _) (by omega))]
    refine Sat.lp (fun c z => ∃ g3, z = (nI c, g3) ∧ Fr [] [121] w0 g' g3 ∧ ∀ j, j < c → g3.2.1 121 j = m1) 8 (by decide) ⟨g', rfl, Fr.rf, fun j hj => absurd hj (Nat.not_lt_zero j)⟩ ?_ ?_
    · rintro rec2 c _ hc ⟨g3, rfl, F3, k3⟩ hrec2
      dsimp only
      rw [if_neg (show ¬ 8 ≤ nI c from nI_ge (b := 8) hc (by decide)), ck_nI (by omega) (by decide), bv_eq, nI_clamp (by omega), show (nI c + 1 : Int32) = nI (c + 1) from nI_add c 1]
      refine hrec2 _ ⟨_, rfl, F3.sA (by simp), fun j hj => ?_⟩
      rw [sA_21, if_pos rfl]
      by_cases e : j = c
      · rw [e, upd_self]
        rfl
      · rw [upd_ne _ _ e]
        exact k3 j (by omega)
    · rintro rec2 _ ⟨g3, rfl, F3, k3⟩
      dsimp only
      rw [if_pos (show (8 : Int32) ≤ nI 8 by decide)]
      have Fall : Fr [11801, 11802] [121] w2' g g3 := (F2.tr F (by simp) (by simp) (by simp)).tr F3 (by simp) (by simp) (by simp)
      refine Sat.of ⟨Fall, ?_, ⟨?_, 0, by decide, ?_, fun r _ hr => ?_⟩, fun c hc => Or.inl (k3 c (by omega))⟩
      · intro y hy
        rw [F3.2.2.2.2 rfl]
        exact k y hy
      · rw [F3.1 11801 (by simp), F.1 11801 (by simp), k1]
      · rw [F3.1 11802 (by simp), F.1 11802 (by simp), k2]
      · rw [Nat.zero_testBit] at hr
        exact absurd hr (by decide)
/-- the model -/
theorem awayB' {a b : Nat} (g : G) (ha : a < 2 ^ 31) (hb : b < 2 ^ 31) : fB_M_away (nI a) (nI b) g = some (nI (ds a b)) := by
  unfold fB_M_away ds
  by_cases l : b ≤ a
  · rw [if_pos (nI_le l ha), if_pos l, nI_sub l]
  · rw [if_neg (nI_ge (by omega) hb), if_neg l, nI_sub (by omega)]
set_option maxHeartbeats 4000000 in
theorem tellsB {p : Pl} {f : Fl} {g : G} (hD : DB p f g) (hW : DW p f) :
    Sat (fB_M_tellsAll g) (fun g' => Fr [0, 1, 2, 3, 4, 5, 6, 7, 8, 9] [1, 2, 3, 4, 5, 6, 7, 8] w0 g g' ∧ g'.1 0 = nI 1 ∧ PB (stY p (cyc p (pP p))) g' ∧ (∀ q, q < pP p → g'.2.1 1 q = nI (fnd f q)) ∧ ∀ c, c < pK p → g'.2.1 5 c = nI (fph f c) ∧ g'.2.1 6 c = nI (frc f c)) := by
  have b := hW.1
  unfold fB_M_tellsAll
  rw [bv_eq, bv_eq, bv_eq, bv_eq, bv_eq, bv_eq, bv_eq]
  obtain ⟨g7, eg7⟩ : ∃ g7, g7 = sS (sS (sS (sS (sS (sS (sS g 0 1) 1 ((sS g 0 1).1 18)) 2 ((sS (sS g 0 1) 1 ((sS g 0 1).1 18)).1 19)) 3 ((sS (sS (sS g 0 1) 1 ((sS g 0 1).1 18)) 2 ((sS (sS g 0 1) 1 ((sS g 0 1).1 18)).1 19)).1 20)) 4 ((sS (sS (sS (sS g 0 1) 1 ((sS g 0 1).1 18)) 2 ((sS (sS g 0 1) 1 ((sS g 0 1).1 18)).1 19)) 3 ((sS (sS (sS g 0 1) 1 ((sS g 0 1).1 18)) 2 ((sS (sS g 0 1) 1 ((sS g 0 1).1 18)).1 19)).1 20)).1 21)) 5 ((sS (sS (sS (sS (sS g 0 1) 1 ((sS g 0 1).1 18)) 2 ((sS (sS g 0 1) 1 ((sS g 0 1).1 18)).1 19)) 3 ((sS (sS (sS g 0 1) 1 ((sS g 0 1).1 18)) 2 ((sS (sS g 0 1) 1 ((sS g 0 1).1 18)).1 19)).1 20)) 4 ((sS (sS (sS (sS g 0 1) 1 ((sS g 0 1).1 18)) 2 ((sS (sS g 0 1) 1 ((sS g 0 1).1 18)).1 19)) 3 ((sS (sS (sS g 0 1) 1 ((sS g 0 1).1 18)) 2 ((sS (sS g 0 1) 1 ((sS g 0 1).1 18)).1 19)).1 20)).1 21)).1 22)) 6 ((sS (sS (sS (sS (sS (sS g 0 1) 1 ((sS g 0 1).1 18)) 2 ((sS (sS g 0 1) 1 ((sS g 0 1).1 18)).1 19)) 3 ((sS (sS (sS g 0 1) 1 ((sS g 0 1).1 18)) 2 ((sS (sS g 0 1) 1 ((sS g 0 1).1 18)).1 19)).1 20)) 4 ((sS (sS (sS (sS g 0 1) 1 ((sS g 0 1).1 18)) 2 ((sS (sS g 0 1) 1 ((sS g 0 1).1 18)).1 19)) 3 ((sS (sS (sS g 0 1) 1 ((sS g 0 1).1 18)) 2 ((sS (sS g 0 1) 1 ((sS g 0 1).1 18)).1 19)).1 20)).1 21)) 5 ((sS (sS (sS (sS (sS g 0 1) 1 ((sS g 0 1).1 18)) 2 ((sS (sS g 0 1) 1 ((sS g 0 1).1 18)).1 19)) 3 ((sS (sS (sS g 0 1) 1 ((sS g 0 1).1 18)) 2 ((sS (sS g 0 1) 1 ((sS g 0 1).1 18)).1 19)).1 20)) 4 ((sS (sS (sS (sS g 0 1) 1 ((sS g 0 1).1 18)) 2 ((sS (sS g 0 1) 1 ((sS g 0 1).1 18)).1 19)) 3 ((sS (sS (sS g 0 1) 1 ((sS g 0 1).1 18)) 2 ((sS (sS g 0 1) 1 ((sS g 0 1).1 18)).1 19)).1 20)).1 21)).1 22)).1 23) := ⟨_, rfl⟩
  rw [← eg7]
  have F7 : Fr [0, 1, 2, 3, 4, 5, 6, 7, 8, 9] [1, 2, 3, 4, 5, 6, 7, 8] w0 g g7 := by
    rw [eg7]
    exact ((((((Fr.rf.sS (by simp)).sS (by simp)).sS (by simp)).sS (by simp)).sS (by simp)).sS (by simp)).sS (by simp)
  have D7 : DB p f g7 := hD.fr F7 (by decide) (by decide)
  have s0 : g7.1 0 = nI 1 := by rw [eg7]; rfl
  have s1 : g7.1 1 = nI (pC p) := by rw [eg7]; exact hD.1.1
  have s2 : g7.1 2 = nI (pR p) := by rw [eg7]; exact hD.1.2.1
  have s3 : g7.1 3 = nI (pD p) := by rw [eg7]; exact hD.1.2.2.1
  have s4 : g7.1 4 = nI (pP p) := by rw [eg7]; exact hD.1.2.2.2.1
  have s5 : g7.1 5 = nI (pK p) := by rw [eg7]; exact hD.1.2.2.2.2.1
  have s6 : g7.1 6 = nI (pS p) := by rw [eg7]; exact hD.1.2.2.2.2.2
  rw [cycleB D7 hW, Option.bind_some, bv_eq, bv_eq]
  obtain ⟨g10, eg10⟩ : ∃ g10, g10 = sS (sS g7 7 (nI (cyc p (pP p)))) 8 ((sS g7 7 (nI (cyc p (pP p)))).1 1 * (sS g7 7 (nI (cyc p (pP p)))).1 2) := ⟨_, rfl⟩
  rw [← eg10]
  have F710 : Fr [7, 8] [] w0 g7 g10 := by rw [eg10]; exact (Fr.rf.sS (by simp)).sS (by simp)
  have F10 : Fr [0, 1, 2, 3, 4, 5, 6, 7, 8, 9] [1, 2, 3, 4, 5, 6, 7, 8] w0 g g10 := F7.tr F710 (by simp) (by simp) (by simp)
  have D10 : DB p f g10 := hD.fr F10 (by decide) (by decide)
  have s7 : g10.1 7 = nI (cyc p (pP p)) := by rw [eg10]; rfl
  have s8 : g10.1 8 = nI (pC p * pR p) := by
    rw [eg10]
    show g7.1 1 * g7.1 2 = _
    rw [s1, s2, nI_mul]
  have t0 : g10.1 0 = nI 1 := by rw [F710.1 0 (by simp), s0]
  have t1 : g10.1 1 = nI (pC p) := by rw [F710.1 1 (by simp), s1]
  have t2 : g10.1 2 = nI (pR p) := by rw [F710.1 2 (by simp), s2]
  have t3 : g10.1 3 = nI (pD p) := by rw [F710.1 3 (by simp), s3]
  have t4 : g10.1 4 = nI (pP p) := by rw [F710.1 4 (by simp), s4]
  have t5 : g10.1 5 = nI (pK p) := by rw [F710.1 5 (by simp), s5]
  have t6 : g10.1 6 = nI (pS p) := by rw [F710.1 6 (by simp), s6]
  refine Sat.lp (fun q z => ∃ g', z = (nI q, g') ∧ Fr [] [1, 2, 3] w0 g10 g' ∧ ∀ j, j < q → g'.2.1 1 j = nI (fnd f j) ∧ g'.2.1 2 j = nI (tl p j) ∧ g'.2.1 3 j = nI (tu p j)) (pP p) (by omega) ⟨g10, rfl, Fr.rf, fun j hj => absurd hj (Nat.not_lt_zero j)⟩ ?_ ?_
  · rintro rec q _ hq ⟨g', rfl, F, k⟩ hrec
    have dq := D10.2.1 q hq
    have a9 : g'.2.1 9 q = nI (fnd f q) := by rw [F.2.1 9 (by simp)]; exact dq.1
    have a10 : g'.2.1 10 q = nI (tl p q) := by rw [F.2.1 10 (by simp)]; exact dq.2.1
    have a11 : g'.2.1 11 q = nI (tu p q) := by rw [F.2.1 11 (by simp)]; exact dq.2.2
    dsimp only
    rw [F.1 4 (by simp), t4, if_neg (nI_ge hq (by omega)), ag_nI (by omega) (by decide), a9, ck_nI (by omega) (by decide), bv_eq, nI_clamp (by omega)]
    obtain ⟨u1, eu1⟩ : ∃ u1, u1 = sA g' 1 q (nI (fnd f q)) := ⟨_, rfl⟩
    have y1 : u1.2.1 10 q = nI (tl p q) := by rw [eu1]; exact a10
    have y2 : u1.2.1 11 q = nI (tu p q) := by rw [eu1]; exact a11
    rw [← eu1, ag_nI (by omega) (by decide), y1, ck_nI (by omega) (by decide), bv_eq]
    obtain ⟨u2, eu2⟩ : ∃ u2, u2 = sA u1 2 q (nI (tl p q)) := ⟨_, rfl⟩
    have y3 : u2.2.1 11 q = nI (tu p q) := by rw [eu2]; exact y2
    rw [← eu2, ag_nI (by omega) (by decide), y3, ck_nI (by omega) (by decide), bv_eq, show (nI q + 1 : Int32) = nI (q + 1) from nI_add q 1]
    refine hrec _ ⟨_, rfl, ?_, fun j hj => ?_⟩
    · rw [eu2, eu1]
      exact ((F.sA (by simp)).sA (by simp)).sA (by simp)
    · rw [eu2, eu1]
      show upd (g'.2.1 1) q (nI (fnd f q)) j = _ ∧ upd (g'.2.1 2) q (nI (tl p q)) j = _ ∧ upd (g'.2.1 3) q (nI (tu p q)) j = _
      by_cases e : j = q
      · rw [e, upd_self, upd_self, upd_self]
        exact ⟨rfl, rfl, rfl⟩
      · rw [upd_ne _ _ e, upd_ne _ _ e, upd_ne _ _ e]
        exact k j (by omega)
  · rintro rec _ ⟨g11, rfl, F11, k11⟩
    dsimp only
    rw [F11.1 4 (by simp), t4, if_pos (nI_le (Nat.le_refl _) (by omega))]
    refine Sat.lp (fun c z => ∃ g', z = (nI c, g') ∧ Fr [] [4, 5, 6] w0 g11 g' ∧ ∀ j, j < c → g'.2.1 4 j = nI (hm p j) ∧ g'.2.1 5 j = nI (fph f j) ∧ g'.2.1 6 j = nI (frc f j)) (pK p) (by omega) ⟨g11, rfl, Fr.rf, fun j hj => absurd hj (Nat.not_lt_zero j)⟩ ?_ ?_
    · rintro rec2 c _ hc ⟨g', rfl, F, k⟩ hrec2
      have dq := D10.2.2.1 c hc
      have a12 : g'.2.1 12 c = nI (hm p c) := by rw [F.2.1 12 (by simp), F11.2.1 12 (by simp)]; exact dq.1
      have a13 : g'.2.1 13 c = nI (fph f c) := by rw [F.2.1 13 (by simp), F11.2.1 13 (by simp)]; exact dq.2.1
      have a14 : g'.2.1 14 c = nI (frc f c) := by rw [F.2.1 14 (by simp), F11.2.1 14 (by simp)]; exact dq.2.2
      dsimp only
      rw [F.1 5 (by simp), F11.1 5 (by simp), t5, if_neg (nI_ge hc (by omega)), ag_nI (by omega) (by decide), a12, ck_nI (by omega) (by decide), bv_eq, nI_clamp (by omega)]
      obtain ⟨u1, eu1⟩ : ∃ u1, u1 = sA g' 4 c (nI (hm p c)) := ⟨_, rfl⟩
      have y1 : u1.2.1 13 c = nI (fph f c) := by rw [eu1]; exact a13
      have y2 : u1.2.1 14 c = nI (frc f c) := by rw [eu1]; exact a14
      rw [← eu1, ag_nI (by omega) (by decide), y1, ck_nI (by omega) (by decide), bv_eq]
      obtain ⟨u2, eu2⟩ : ∃ u2, u2 = sA u1 5 c (nI (fph f c)) := ⟨_, rfl⟩
      have y3 : u2.2.1 14 c = nI (frc f c) := by rw [eu2]; exact y2
      rw [← eu2, ag_nI (by omega) (by decide), y3, ck_nI (by omega) (by decide), bv_eq, show (nI c + 1 : Int32) = nI (c + 1) from nI_add c 1]
      refine hrec2 _ ⟨_, rfl, ?_, fun j hj => ?_⟩
      · rw [eu2, eu1]
        exact ((F.sA (by simp)).sA (by simp)).sA (by simp)
      · rw [eu2, eu1]
        show upd (g'.2.1 4) c (nI (hm p c)) j = _ ∧ upd (g'.2.1 5) c (nI (fph f c)) j = _ ∧ upd (g'.2.1 6) c (nI (frc f c)) j = _
        by_cases e : j = c
        · rw [e, upd_self, upd_self, upd_self]
          exact ⟨rfl, rfl, rfl⟩
        · rw [upd_ne _ _ e, upd_ne _ _ e, upd_ne _ _ e]
          exact k j (by omega)
    · rintro rec2 _ ⟨g12, rfl, F12, k12⟩
      dsimp only
      rw [F12.1 5 (by simp), F11.1 5 (by simp), t5, if_pos (nI_le (Nat.le_refl _) (by omega))]
      refine Sat.lp (fun i z => ∃ g', z = (nI i, g') ∧ Fr [] [7] w0 g12 g' ∧ ∀ j, j < i → g'.2.1 7 j = g12.2.1 15 j) 24 (by decide) ⟨g12, rfl, Fr.rf, fun j hj => absurd hj (Nat.not_lt_zero j)⟩ ?_ ?_
      · rintro rec3 i _ hi ⟨g', rfl, F, k⟩ hrec3
        dsimp only
        rw [if_neg (show ¬ 24 ≤ nI i from nI_ge (b := 24) hi (by decide)), ag_nI (by omega) (by decide), ck_nI (by omega) (by decide), bv_eq, nI_clamp (by omega), show (nI i + 1 : Int32) = nI (i + 1) from nI_add i 1]
        refine hrec3 _ ⟨_, rfl, F.sA (by simp), fun j hj => ?_⟩
        rw [sA_21, if_pos rfl]
        by_cases e : j = i
        · rw [e, upd_self, F.2.1 15 (by simp)]
        · rw [upd_ne _ _ e]
          exact k j (by omega)
      · rintro rec3 _ ⟨g13, rfl, F13, k13⟩
        dsimp only
        rw [if_pos (show (24 : Int32) ≤ nI 24 by decide)]
        refine Sat.lp (fun i z => ∃ g', z = (nI i, g') ∧ Fr [] [8] w0 g13 g' ∧ ∀ j, j < i → g'.2.1 8 j = g13.2.1 16 j) 108 (by decide) ⟨g13, rfl, Fr.rf, fun j hj => absurd hj (Nat.not_lt_zero j)⟩ ?_ ?_
        · rintro rec4 i _ hi ⟨g', rfl, F, k⟩ hrec4
          dsimp only
          rw [if_neg (show ¬ 108 ≤ nI i from nI_ge (b := 108) hi (by decide)), ag_nI (by omega) (by decide), ck_nI (by omega) (by decide), bv_eq, nI_clamp (by omega), show (nI i + 1 : Int32) = nI (i + 1) from nI_add i 1]
          refine hrec4 _ ⟨_, rfl, F.sA (by simp), fun j hj => ?_⟩
          rw [sA_21, if_pos rfl]
          by_cases e : j = i
          · rw [e, upd_self, F.2.1 16 (by simp)]
          · rw [upd_ne _ _ e]
            exact k j (by omega)
        · rintro rec4 _ ⟨g14, rfl, F14, k14⟩
          dsimp only
          rw [if_pos (show (108 : Int32) ≤ nI 108 by decide), bv_eq]
          have F1014 : Fr [] [1, 2, 3, 4, 5, 6, 7, 8] w0 g10 g14 := (((F11.wd (by simp) (by simp) (by simp)).tr F12 (by simp) (by simp) (by simp)).tr F13 (by simp) (by simp) (by simp)).tr F14 (by simp) (by simp) (by simp)
          refine Sat.lp (fun y z => ∃ g', z = (nI y, g') ∧ Fr [9] [] w0 g14 g' ∧ g'.1 9 = nI (sm (fun y => pC p * wd p y) y)) (pR p) (by omega) ⟨_, rfl, Fr.rf.sS (by simp), rfl⟩ ?_ ?_
          · rintro rec5 y _ hy ⟨g', rfl, F, k⟩ hrec5
            have v1 : g'.1 1 = nI (pC p) := by rw [F.1 1 (by simp), F1014.1 1 (by simp), t1]
            have v2 : g'.1 2 = nI (pR p) := by rw [F.1 2 (by simp), F1014.1 2 (by simp), t2]
            have dl : ds (2 * y) (pR p - 1) ≤ pR p - 1 := by
              unfold ds
              split <;> omega
            have ew : fB_M_widthOf (nI y) g' = some (nI (wd p y)) := by
              unfold fB_M_widthOf
              rw [v2, show (2 * nI y : Int32) = nI (2 * y) by rw [show (2 : Int32) = nI 2 from rfl, nI_mul], show (nI (pR p) - 1 : Int32) = nI (pR p - 1) from nI_sub (b := 1) (by omega), awayB' _ (by omega) (by omega), Option.bind_some, show (2 : Int32) = nI 2 from rfl, n_dz (by decide) (by decide), n_div (by omega) (by decide), nI_sub (by omega)]
              rfl
            dsimp only
            rw [v2, if_neg (nI_ge hy (by omega)), ew, Option.bind_some, k, v1, nI_mul, nI_add, bv_eq, show (nI y + 1 : Int32) = nI (y + 1) from nI_add y 1]
            exact hrec5 _ ⟨_, rfl, F.sS (by simp), rfl⟩
          · rintro rec5 _ ⟨g15, rfl, F15, k15⟩
            have v2 : g15.1 2 = nI (pR p) := by rw [F15.1 2 (by simp), F1014.1 2 (by simp), t2]
            dsimp only
            rw [v2, if_pos (nI_le (Nat.le_refl _) (by omega))]
            have F1015 : Fr [9] [1, 2, 3, 4, 5, 6, 7, 8] w0 g10 g15 := (F1014.wd (by simp) (by simp) (by simp)).tr F15 (by simp) (by simp) (by simp)
            have sc : ∀ k, k ≠ 9 → g15.1 k = g10.1 k := fun k hk => F1015.1 k (by simp; exact hk)
            have F1115 : Fr [9] [4, 5, 6, 7, 8] w0 g11 g15 := (((F12.wd (by simp) (by simp) (by simp)).tr F13 (by simp) (by simp) (by simp)).tr F14 (by simp) (by simp) (by simp)).tr F15 (by simp) (by simp) (by simp)
            have F1215 : Fr [9] [7, 8] w0 g12 g15 := ((F13.wd (by simp) (by simp) (by simp)).tr F14 (by simp) (by simp) (by simp)).tr F15 (by simp) (by simp) (by simp)
            have F1012 : Fr [] [1, 2, 3, 4, 5, 6] w0 g10 g12 := (F11.wd (by simp) (by simp) (by simp)).tr F12 (by simp) (by simp) (by simp)
            refine Sat.of ⟨F10.tr F1015 (by simp) (by simp) (by simp), by rw [sc 0 (by decide), t0], ⟨⟨by rw [sc 1 (by decide)]; exact t1, by rw [sc 2 (by decide)]; exact t2, by rw [sc 3 (by decide)]; exact t3, by rw [sc 4 (by decide)]; exact t4, by rw [sc 5 (by decide)]; exact t5, by rw [sc 6 (by decide)]; exact t6, by rw [sc 7 (by decide)]; exact s7, by rw [sc 8 (by decide)]; exact s8, k15⟩, fun q hq => ?_, fun c hc => ?_, fun s hs => ?_, fun w i hw hi => ?_⟩, fun q hq => ?_, fun c hc => ?_⟩
            · rw [F1115.2.1 2 (by simp), F1115.2.1 3 (by simp)]
              exact (k11 q hq).2
            · rw [F1215.2.1 4 (by simp)]
              exact (k12 c hc).1
            · have hs : s < pS p := hs
              have q := D10.2.2.2.1 s hs
              have cp7 : ∀ j, j < 24 → g15.2.1 7 j = g10.2.1 15 j := by
                intro j hj
                rw [F15.2.1 7 (by simp), F14.2.1 7 (by simp), k13 j hj, F1012.2.1 15 (by simp)]
              rw [cp7 _ (by omega), cp7 _ (by omega), cp7 _ (by omega), cp7 _ (by omega)]
              exact q
            · have hw : w < pP p ∨ 4 ≤ w ∧ w < 4 + pK p ∨ 12 ≤ w ∧ w < 12 + pS p := hw
              rw [F15.2.1 8 (by simp), k14 _ (by omega), F13.2.1 16 (by simp), F1012.2.1 16 (by simp)]
              exact D10.2.2.2.2 w i hw hi
            · rw [F1115.2.1 1 (by simp)]
              exact (k11 q hq).1
            · rw [F1215.2.1 5 (by simp), F1215.2.1 6 (by simp)]
              exact (k12 c hc).2
