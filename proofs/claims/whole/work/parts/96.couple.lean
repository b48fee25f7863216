/-! THE CALLS: couple, the model, and both -/
theorem pcA {p : Pl} {f : Fl} {gA gB : G} (h : RS p f gA gB) : fA_Integer_bitCount (gA.1 2700) gA = some (nI (pc (us p f))) := by
  rw [h.2.2.2.2.1.1]
  exact bitCount_eq (Nat.lt_trans (us_lt p f) (by decide)) _
/-- a trial ended: the class -/
theorem fresh18 {g g' : G} (F : Fr qA tA w1 g g') : Fr qA tA w1 g (sS g' 18 0) := F.sS (show (18 : Nat) ∈ qA by decide)
theorem CA.fresh {p : Pl} {f : Fl} {g : G} (h : SK p g) : CA p f (sS g 18 0) := fun _ => ⟨h.fr (S := [18]) (T := []) (w := w0) (Fr.rf.sS (by simp)) (by simp) (by simp), Or.inl rfl⟩
set_option maxHeartbeats 1000000 in
theorem couplesB {p : Pl} (hw : WP p) {f : Fl} {g : G} (hP : PB p g) (hF : FB p f g) (hW : WF p f) (hL : LB p f g) (hC : CB p f g) (a1 : Int32) :
    Sat (Lp (α := Int32 × Int32 × Int32 × Int32 × G) (fun rec4 s4 => (if (s4.2.2.2.2.1 5) ≤ s4.2.2.2.1 then (if a1 = 0 then some (s4.1, s4.2.2.2.2) else (if a1 = 1 then some (s4.2.1, s4.2.2.2.2) else some (s4.2.2.1, s4.2.2.2.2))) else bv (s4.2.2.2.1 + 1) fun x5 => Lp (α := Int32 × Int32 × Int32 × Int32 × G) (fun rec6 s6 => (if (s6.2.2.2.2.1 5) ≤ s6.2.2.2.1 then rec4 (s6.1, s6.2.1, s6.2.2.1, s4.2.2.2.1 + 1, s6.2.2.2.2) else ag 28 (s6.2.2.2.2.2.1 20) (4 + s4.2.2.2.1) fun x7 => lj (α := Int32 × Int32 × Int32 × G) (fun b8 => rec6 (b8.1, b8.2.1, b8.2.2.1, s6.2.2.2.1 + 1, b8.2.2.2)) fun J8 => (if x7 = 0 then J8 (s6.1, s6.2.1, s6.2.2.1, s6.2.2.2.2) else ag 28 (s6.2.2.2.2.2.1 20) (4 + s6.2.2.2.1) fun x9 => (if x9 = 0 then J8 (s6.1, s6.2.1, s6.2.2.1, s6.2.2.2.2) else Option.bind (fB_M_upSet s6.2.2.2.2) fun x10 => Option.bind (fB_M_worstBy ((x10 &&& (((1 : Int32) <<< (s4.2.2.2.1 &&& 31)) ^^^ (-1))) &&& (((1 : Int32) <<< (s6.2.2.2.1 &&& 31)) ^^^ (-1))) s6.2.2.2.2) fun x11 => (if s6.2.2.1 < x11.1 then J8 (s4.2.2.2.1, s6.2.2.2.1, x11.1, x11.2) else J8 (s6.1, s6.2.1, s6.2.2.1, x11.2)))))) FU (s4.1, s4.2.1, s4.2.2.1, x5, s4.2.2.2.2))) FU ((-1), (-1), (-1), 0, g))
      (fun r => Fr [50] [23, 24] w0 g r.2 ∧ r.1 = if a1 = 0 then (WS p f (pK p * 8)).1 else if a1 = 1 then (WS p f (pK p * 8)).2.1 else (WS p f (pK p * 8)).2.2) := by
  have h1 := hw.c
  refine Sat.lp (fun a s => ∃ g', s = ((WS p f (a * 8)).1, (WS p f (a * 8)).2.1, (WS p f (a * 8)).2.2, nI a, g') ∧ Fr [50] [23, 24] w0 g g') (pK p) (by omega) ⟨g, rfl, Fr.rf⟩ ?_ ?_
  · rintro rec a _ ha ⟨g3, rfl, F3⟩ hrec
    have P3 := hP.fr F3 (by simp) (by simp)
    simp only []
    rw [P3.1.2.2.2.2.1, if_neg (nI_ge ha (by omega)), bv_eq, show (nI a + 1 : Int32) = nI (a + 1) from nI_add a 1]
    refine Sat.lp (fun j s => ∃ b g', b = a + 1 + j ∧ s = ((WS p f (a * 8 + b)).1, (WS p f (a * 8 + b)).2.1, (WS p f (a * 8 + b)).2.2, nI b, g') ∧ Fr [50] [23, 24] w0 g g') (pK p - (a + 1)) (by omega) ⟨a + 1, g3, rfl, by rw [WS_first (by omega)], F3⟩ ?_ ?_
    · rintro rec2 j _ hj ⟨b, g4, eb, rfl, F4⟩ hrec2
      have P4 := hP.fr F4 (by simp) (by simp)
      have N4 := hF.fr F4 (by simp)
      have L4 := hL.fr F4 (by simp)
      have hb : b < pK p := by omega
      have hab : a < b := by omega
      have st := WS_step (p := p) (f := f) (a := a) (b := b) hab hb (by omega)
      have ua := (N4.2 a ha).1
      have ub' := (N4.2 b hb).1
      have la := (hW.2 a ha).2.2
      have lb := (hW.2 b hb).2.2
      have go : ∀ g', Fr [50] [23, 24] w0 g g' → Sat (rec2 ((WS p f (a * 8 + (b + 1))).1, (WS p f (a * 8 + (b + 1))).2.1, (WS p f (a * 8 + (b + 1))).2.2, nI b + 1, g')) (fun r => Fr [50] [23, 24] w0 g r.2 ∧ r.1 = if a1 = 0 then (WS p f (pK p * 8)).1 else if a1 = 1 then (WS p f (pK p * 8)).2.1 else (WS p f (pK p * 8)).2.2) := by
        intro g' Fg
        exact hrec2 _ ⟨b + 1, g', by omega, by rw [show (nI b + 1 : Int32) = nI (b + 1) from nI_add b 1], Fg⟩
      simp only []
      rw [P4.1.2.2.2.2.1, if_neg (nI_ge hb (by omega)), show (4 + nI a : Int32) = nI (4 + a) from nI_add 4 a, ag_nI (by omega) (by decide), ua, lj_eq]
      by_cases za : fup f a = 1
      · rw [za, if_neg (show ¬ nI 1 = 0 from i10), show (4 + nI b : Int32) = nI (4 + b) from nI_add 4 b, ag_nI (by omega) (by decide), ub']
        by_cases zb : fup f b = 1
        · rw [zb, if_neg (show ¬ nI 1 = 0 from i10), upSetB hw P4 N4 hW, Option.bind_some, w2B (by omega) (by omega)]
          refine (worstByB hw P4 L4 _).bind ?_
          rintro ⟨r, g6⟩ ⟨F6, er⟩
          have er : r = nI (ww p (sx2 p f (w2 p f a b))) := er
          rw [← gp_at (p := p) (f := f) (a := a) (b := b) (by omega)] at er
          have F46 : Fr [50] [23, 24] w0 g g6 := F4.tr F6 (by simp) (by simp) (by simp)
          dsimp only
          rw [er]
          by_cases l : (WS p f (a * 8 + b)).2.2 < nI (gp p f (a * 8 + b))
          · have := go g6 F46
            rw [st, if_pos ⟨za, zb, l⟩] at this
            rw [if_pos l]
            exact this
          · have := go g6 F46
            rw [st, if_neg (fun z => l z.2.2)] at this
            rw [if_neg l]
            exact this
        · have : fup f b = 0 := by omega
          rw [this, if_pos (show nI 0 = 0 from i00)]
          have := go g4 F4
          rw [st, if_neg (fun z => zb z.2.1)] at this
          exact this
      · have : fup f a = 0 := by omega
        rw [this, if_pos (show nI 0 = 0 from i00)]
        have := go g4 F4
        rw [st, if_neg (fun z => za z.1)] at this
        exact this
    · rintro rec2 _ ⟨b, g4, eb, rfl, F4⟩
      have P4 := hP.fr F4 (by simp) (by simp)
      simp only []
      rw [P4.1.2.2.2.2.1, if_pos (nI_le (by omega) (by omega))]
      refine hrec _ ⟨g4, ?_, F4⟩
      rw [WS_last (a := a) (b := b) (by omega) (by omega) (by omega)]
  · rintro rec _ ⟨g3, rfl, F3⟩
    have P3 := hP.fr F3 (by simp) (by simp)
    simp only []
    rw [P3.1.2.2.2.2.1, if_pos (nI_le (Nat.le_refl _) (by omega))]
    split
    · exact Sat.of ⟨F3, rfl⟩
    · split
      · exact Sat.of ⟨F3, rfl⟩
      · exact Sat.of ⟨F3, rfl⟩
theorem c_couple {p : Pl} {f : Fl} {gA gB : G} (h : RS p f gA gB) (hA : CA p f gA) (hB : CB p f gB) (a : Int32) : Eq2 (fA_D_couple a gA) (fB_M_couple a gB) := by
  have hl := h.lt
  have no : Eq2 (some ((-1 : Int32), gA)) (some (-1, gB)) := ⟨_, _, _, rfl, rfl, p, f, h, hA, hB⟩
  unfold fA_D_couple fB_M_couple
  have e2 : (2 : Int32) = nI 2 := rfl
  have pl : pc (us p f) ≤ 8 := pc_le (us_lt p f) (by decide)
  rw [pcA h, upAllB (by omega) h.2.2.2.1 h.2.2.2.2.2.1 h.2.2.2.2.2.2.1, Option.bind_some, Option.bind_some]
  by_cases c2 : pc (us p f) < 2
  · rw [if_pos (show nI (pc (us p f)) < 2 from nI_lt c2 (by decide)), if_pos (show nI (pc (us p f)) < 2 from nI_lt c2 (by decide))]
    exact no
  · have n2 : ¬ nI (pc (us p f)) < 2 := fun z => c2 ((nI_ltI (b := 2) (by omega) (by decide)).mp z)
    rw [if_neg n2, if_neg n2]
    have hk0 : 0 < pK p := by
      rcases Nat.eq_zero_or_pos (pK p) with z | z
      · rw [pc_us (by omega), z] at c2
        exact absurd (show cn (fun c => decide (fup f c = 1)) 0 < 2 from Nat.zero_lt_succ 1) c2
      · exact z
    have hw := h.wp (by omega)
    by_cases ha : rg 3 a
    · obtain ⟨w, hw3, rfl⟩ := ha
      rw [inB_t hw3 (by decide) (by decide), Option.bind_some, if_neg i10, e2, three_t (show w ≤ 2 by omega) (by decide)]
      obtain ⟨g1, e1, F1, R1, C1, L1, P1, U1⟩ := look2 h hw hA
      obtain ⟨g2, e4, F2, w2e⟩ := couplesA hw P1 R1.2.2.2.2.1 L1.2.1 L1.1.1.1
      obtain ⟨g3, e3, F3, L3, P3, N3, C3⟩ := lays2 h hw hB
      obtain ⟨⟨rB, g5⟩, e5, F5, er5⟩ := couplesB hw P3 N3 h.2.2.2.2.2.2.1 L3 C3 (nI w)
      have S2 : SK p g2 := L1.1.fr F2 (by simp) (by simp)
      have rel : Rel (sS g2 18 0) g5 := Rel.mk2 h (fresh18 (F1.tr F2 (by decide) (by decide) (by decide))) (F3.tr F5 (by decide) (by decide) (by decide)) (CA.fresh S2) (C3.fr F5 (by simp) (by simp))
      have er5 : rB = if nI w = 0 then (WS p f (pK p * 8)).1 else if nI w = 1 then (WS p f (pK p * 8)).2.1 else (WS p f (pK p * 8)).2.2 := er5
      rw [e1, Option.bind_some, e4, Option.bind_some, bv_eq, e3, Option.bind_some, e5, er5, ← w2e]
      refine ⟨_, _, _, ?_, rfl, rel⟩
      split
      · rfl
      · split <;> rfl
    · rw [inB_f ha (by decide) (by decide), Option.bind_some, if_pos i00, e2, three_f ha (by decide)]
      exact no
