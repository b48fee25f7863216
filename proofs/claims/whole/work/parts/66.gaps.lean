/-! THE CALLS: gaps, passes -/
theorem cl {C R x y : Nat} (hx : x < C) (hy : y < R) : C * y + x < C * R ∧ (C * y + x) % C = x ∧ (C * y + x) / C = y := by
  refine ⟨ixt (t := 0) hx hy, ?_, ?_⟩
  · rw [Nat.mul_add_mod, Nat.mod_eq_of_lt hx]
  · rw [Nat.mul_add_div (by omega), Nat.div_eq_of_lt hx, Nat.add_zero]
theorem kd8 {p : Pl} {f : Fl} {s x y : Nat} (hx : x < pC p) : kd p f s x y 8 = bs p f s (pC p * y + x) false := by
  funext t
  have e := cl (R := y + 1) hx (Nat.lt_succ_self y)
  unfold kd bs
  rw [e.2.1, e.2.2, if_pos rfl]
  cases sb p f s t x y <;> rfl
theorem and_one {m c : Nat} (hc : c < 32) : (m &&& 1 <<< c ≠ 0) ↔ m.testBit c = true := by
  constructor
  · intro h
    apply Classical.byContradiction
    intro hn
    apply h
    apply Nat.eq_of_testBit_eq
    intro i
    rw [Nat.testBit_and, one_bit hc, Nat.zero_testBit]
    by_cases e : i = c
    · subst e
      simp at hn
      simp [hn]
    · simp [e]
  · intro h e
    have : (m &&& 1 <<< c).testBit c = true := by rw [Nat.testBit_and, h, one_bit hc]; simp
    rw [e, Nat.zero_testBit] at this
    exact absurd this (by decide)
theorem kdc {p : Pl} {f : Fl} {s x y c : Nat} (hx : x < pC p) (hc : c < 8) : kd p f s x y c = bs p f (s &&& 1 <<< c) (pC p * y + x) true := by
  funext t
  have e := cl (R := y + 1) hx (Nat.lt_succ_self y)
  unfold kd bs sb
  rw [e.2.1, e.2.2, if_neg (by omega), ← Nat.and_assoc]
  cases hb : (who p f t x y &&& s).testBit c
  · have : ¬ (who p f t x y &&& s &&& 1 <<< c ≠ 0) := fun z => by rw [(and_one (by omega)).mp z] at hb; exact absurd hb (by decide)
    rw [decide_eq_false this]
    rfl
  · have : who p f t x y &&& s &&& 1 <<< c ≠ 0 := (and_one (by omega)).mpr hb
    rw [decide_eq_true this]
    rfl
theorem cn_one {P : Nat → Bool} {j : Nat} : ∀ {n : Nat}, cn (fun i => decide (i = j) && P i) n = if j < n then (P j).toNat else 0
  | 0 => by rw [if_neg (by omega)]; rfl
  | n + 1 => by
    have e : cn (fun i => decide (i = j) && P i) (n + 1) = cn (fun i => decide (i = j) && P i) n + (decide (n = j) && P n).toNat := rfl
    rw [e, cn_one (n := n)]
    by_cases h : n = j
    · subst h
      rw [if_neg (by omega), if_pos (by omega)]
      simp
    · by_cases l : j < n
      · rw [if_pos l, if_pos (by omega)]
        simp [h]
      · rw [if_neg l, if_neg (by omega)]
        simp [h]
theorem rn_blk (k : Nat) (b : Nat → Nat → Bool) (Y t n : Nat) (hn : n ≤ 9) : cn (rn k b Y) (t * 9 + n) = cn (rn k b Y) (t * 9) + cn (fun i => k.testBit i && bg (b i) Y t) n := by
  rw [cn_add]
  congr 1
  apply cn_cong
  intro i hi
  rw [rn_at (by omega)]
theorem rn_one {b : Nat → Nat → Bool} {Y i : Nat} (hi : i < 9) : ∀ t, cn (rn (1 <<< i) b Y) (t * 9) = cn (bg (b i) Y) t
  | 0 => rfl
  | t + 1 => by
    rw [show (t + 1) * 9 = t * 9 + 9 by omega, rn_blk _ _ _ _ _ (Nat.le_refl _), rn_one hi t]
    have : cn (fun j => (1 <<< i).testBit j && bg (b j) Y t) 9 = (bg (b i) Y t).toNat := by
      rw [cn_cong (b' := fun j => decide (j = i) && bg (b j) Y t) (fun j _ => by rw [one_bit (by omega)]), cn_one (P := fun j => bg (b j) Y t), if_pos hi]
    rw [this]
    rfl
theorem rn_pos {b : Nat → Nat → Bool} {Y i : Nat} (hi : i < 9) (t : Nat) : cn (rn (1 <<< i) b Y) (t * 9 + i) = cn (bg (b i) Y) t := by
  rw [rn_blk _ _ _ _ _ (by omega), rn_one hi]
  have : cn (fun j => (1 <<< i).testBit j && bg (b j) Y t) i = 0 := cn_0 (fun j hj => by
    rw [one_bit (by omega)]
    have : ¬ j = i := by omega
    simp [this])
  rw [this]
  rfl
theorem rn_yes {b : Nat → Nat → Bool} {Y i t : Nat} (hi : i < 9) : rn (1 <<< i) b Y (t * 9 + i) = bg (b i) Y t := by
  rw [rn_at hi, one_bit (by omega)]
  simp
/-- both have looked at a cell -/
theorem strip2 {p : Pl} {f : Fl} {gA gB : G} (h : RS p f gA gB) (hw : WP p) (hA : CA p f gA) {x y : Nat} (hx : x < pC p) (hy : y < pR p) :
    Sat (Option.bind (fA_D_look gA) fun x3 => fA_Strip_lay (x3.1 2700) (nI x) (nI y) x3) (fun g' => Fr qA tA w1 gA g' ∧ CA p f g' ∧ PA p g' ∧ SM p (kd p f (us p f) x y) g') := by
  refine (look2 h hw hA).bind ?_
  rintro g1 ⟨F1, R1, C1, L1, P1, U1⟩
  rw [U1]
  refine (layA hw P1 L1.2.1 hx hy).mono ?_
  rintro g2 ⟨F2, S2⟩
  exact ⟨F1.tr F2 (by decide) (by decide) (by decide), C1.fr F2 (by simp) (by simp), P1.fr F2 (by simp) (by simp), S2⟩
theorem strip2' {p : Pl} {f : Fl} {gA gB : G} (h : RS p f gA gB) (hw : WP p) (hA : CA p f gA) {x y : Nat} (hx : x < pC p) (hy : y < pR p) :
    ∃ g1 g2, fA_D_look gA = some g1 ∧ fA_Strip_lay (g1.1 2700) (nI x) (nI y) g1 = some g2 ∧ Fr qA tA w1 gA g2 ∧ CA p f g2 ∧ PA p g2 ∧ SM p (kd p f (us p f) x y) g2 := by
  obtain ⟨g2, e, r⟩ := strip2 h hw hA hx hy
  cases e1 : fA_D_look gA with
  | none => rw [e1] at e; exact absurd e (by simp)
  | some g1 => rw [e1] at e; exact ⟨g1, g2, rfl, e, r⟩
theorem c_gapsX {p : Pl} {f : Fl} {gA gB : G} (h : RS p f gA gB) (hw : WP p) (hB : CB p f gB) {x y : Nat} (hx : x < pC p) (hy : y < pR p) :
    Sat (fB_M_gaps (nI x) (nI y) gB) (fun r => r.1 = nI (cn (bg (kd p f (us p f) x y 8) (pY p)) (pY p)) ∧ Fr qB tB w1 gB r.2 ∧ CB p f r.2 ∧ ST (pY p) (kd p f (us p f) x y 8) r.2) := by
  have h1 := hw.c
  have r4 := h.2.2.2.1
  have r7 := h.2.2.2.2.2.2.1
  have e := cl (C := pC p) (R := pR p) hx hy
  unfold fB_M_gaps
  rw [cellB_t r4 hx hy (by omega), Option.bind_some, if_neg i10]
  refine (lays2 h hw hB).bind ?_
  rintro g1 ⟨F1, L1, P1, N1, C1⟩
  rw [upSetB hw P1 N1 r7, Option.bind_some, P1.1.1, nI_mul, nI_add]
  refine (stretchB hw P1 L1 e.1 false).bind ?_
  rintro g2 ⟨F2, S2⟩
  rw [← kd8 hx] at S2
  exact Sat.of ⟨S2.1, F1.tr F2 (by decide) (by decide) (by decide), C1.fr F2 (by simp) (by simp), S2⟩
theorem c_gaps {p : Pl} {f : Fl} {gA gB : G} (h : RS p f gA gB) (hA : CA p f gA) (hB : CB p f gB) (a b : Int32) : Eq2 (fA_D_gaps a b gA) (fB_M_gaps a b gB) := by
  have hl := h.lt
  by_cases hc : rg (pC p) a ∧ rg (pR p) b
  · obtain ⟨⟨x, hx, rfl⟩, y, hy, rfl⟩ := hc
    have hw := h.wp (by omega)
    have h1 := hw.c
    obtain ⟨⟨n, gB'⟩, eB, en, FB, CB', SB⟩ := c_gapsX h hw hB hx hy
    obtain ⟨g1, g2, e1, e2, FA, CA', PA', SA⟩ := strip2' h hw hA hx hy
    unfold fA_D_gaps
    rw [cellA_t h.2.2.1 hx hy (by omega), Option.bind_some, if_neg i10, e1, Option.bind_some, e2, Option.bind_some, show (256 : Int32) = nI (1 <<< 8) from rfl, countRunsA hw SA (kd_per hw f _ x y) (by decide), Option.bind_some, rn_one (by decide)]
    exact ⟨_, _, _, rfl, by rw [eB]; exact congrArg (fun z => some (z, gB')) en, Rel.mk2 h FA FB CA' CB'⟩
  · unfold fA_D_gaps fB_M_gaps
    rw [cellA_f h.2.2.1 hc, cellB_f h.2.2.2.1 hc (by omega), Option.bind_some, Option.bind_some, if_pos i00, if_pos i00]
    exact ⟨_, _, _, rfl, rfl, p, f, h, hA, hB⟩
theorem CA.run {p : Pl} {f : Fl} {g : G} (h : CA p f g) (u v w : Int32) : CA p f (sS (sS (sS g 13000 u) 13001 v) 13002 w) := by
  have F : Fr [13000, 13001, 13002] [] w0 g (sS (sS (sS g 13000 u) 13001 v) 13002 w) := ((Fr.rf.sS (by simp)).sS (by simp)).sS (by simp)
  exact h.fr F (by simp) (by simp)
theorem c_gap {p : Pl} {f : Fl} {gA gB : G} (h : RS p f gA gB) (hA : CA p f gA) (hB : CB p f gB) (a b c d : Int32) : Eq2 (fA_D_gap a b c d gA) (fB_M_gap a b c d gB) := by
  have hl := h.lt
  by_cases hc : rg (pC p) a ∧ rg (pR p) b
  · obtain ⟨⟨x, hx, rfl⟩, y, hy, rfl⟩ := hc
    have hw := h.wp (by omega)
    have h1 := hw.c
    obtain ⟨⟨n, gB'⟩, eB, en, FB, CB', SB⟩ := c_gapsX h hw hB hx hy
    obtain ⟨g1, g2, e1, e2, FA, CA', PA', SA⟩ := strip2' h hw hA hx hy
    have en : n = nI (cn (bg (kd p f (us p f) x y 8) (pY p)) (pY p)) := en
    have lc := cn_le (bg (kd p f (us p f) x y 8) (pY p)) (pY p)
    unfold fA_D_gap fB_M_gap
    rw [cellA_t h.2.2.1 hx hy (by omega), Option.bind_some, if_neg i10, e1, Option.bind_some, e2, Option.bind_some, show (256 : Int32) = nI (1 <<< 8) from rfl]
    have no : ∃ z gA' gB2, (if (0 : Int32) = 0 then some ((-1 : Int32), g2) else (if d = 0 then some (g2.1 13000, g2) else if d = 1 then some (g2.1 13001, g2) else some ((-1), g2))) = some (z, gA') ∧ (Option.bind (fB_M_isIn d 0 1 gB) fun x1 => (if x1 = 0 then some ((-1 : Int32), gB) else some ((-1), gB'))) = some (z, gB2) ∧ Rel gA' gB2 := by
      rw [if_pos rfl]
      by_cases hd : rg 2 d
      · obtain ⟨w, hw2, rfl⟩ := hd
        rw [inB_t hw2 (by decide) (by decide), Option.bind_some, if_neg i10]
        exact ⟨_, _, _, rfl, rfl, Rel.mk2 h FA FB CA' CB'⟩
      · rw [inB_f hd (by decide) (by decide), Option.bind_some, if_pos i00]
        exact ⟨_, _, _, rfl, rfl, Rel.mk2 h FA Fr.rf CA' hB⟩
    by_cases hk : rg (cn (bg (kd p f (us p f) x y 8) (pY p)) (pY p)) c
    · obtain ⟨k, hk, rfl⟩ := hk
      obtain ⟨t, ht, hbt, ek, q1, q2⟩ := SB.at hk
      have fr := (findRunA hw SA (kd_per hw f _ x y) (k := 1 <<< 8) (n := k) (by decide) (by omega)).1 (t * 9 + 8) (by omega) (by rw [rn_yes (by decide)]; exact hbt) (by rw [rn_pos (by decide)]; exact ek)
      rw [show (t * 9 + 8) / 9 = t by omega, show (t * 9 + 8) % 9 = 8 by omega] at fr
      rw [fr, Option.bind_some]
      dsimp only
      rw [if_neg (by decide)]
      have rel : Rel (sS (sS (sS g2 13000 (nI t)) 13001 (nI (ln (kd p f (us p f) x y 8) (pY p) t))) 13002 (nI 8)) gB' :=
        Rel.mk2 h (((FA.sS (by decide)).sS (by decide)).sS (by decide)) FB (CA'.run _ _ _) CB'
      by_cases hd : rg 2 d
      · obtain ⟨w, hw2, rfl⟩ := hd
        rw [inB_t hw2 (by decide) (by decide), Option.bind_some, if_neg i10, eB, Option.bind_some]
        dsimp only
        rw [en, inB_t hk (by omega) rfl, Option.bind_some, if_neg i10, ag_nI (by omega) (by decide), ag_nI (by omega) (by decide)]
        have : w = 0 ∨ w = 1 := by omega
        rcases this with rfl | rfl
        · rw [if_pos i00, if_pos i00]
          exact ⟨_, _, _, rfl, congrArg (fun z => some (z, gB')) q1, rel⟩
        · rw [if_neg i10, if_neg i10, if_pos (show nI 1 = 1 from rfl)]
          exact ⟨_, _, _, rfl, congrArg (fun z => some (z, gB')) q2, rel⟩
      · rw [inB_f hd (by decide) (by decide), Option.bind_some, if_pos i00, if_neg (show ¬ d = 0 from fun e => hd ⟨0, by decide, e⟩), if_neg (show ¬ d = 1 from fun e => hd ⟨1, by decide, e⟩)]
        exact ⟨_, _, _, rfl, rfl, Rel.mk2 h (((FA.sS (by decide)).sS (by decide)).sS (by decide)) Fr.rf (CA'.run _ _ _) hB⟩
    · have fr : fA_Strip_findRun (nI (1 <<< 8)) c g2 = some (0, g2) := by
        by_cases l : c < 0
        · exact findRun0 hw SA _ l
        · obtain ⟨j, hj, rfl⟩ := nI_of l
          refine (findRunA hw SA (kd_per hw f _ x y) (by decide) hj).2 ?_
          rw [rn_one (by decide)]
          apply Classical.byContradiction
          intro hl
          exact hk ⟨j, by omega, rfl⟩
      rw [fr, Option.bind_some]
      have e3 : (Option.bind (fB_M_gaps (nI x) (nI y) gB) fun x2 => Option.bind (fB_M_isIn c 0 (x2.1 - 1) x2.2) fun x3 => (if x3 = 0 then some ((-1), x2.2) else (if d = 0 then ag 240 (x2.2.2.1 23) c fun x5 => some (x5, x2.2) else ag 240 (x2.2.2.1 24) c fun x4 => some (x4, x2.2)))) = some ((-1), gB') := by
        rw [eB, Option.bind_some]
        dsimp only
        rw [en, inB_f hk (by omega) rfl, Option.bind_some, if_pos i00]
      rw [e3]
      exact no
  · unfold fA_D_gap fB_M_gap fB_M_gaps
    rw [cellA_f h.2.2.1 hc, cellB_f h.2.2.2.1 hc (by omega), Option.bind_some, Option.bind_some, if_pos i00, if_pos i00, Option.bind_some]
    dsimp only
    have nc : ¬ rg 0 c ∧ (-1 - 1 : Int32) < nI 0 := ⟨fun ⟨j, hj, _⟩ => by omega, by decide⟩
    have e3 : fB_M_isIn c 0 ((-1) - 1) gB = some (nI 0) := by
      unfold fB_M_isIn
      by_cases l : c < 0
      · rw [if_pos l]; rfl
      · rw [if_neg l]
        obtain ⟨j, hj, rfl⟩ := nI_of l
        have : (-1 - 1 : Int32) < nI j := by
          rw [Int32.lt_iff_toInt_lt, nI_toInt hj]
          have : (-1 - 1 : Int32).toInt = -2 := by decide
          omega
        rw [if_pos this]; rfl
    rw [e3, Option.bind_some, if_pos i00]
    by_cases hd : rg 2 d
    · obtain ⟨w, hw2, rfl⟩ := hd
      rw [inB_t hw2 (by decide) (by decide), Option.bind_some, if_neg i10]
      exact ⟨_, _, _, rfl, rfl, p, f, h, hA, hB⟩
    · rw [inB_f hd (by decide) (by decide), Option.bind_some, if_pos i00]
      exact ⟨_, _, _, rfl, rfl, p, f, h, hA, hB⟩
theorem c_greatest {p : Pl} {f : Fl} {gA gB : G} (h : RS p f gA gB) (hA : CA p f gA) (hB : CB p f gB) (a b : Int32) : Eq2 (fA_D_greatest a b gA) (fB_M_greatest a b gB) := by
  have hl := h.lt
  unfold fA_D_greatest fB_M_greatest
  by_cases hc : rg (pC p) a ∧ rg (pR p) b
  · obtain ⟨⟨x, hx, rfl⟩, y, hy, rfl⟩ := hc
    have hw := h.wp (by omega)
    have h1 := hw.c
    have e := cl (C := pC p) (R := pR p) hx hy
    obtain ⟨g1, g2, e1, e2, FA, CA', PA', SA⟩ := strip2' h hw hA hx hy
    obtain ⟨g3, e3, F3, L3, P3, N3, C3⟩ := lays2 h hw hB
    obtain ⟨⟨n, g4⟩, e4, F4, en⟩ := greatestB hw P3 L3 (s := us p f) e.1
    rw [cellA_t h.2.2.1 hx hy (by omega), cellB_t h.2.2.2.1 hx hy (by omega), Option.bind_some, Option.bind_some, if_neg i10, if_neg i10, e1, Option.bind_some, e2, Option.bind_some, longestGapA hw SA (kd_per hw f _ x y), Option.bind_some, e3, Option.bind_some, upSetB hw P3 N3 h.2.2.2.2.2.2.1, Option.bind_some, P3.1.1, nI_mul, nI_add, e4, Option.bind_some, kd8 hx]
    exact ⟨_, _, _, rfl, congrArg (fun z => some (z, g4)) en, Rel.mk2 h FA (F3.tr F4 (by decide) (by decide) (by decide)) CA' (C3.fr F4 (by simp) (by simp))⟩
  · rw [cellA_f h.2.2.1 hc, cellB_f h.2.2.2.1 hc (by omega), Option.bind_some, Option.bind_some, if_pos i00, if_pos i00]
    exact ⟨_, _, _, rfl, rfl, p, f, h, hA, hB⟩
theorem c_next {p : Pl} {f : Fl} {gA gB : G} (h : RS p f gA gB) (hA : CA p f gA) (hB : CB p f gB) (a b c : Int32) : Eq2 (fA_D_next a b c gA) (fB_M_next a b c gB) := by
  have hl := h.lt
  unfold fA_D_next fB_M_next
  by_cases ht : rg 10000 a
  · obtain ⟨t, ht, rfl⟩ := ht
    rw [tickB_t (by omega), Option.bind_some, if_neg i10]
    by_cases hc : rg (pC p) b ∧ rg (pR p) c
    · obtain ⟨⟨x, hx, rfl⟩, y, hy, rfl⟩ := hc
      have hw := h.wp (by omega)
      have h1 := hw.c
      have e := cl (C := pC p) (R := pR p) hx hy
      obtain ⟨g1, g2, e1, e2, FA, CA', PA', SA⟩ := strip2' h hw hA hx hy
      obtain ⟨g3, e3, F3, L3, P3, N3, C3⟩ := lays2 h hw hB
      have hm : t % pY p < pY p := Nat.mod_lt _ (by omega)
      rw [tickA_t h hw (by omega), Option.bind_some, if_neg i10, cellA_t h.2.2.1 hx hy (by omega), cellB_t h.2.2.2.1 hx hy (by omega), Option.bind_some, Option.bind_some, if_neg i10, if_neg i10, e1, Option.bind_some, e2, Option.bind_some, inCycleA hw PA' (by omega), Option.bind_some, untilA hw SA (kd_per hw f _ x y) (by omega), Option.bind_some,
        e3, Option.bind_some, upSetB hw P3 N3 h.2.2.2.2.2.2.1, Option.bind_some, P3.1.1, nI_mul, nI_add, nextB hw P3 L3 e.1 (by omega), Option.bind_some, e.2.1, e.2.2]
      have ef : (fun n => !kd p f (us p f) x y 8 (t % pY p + n)) = fun n => sb p f (us p f) (t + n) x y := by
        funext n
        unfold kd
        rw [if_pos rfl, Bool.not_not, ← sb_per hw f _ (t % pY p + n), ← sb_per hw f _ (t + n), Nat.mod_add_mod]
      rw [ef]
      exact ⟨_, _, _, rfl, rfl, Rel.mk2 h FA F3 CA' C3⟩
    · rw [cellB_f h.2.2.2.1 hc (by omega), Option.bind_some, if_pos i00]
      by_cases hw : WP p
      · rw [tickA_t h hw (by omega), Option.bind_some, if_neg i10, cellA_f h.2.2.1 hc, Option.bind_some, if_pos i00]
        exact ⟨_, _, _, rfl, rfl, p, f, h, hA, hB⟩
      · rw [tick_z h hw, Option.bind_some, if_pos i00]
        exact ⟨_, _, _, rfl, rfl, p, f, h, hA, hB⟩
  · rw [(tick_f h ht).1, (tick_f h ht).2, Option.bind_some, Option.bind_some, if_pos i00, if_pos i00]
    exact ⟨_, _, _, rfl, rfl, p, f, h, hA, hB⟩
