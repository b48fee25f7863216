/-! THE CALLS: worst, soon -/
def ww (p : Pl) (H : Nat → Nat → Nat → Bool) : Nat := mx (wr p H) (pR p)
theorem ww_le (p : Pl) (H : Nat → Nat → Nat → Bool) : ww p H ≤ pY p := mx_le (fun y _ => wr_le p H y)
theorem mx_cells {C : Nat} (hC : 0 < C) (F : Nat → Nat → Nat) (R : Nat) : mx (fun k => F (k % C) (k / C)) (C * R) = mx (fun y => mx (fun x => F x y) C) R := by
  apply Nat.le_antisymm
  · apply mx_le
    intro k hk
    have h1 : k % C < C := Nat.mod_lt _ hC
    have h2 : k / C < R := Nat.div_lt_of_lt_mul hk
    exact Nat.le_trans (mx_ge (f := fun x => F x (k / C)) h1) (mx_ge (f := fun y => mx (fun x => F x y) C) h2)
  · apply mx_le
    intro y hy
    apply mx_le
    intro x hx
    have e := cl (C := C) (R := R) hx hy
    have := mx_ge (f := fun k => F (k % C) (k / C)) e.1
    simp only [e.2.1, e.2.2] at this
    exact this
/-- what a set sees, as a sky -/
abbrev sx2 (p : Pl) (f : Fl) (s : Nat) : Nat → Nat → Nat → Bool := fun t y x => sb p f s t x y
theorem ub_bs {p : Pl} (hw : WP p) (f : Fl) (s k : Nat) : bs p f s k false = ub p (sx2 p f s) (k / pC p) (k % pC p) := by
  funext t
  unfold bs ub
  show _ = !sb p f s (t % pY p) (k % pC p) (k / pC p)
  rw [sb_per hw]
  cases sb p f s t (k % pC p) (k / pC p) <;> rfl
/-- a cell's greatest gap -/
abbrev gg (p : Pl) (f : Fl) (s : Nat) (k : Nat) : Nat := mg (bs p f s k false) (pY p) (pY p)
theorem ww_gg {p : Pl} (hw : WP p) (f : Fl) (s : Nat) : mx (gg p f s) (pC p * pR p) = ww p (sx2 p f s) := by
  have h1 := hw.c
  unfold ww wr
  rw [← mx_cells (by omega) (fun x y => mg (ub p (sx2 p f s) y x) (pY p) (pY p))]
  apply mx_cong
  intro k _
  rw [← ub_bs hw]
theorem worstGapA {p : Pl} (hw : WP p) {g : G} (hP : PA p g) (hK : g.1 11801 = nI (2 ^ pC p - 1)) {H : Nat → Nat → Nat → Bool} (hH : HH p 128 H g) :
    Sat (fA_Sky_worstGap g) (fun r => Fr [] [129] w0 g r.2 ∧ r.1 = nI (ww p H)) := by
  have h1 := hw.c
  unfold fA_Sky_worstGap
  refine Sat.lp (fun y s => ∃ g', s = (nI (mx (wr p H) y), nI y, g') ∧ Fr [] [129] w0 g g') (pR p) (by omega) ⟨g, rfl, Fr.rf⟩ ?_ ?_
  · rintro rec y _ hy ⟨g1, rfl, F1⟩ hrec
    have P1 := hP.fr F1 (by simp) (by simp)
    have l1 := wr_le p H y
    have l2 : mx (wr p H) y ≤ pY p := mx_le (fun y _ => wr_le p H y)
    simp only []
    rw [P1.1.2.1, if_neg (nI_ge hy (by omega))]
    refine (worstRowA hw P1 ((F1.1 11801 (by simp)).trans hK) (hH.fr F1 (by simp)) hy).bind ?_
    rintro ⟨r, g2⟩ ⟨F2, er⟩
    have er : r = nI (wr p H y) := er
    dsimp only
    rw [er, ite_ltn (by omega) (by omega), bv_eq, nl, nI_add]
    refine hrec _ ⟨g2, ?_, F1.tr F2 (by simp) (by simp) (by simp)⟩
    have e : mx (wr p H) (y + 1) = if mx (wr p H) y < wr p H y then wr p H y else mx (wr p H) y := rfl
    rw [e]
    split <;> rfl
  · rintro rec _ ⟨g1, rfl, F1⟩
    have P1 := hP.fr F1 (by simp) (by simp)
    simp only []
    rw [P1.1.2.1, if_pos (nI_le (Nat.le_refl _) (by omega))]
    exact Sat.of ⟨F1, rfl⟩
theorem worstByB {p : Pl} (hw : WP p) {f : Fl} {g : G} (hP : PB p g) (hL : LB p f g) (s : Nat) :
    Sat (fB_M_worstBy (nI s) g) (fun r => Fr [50] [23, 24] w0 g r.2 ∧ r.1 = nI (ww p (sx2 p f s))) := by
  have h1 := hw.c
  have hm := crY hw
  unfold fB_M_worstBy
  refine Sat.lp (fun k s1 => ∃ g', s1 = (nI (mx (gg p f s) k), nI k, g') ∧ Fr [50] [23, 24] w0 g g') (pC p * pR p) (by omega) ⟨g, rfl, Fr.rf⟩ ?_ ?_
  · rintro rec k _ hk ⟨g1, rfl, F1⟩ hrec
    have P1 := hP.fr F1 (by simp) (by simp)
    have l1 : gg p f s k ≤ pY p := mg_le _ _ _
    have l2 : mx (gg p f s) k ≤ pY p := mx_le (fun _ _ => mg_le _ _ _)
    simp only []
    rw [P1.1.2.2.2.2.2.2.2.1, if_neg (nI_ge hk (by omega))]
    refine (greatestB hw P1 (hL.fr F1 (by simp)) hk).bind ?_
    rintro ⟨r, g2⟩ ⟨F2, er⟩
    have er : r = nI (gg p f s k) := er
    dsimp only
    rw [er, greaterB (by omega) (by omega), Option.bind_some, nl, nI_add]
    exact hrec _ ⟨g2, rfl, F1.tr F2 (by simp) (by simp) (by simp)⟩
  · rintro rec _ ⟨g1, rfl, F1⟩
    have P1 := hP.fr F1 (by simp) (by simp)
    simp only []
    rw [P1.1.2.2.2.2.2.2.2.1, if_pos (nI_le (Nat.le_refl _) (by omega)), ww_gg hw]
    exact Sat.of ⟨F1, rfl⟩
theorem am_all (d : Nat → Nat) : ∀ n, (∀ j, j < n → d j ≤ d (am d n)) ∧ ∀ j, j < am d n → d j < d (am d n)
  | 0 => ⟨fun j h => absurd h (Nat.not_lt_zero j), fun j h => absurd h (Nat.not_lt_zero j)⟩
  | n + 1 => by
    obtain ⟨h1, h2⟩ := am_all d n
    have e : am d (n + 1) = if d (am d n) < d n then n else am d n := rfl
    rw [e]
    by_cases l : d (am d n) < d n
    · rw [if_pos l]
      refine ⟨fun j hj => ?_, fun j hj => ?_⟩
      · by_cases e : j = n
        · rw [e]; exact Nat.le_refl _
        · have := h1 j (by omega)
          omega
      · have := h1 j hj
        omega
    · rw [if_neg l]
      refine ⟨fun j hj => ?_, h2⟩
      by_cases e : j = n
      · rw [e]; omega
      · exact h1 j (by omega)
theorem am_eq {d : Nat → Nat} {n k : Nat} (hk : k < n) (h1 : ∀ j, j < n → d j ≤ d k) (h2 : ∀ j, j < k → d j < d k) : am d n = k := by
  have a := am_all d n
  have l := am_lt d n (by omega)
  rcases Nat.lt_trichotomy (am d n) k with z | z | z
  · have := h2 _ z
    have := a.1 k hk
    omega
  · exact z
  · have := a.2 _ z
    have := h1 _ l
    omega
theorem first_of {n : Nat} {q : Nat → Nat} {v : Nat} (h : ∃ i, i < n ∧ q i = v) : ∃ i, i < n ∧ q i = v ∧ (∀ j, j < i → q j ≠ v) ∧ fi (fun i => decide (q i = v)) n = i := by
  have ha := fi_all (fun i => decide (q i = v)) n
  obtain ⟨i, hi, e⟩ := h
  have l : fi (fun i => decide (q i = v)) n < n := by
    apply Classical.byContradiction
    intro hl
    have := ha.2.1 i (by omega)
    rw [decide_eq_true e] at this
    exact absurd this (by decide)
  exact ⟨_, l, of_decide_eq_true (ha.2.2 l), fun j hj => of_decide_eq_false (ha.2.1 j hj), rfl⟩
theorem firstRowA {p : Pl} (hw : WP p) {g : G} (hP : PA p g) (hK : g.1 11801 = nI (2 ^ pC p - 1)) {H : Nat → Nat → Nat → Bool} (hH : HH p 128 H g) {v y : Nat} (hv : v < 2 ^ 31) (hy : y < pR p) (ey : wr p H y = v) (hn : ∀ j, j < y → wr p H j ≠ v) :
    Sat (fA_Sky_firstRowWith (nI v) g) (fun r => Fr [] [129] w0 g r.2 ∧ r.1 = nI y) := by
  have h1 := hw.c
  unfold fA_Sky_firstRowWith
  refine Sat.lp (fun k s => ∃ g', s = (nI k, g') ∧ Fr [] [129] w0 g g') y (by omega) ⟨g, rfl, Fr.rf⟩ ?_ ?_
  · rintro rec k _ hk ⟨g1, rfl, F1⟩ hrec
    have P1 := hP.fr F1 (by simp) (by simp)
    have l1 := wr_le p H k
    simp only []
    rw [P1.1.2.1, if_neg (nI_ge (by omega) (by omega))]
    refine (worstRowA hw P1 ((F1.1 11801 (by simp)).trans hK) (hH.fr F1 (by simp)) (by omega)).bind ?_
    rintro ⟨r, g2⟩ ⟨F2, er⟩
    have er : r = nI (wr p H k) := er
    dsimp only
    rw [er, ite_eqn (by omega) hv, if_neg (hn k hk), nl, nI_add]
    exact hrec _ ⟨g2, rfl, F1.tr F2 (by simp) (by simp) (by simp)⟩
  · rintro rec _ ⟨g1, rfl, F1⟩
    have P1 := hP.fr F1 (by simp) (by simp)
    have l1 := wr_le p H y
    simp only []
    rw [P1.1.2.1, if_neg (nI_ge hy (by omega))]
    refine (worstRowA hw P1 ((F1.1 11801 (by simp)).trans hK) (hH.fr F1 (by simp)) hy).bind ?_
    rintro ⟨r, g2⟩ ⟨F2, er⟩
    have er : r = nI (wr p H y) := er
    dsimp only
    rw [er, ite_eqn (by omega) hv, if_pos ey]
    exact Sat.of ⟨F1.tr F2 (by simp) (by simp) (by simp), rfl⟩
theorem firstColA {p : Pl} (hw : WP p) {f : Fl} {g : G} (hP : PA p g) (hV : VF p f g) (hu : g.1 2700 = nI (us p f)) {v x y : Nat} (hv : v < 2 ^ 31) (hx : x < pC p) (hy : y < pR p) (ex : mg (kd p f (us p f) x y 8) (pY p) (pY p) = v) (hn : ∀ j, j < x → mg (kd p f (us p f) j y 8) (pY p) (pY p) ≠ v) :
    Sat (fA_D_firstColumnWith (nI v) (nI y) g) (fun r => Fr [13003] [131] w0 g r.2 ∧ r.1 = nI x) := by
  have h1 := hw.c
  unfold fA_D_firstColumnWith
  refine Sat.lp (fun k s => ∃ g', s = (nI k, g') ∧ Fr [13003] [131] w0 g g') x (by omega) ⟨g, rfl, Fr.rf⟩ ?_ ?_
  · rintro rec k _ hk ⟨g1, rfl, F1⟩ hrec
    have P1 := hP.fr F1 (by simp) (by simp)
    have l1 := mg_le (kd p f (us p f) k y 8) (pY p) (pY p)
    simp only []
    rw [P1.1.1, if_neg (nI_ge (by omega) (by omega)), (F1.1 2700 (by simp)).trans hu]
    refine (layA hw P1 (hV.fr F1 (by simp)) (s := us p f) (x := k) (y := y) (by omega) hy).bind ?_
    rintro g2 ⟨F2, S2⟩
    rw [longestGapA hw S2 (kd_per hw f _ k y), Option.bind_some, ite_eqn (by omega) hv, if_neg (hn k hk), nl, nI_add]
    exact hrec _ ⟨g2, rfl, F1.tr F2 (by simp) (by simp) (by simp)⟩
  · rintro rec _ ⟨g1, rfl, F1⟩
    have P1 := hP.fr F1 (by simp) (by simp)
    have l1 := mg_le (kd p f (us p f) x y 8) (pY p) (pY p)
    simp only []
    rw [P1.1.1, if_neg (nI_ge hx (by omega)), (F1.1 2700 (by simp)).trans hu]
    refine (layA hw P1 (hV.fr F1 (by simp)) (s := us p f) (x := x) (y := y) hx hy).bind ?_
    rintro g2 ⟨F2, S2⟩
    rw [longestGapA hw S2 (kd_per hw f _ x y), Option.bind_some, ite_eqn (by omega) hv, if_pos ex]
    exact Sat.of ⟨F1.tr F2 (by simp) (by simp) (by simp), rfl⟩
theorem three_f {b : Int32} {n : Nat} (hb : ¬ rg (n + 1) b) (hn : n < 2 ^ 31) {α : Type} (u z : α) : (if b < 0 then u else if b ≤ nI n then z else u) = u := by
  by_cases l : b < 0
  · rw [if_pos l]
  · rw [if_neg l]
    obtain ⟨j, hj, rfl⟩ := nI_of l
    have : n < j := by
      apply Classical.byContradiction
      intro hl
      exact hb ⟨j, by omega, rfl⟩
    rw [if_neg (nI_ge this hj)]
theorem three_t {a n : Nat} (ha : a ≤ n) (hn : n < 2 ^ 31) {α : Type} (u z : α) : (if nI a < 0 then u else if nI a ≤ nI n then z else u) = z := by
  rw [if_neg (nI_pos (by omega)), if_pos (nI_le ha hn)]
theorem c_worst {p : Pl} {f : Fl} {gA gB : G} (h : RS p f gA gB) (hA : CA p f gA) (hB : CB p f gB) (a : Int32) : Eq2 (fA_D_worst a gA) (fB_M_worst a gB) := by
  have no : ∃ z gA' gB', some ((-1 : Int32), gA) = some (z, gA') ∧ some ((-1 : Int32), gB) = some (z, gB') ∧ Rel gA' gB' := ⟨_, _, _, rfl, rfl, p, f, h, hA, hB⟩
  unfold fA_D_worst fB_M_worst
  rcases standsA h with ⟨hw, e1, e2⟩ | ⟨hz, e1, e2⟩
  · have h1 := hw.c
    have hm := crY hw
    rw [e1, e2, Option.bind_some, if_neg i10, if_neg i10]
    by_cases ha : rg 3 a
    · obtain ⟨w, hw2, rfl⟩ := ha
      obtain ⟨g1, e1, F1, R1, C1, L1, P1, U1⟩ := look2 h hw hA
      obtain ⟨g3, e3, F3, L3, P3, N3, C3⟩ := lays2 h hw hB
      have K1 : g1.1 11801 = nI (2 ^ pC p - 1) := L1.1.1.1
      obtain ⟨⟨r2, g2⟩, e4, F2, er2⟩ := worstGapA (H := sk p f) hw P1 K1 L1.2.2
      have er2 : r2 = nI (ww p (sk p f)) := er2
      have wl := ww_le p (sk p f)
      have ex1 : ∃ y, y < pR p ∧ wr p (sk p f) y = ww p (sk p f) := by
        rcases mx_is (f := wr p (sk p f)) (n := pR p) with e | ⟨i, hi, e⟩
        · refine ⟨0, by omega, ?_⟩
          have := mx_ge (f := wr p (sk p f)) (n := pR p) (i := 0) (by omega)
          unfold ww
          omega
        · exact ⟨i, hi, e.symm⟩
      obtain ⟨y, hy, ey, ny, _⟩ := first_of ex1
      have ex2 : ∃ x, x < pC p ∧ mg (ub p (sk p f) y x) (pY p) (pY p) = ww p (sk p f) := by
        rw [← ey]
        unfold wr
        rcases mx_is (f := fun x => mg (ub p (sk p f) y x) (pY p) (pY p)) (n := pC p) with e | ⟨i, hi, e⟩
        · refine ⟨0, by omega, ?_⟩
          have := mx_ge (f := fun x => mg (ub p (sk p f) y x) (pY p) (pY p)) (n := pC p) (i := 0) (by omega)
          have t2 : mg (ub p (sk p f) y 0) (pY p) (pY p) ≤ mx (fun x => mg (ub p (sk p f) y x) (pY p) (pY p)) (pC p) := this
          omega
        · exact ⟨i, hi, e.symm⟩
      obtain ⟨x, hx, exx, nx, _⟩ := first_of ex2
      have ek : ∀ x, x < pC p → kd p f (us p f) x y 8 = ub p (sk p f) y x := by
        intro x hx
        have e := cl (R := y + 1) hx (Nat.lt_succ_self y)
        rw [kd8 hx, ub_bs hw, e.2.1, e.2.2]
      have eg : ∀ k, gg p f (us p f) k = mg (ub p (sk p f) (k / pC p) (k % pC p)) (pY p) (pY p) := by
        intro k
        rw [← ub_bs hw]
      have le : ∀ k, k < pC p * pR p → gg p f (us p f) k ≤ wr p (sk p f) (k / pC p) := by
        intro k hk
        rw [eg]
        exact mx_ge (f := fun x => mg (ub p (sk p f) (k / pC p) x) (pY p) (pY p)) (Nat.mod_lt _ (by omega))
      have lw : ∀ y, y < pR p → wr p (sk p f) y ≤ ww p (sk p f) := fun y hy => mx_ge hy
      have ec := cl (C := pC p) (R := pR p) hx hy
      have eat : gg p f (us p f) (pC p * y + x) = ww p (sk p f) := by rw [eg, ec.2.1, ec.2.2, exx]
      have eam : am (gg p f (us p f)) (pC p * pR p) = pC p * y + x := by
        apply am_eq ec.1
        · intro j hj
          rw [eat]
          exact Nat.le_trans (le j hj) (lw _ (Nat.div_lt_of_lt_mul hj))
        · intro j hj
          rw [eat]
          have hjl : j < pC p * pR p := by omega
          have q1 := le j hjl
          have q2 := lw (j / pC p) (Nat.div_lt_of_lt_mul hjl)
          have hdj : j / pC p ≤ y := by
            have : j / pC p < y + 1 := Nat.div_lt_of_lt_mul (by rw [Nat.mul_succ]; omega)
            omega
          by_cases l : j / pC p < y
          · have := ny _ l
            omega
          · have ejy : j / pC p = y := by omega
            have hd := Nat.div_add_mod j (pC p)
            rw [ejy] at hd
            have := nx (j % pC p) (by omega)
            rw [eg, ejy] at q1 ⊢
            rw [ejy] at q2
            omega
      -- the class
      have A2 : RS p f g2 gB := R1.frA (F2.wd (by decide) (by decide) (by decide))
      have F12 : Fr qA tA w1 gA g2 := F1.tr F2 (by decide) (by decide) (by decide)
      have C2 := C1.fr F2 (by simp) (by simp)
      -- the model
      have eB : Sat (Lp (α := Int32 × Int32 × Int32 × G) (fun rec3 s3 => (if (s3.2.2.2.1 8) ≤ s3.2.2.1 then (if nI w = 0 then some (s3.1, s3.2.2.2) else (if nI w = 1 then dz (s3.2.2.2.1 1) (some (s3.2.1 - s3.2.1 / (s3.2.2.2.1 1) * (s3.2.2.2.1 1), s3.2.2.2)) else dz (s3.2.2.2.1 1) (some (s3.2.1 / (s3.2.2.2.1 1), s3.2.2.2)))) else Option.bind (fB_M_upSet s3.2.2.2) fun x4 => Option.bind (fB_M_greatestOf s3.2.2.1 x4 s3.2.2.2) fun x5 => lj (α := Int32 × Int32) (fun b6 => rec3 (b6.1, b6.2, s3.2.2.1 + 1, x5.2)) fun J6 => (if s3.1 < x5.1 then J6 (x5.1, s3.2.2.1) else J6 (s3.1, s3.2.1)))) FU ((-1), 0, 0, g3))
          (fun r => Fr qB tB w1 gB r.2 ∧ CB p f r.2 ∧ r.1 = if w = 0 then nI (ww p (sk p f)) else if w = 1 then nI x else nI y) := by
        refine Sat.lp (fun k s => ∃ g', s = ((if k = 0 then m1 else nI (gg p f (us p f) (am (gg p f (us p f)) k))), nI (am (gg p f (us p f)) k), nI k, g') ∧ Fr qB tB w1 gB g' ∧ CB p f g' ∧ LB p f g') (pC p * pR p) (by omega) ⟨g3, rfl, F3, C3, L3⟩ ?_ ?_
        · rintro rec k _ hk ⟨g4, rfl, F4, C4, L4⟩ hrec
          have P4 := h.2.2.2.1.ok F4
          have N4 := h.2.2.2.2.2.1.ok F4
          have l1 : gg p f (us p f) k ≤ pY p := mg_le _ _ _
          have l2 : gg p f (us p f) (am (gg p f (us p f)) k) ≤ pY p := mg_le _ _ _
          simp only []
          rw [P4.1.2.2.2.2.2.2.2.1, if_neg (nI_ge hk (by omega)), upSetB hw P4 N4 h.2.2.2.2.2.2.1, Option.bind_some]
          refine (greatestB hw P4 L4 hk).bind ?_
          rintro ⟨n, g5⟩ ⟨F5, en⟩
          have en : n = nI (gg p f (us p f) k) := en
          have F45 : Fr qB tB w1 gB g5 := F4.tr F5 (by decide) (by decide) (by decide)
          have ea : am (gg p f (us p f)) (k + 1) = if gg p f (us p f) (am (gg p f (us p f)) k) < gg p f (us p f) k then k else am (gg p f (us p f)) k := rfl
          dsimp only
          rw [en, lj_eq]
          dsimp only
          rw [nl, nI_add]
          by_cases k0 : k = 0
          · subst k0
            rw [if_pos (by rw [if_pos rfl, m1_lt (by omega)]; trivial)]
            exact hrec _ ⟨g5, by rw [am_1, if_neg (by omega)], F45, C4.fr F5 (by simp) (by simp), L4.fr F5 (by simp)⟩
          · rw [if_neg k0, ite_ltn (by omega) (by omega)]
            by_cases l : gg p f (us p f) (am (gg p f (us p f)) k) < gg p f (us p f) k
            · rw [if_pos l]
              exact hrec _ ⟨g5, by rw [ea, if_pos l, if_neg (by omega)], F45, C4.fr F5 (by simp) (by simp), L4.fr F5 (by simp)⟩
            · rw [if_neg l]
              exact hrec _ ⟨g5, by rw [ea, if_neg l, if_neg (by omega)], F45, C4.fr F5 (by simp) (by simp), L4.fr F5 (by simp)⟩
        · rintro rec _ ⟨g4, rfl, F4, C4, L4⟩
          have P4 := h.2.2.2.1.ok F4
          have hpos : 0 < pC p * pR p := Nat.mul_pos (by omega) (by omega)
          simp only []
          rw [P4.1.2.2.2.2.2.2.2.1, if_pos (nI_le (Nat.le_refl _) (by omega)), if_neg (show ¬ pC p * pR p = 0 by omega), eam, eat, P4.1.1, n_dz (by omega) (by omega), n_dz (by omega) (by omega), n_div (by omega) (by omega), nI_mul, n_rem, ec.2.1, ec.2.2]
          have : w = 0 ∨ w = 1 ∨ w = 2 := by omega
          rcases this with rfl | rfl | rfl
          · rw [if_pos i00]
            exact Sat.of ⟨F4, C4, rfl⟩
          · rw [if_neg i10, if_pos (show nI 1 = 1 from rfl)]
            exact Sat.of ⟨F4, C4, rfl⟩
          · rw [if_neg (show ¬ nI 2 = 0 by decide), if_neg (show ¬ nI 2 = 1 by decide)]
            exact Sat.of ⟨F4, C4, rfl⟩
      obtain ⟨⟨rB, gB'⟩, eb, Fb, Cb, erb⟩ := eB
      have erb : rB = if w = 0 then nI (ww p (sk p f)) else if w = 1 then nI x else nI y := erb
      rw [inB_t hw2 (by decide) (by decide), Option.bind_some, if_neg i10, e3, Option.bind_some, eb, erb, show (2 : Int32) = nI 2 from rfl, three_t (by omega) (by decide), e1, Option.bind_some, e4, Option.bind_some]
      dsimp only
      rw [er2]
      have : w = 0 ∨ w = 1 ∨ w = 2 := by omega
      rcases this with rfl | rfl | rfl
      · rw [if_pos i00, if_pos rfl]
        exact ⟨_, _, _, rfl, rfl, Rel.mk2 h F12 Fb C2 Cb⟩
      · obtain ⟨⟨r5, g5⟩, e5, F5, er5⟩ := firstRowA (H := sk p f) hw (P1.fr F2 (by simp) (by simp)) ((F2.1 11801 (by simp)).trans K1) (L1.2.2.fr F2 (by simp)) (v := ww p (sk p f)) (by omega) hy ey ny
        have er5 : r5 = nI y := er5
        have F25 : Fr [] [129] w0 g1 g5 := F2.tr F5 (by simp) (by simp) (by simp)
        obtain ⟨⟨r6, g6⟩, e6, F6, er6⟩ := firstColA hw (P1.fr F25 (by simp) (by simp)) (L1.2.1.fr F25 (by simp)) ((F25.1 2700 (by simp)).trans U1) (v := ww p (sk p f)) (x := x) (y := y) (by omega) hx hy (by rw [ek x hx]; exact exx) (fun j hj => by rw [ek j (by omega)]; exact nx j hj)
        have er6 : r6 = nI x := er6
        rw [if_neg i10, e5, Option.bind_some]
        dsimp only
        rw [er5, if_pos (show nI 1 = 1 from rfl), e6, Option.bind_some]
        dsimp only
        rw [er6, if_neg (by decide), if_pos rfl]
        have F15 : Fr qA tA w1 gA g5 := F1.tr F25 (by decide) (by decide) (by decide)
        exact ⟨_, _, _, rfl, rfl, Rel.mk2 h (F15.tr F6 (by decide) (by decide) (by decide)) Fb ((C1.fr F25 (by simp) (by simp)).fr F6 (by simp) (by simp)) Cb⟩
      · obtain ⟨⟨r5, g5⟩, e5, F5, er5⟩ := firstRowA (H := sk p f) hw (P1.fr F2 (by simp) (by simp)) ((F2.1 11801 (by simp)).trans K1) (L1.2.2.fr F2 (by simp)) (v := ww p (sk p f)) (by omega) hy ey ny
        have er5 : r5 = nI y := er5
        have F25 : Fr [] [129] w0 g1 g5 := F2.tr F5 (by simp) (by simp) (by simp)
        rw [if_neg (show ¬ nI 2 = 0 by decide), e5, Option.bind_some]
        dsimp only
        rw [er5, if_neg (show ¬ nI 2 = 1 by decide), if_neg (by decide), if_neg (by decide)]
        exact ⟨_, _, _, rfl, rfl, Rel.mk2 h (F1.tr F25 (by decide) (by decide) (by decide)) Fb (C1.fr F25 (by simp) (by simp)) Cb⟩
    · rw [inB_f ha (by decide) (by decide), Option.bind_some, if_pos i00, show (2 : Int32) = nI 2 from rfl, three_f ha (by decide)]
      exact no
  · rw [e1, e2, Option.bind_some, if_pos i00, if_pos i00]
    exact no
