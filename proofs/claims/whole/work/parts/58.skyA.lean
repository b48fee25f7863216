/-! ARCS AND VIEWS OF THE CLASS -/
/-- the columns of a row that are seen from column 0 -/
def arc (p : Pl) (r y dy : Nat) : Nat := mk (fun o => decide (rd (pC p) o * wd p y * (rd (pC p) o * wd p y) + dy * pR p * (dy * pR p) ≤ r * pR p * (r * pR p))) (pC p)
/-- the columns of a row that are seen from a place -/
def vw (p : Pl) (col row r y : Nat) : Nat := mk (fun x => rch p col row r x y) (pC p)
theorem n_abs0 {a b : Nat} (ha : a < 2 ^ 31) (hb : b < 2 ^ 31) : (if (0 : Int32) ≤ nI a - nI b then nI a - nI b else (0 : Int32) - (nI a - nI b)) = nI (if b ≤ a then a - b else b - a) := n_abs ha hb
theorem arcA {p : Pl} (h : WP p) {g : G} (hP : PA p g) {r y dy : Nat} (hr : r ≤ 12) (hy : y < pR p) (hd : dy < pR p) : fA_Sky_arcOf (nI r) (nI y) (nI dy) g = some (nI (arc p r y dy)) := by
  have h1 := h.c
  have w1 := wd_le p y
  have m2 : dy * pR p ≤ 12 * 12 := Nat.mul_le_mul (by omega) (by omega)
  have m3 : r * pR p ≤ 12 * 12 := Nat.mul_le_mul (by omega) (by omega)
  have q2 := sq_le m2 m2
  have q3 := sq_le m3 m3
  apply Sat.eq
  unfold fA_Sky_arcOf
  rw [ag_nI (by omega) (by decide), hP.2.2.2.2 y hy, hP.1.2.1, nI_mul, nI_mul, bv_eq, bv_eq]
  obtain ⟨B, hB⟩ : ∃ B : Nat → Bool, B = fun o => decide (rd (pC p) o * wd p y * (rd (pC p) o * wd p y) + dy * pR p * (dy * pR p) ≤ r * pR p * (r * pR p)) := ⟨_, rfl⟩
  refine Sat.lp (fun o s => s = (nI (mk (fun i => decide (i < o) && B i) (pC p)), nI o)) (pC p) (by omega) (by rw [mkp_0]; rfl) ?_ ?_
  · rintro rec o _ ho rfl hrec
    have r1 : rd (pC p) o ≤ 24 := Nat.le_trans (rd_le (by omega)) (by omega)
    have m1 : rd (pC p) o * wd p y ≤ 24 * 12 := Nat.mul_le_mul r1 (by omega)
    have q1 := sq_le m1 m1
    simp only []
    rw [hP.1.1, if_neg (nI_ge ho (by omega)), nI_sub (by omega)]
    have er : (if nI (pC p - o) < nI o then nI (pC p - o) else nI o) = nI (rd (pC p) o) := by
      unfold rd
      by_cases hh : pC p - o < o
      · rw [if_pos (nI_lt hh (by omega)), if_pos hh]
      · rw [if_neg (nI_nlt (by omega) (by omega)), if_neg hh]
    rw [er, bv_eq, nI_mul, bv_eq, lj_eq, nI_mul, nI_mul, nI_mul, nI_add, nl, nl, n_31 (k := o) (by omega), n_shl _ (by omega), n_or, bv_eq, nI_add]
    have e2 := mkp_succ B ho
    by_cases hh : rd (pC p) o * wd p y * (rd (pC p) o * wd p y) + dy * pR p * (dy * pR p) ≤ r * pR p * (r * pR p)
    · rw [if_neg (nI_nlt hh (by omega))]
      refine hrec _ ?_
      have eb : B o = true := by rw [hB]; exact decide_eq_true hh
      rw [eb] at e2
      rw [← e2]
      rfl
    · rw [if_pos (nI_lt (by omega) (by omega))]
      refine hrec _ ?_
      have eb : B o = false := by rw [hB]; exact decide_eq_false hh
      rw [eb] at e2
      rw [← e2]
      simp
  · rintro rec _ rfl
    simp only []
    rw [hP.1.1, if_pos (nI_le (Nat.le_refl _) (by omega))]
    refine Sat.of ?_
    unfold arc
    rw [hB]
    congr 1
    apply mk_cong
    intro i hi
    simp [hi]
/-- the arcs that were made -/
def AK (p : Pl) (g : G) : Prop := g.1 11801 = nI (2 ^ pC p - 1) ∧ ∃ m, m < 2 ^ 13 ∧ g.1 11802 = nI m ∧ ∀ r, r ≤ 12 → m.testBit r = true → ∀ y dy, y < pR p → dy < pR p → g.2.1 119 ((r * 12 + y) * 12 + dy) = nI (arc p r y dy)
def AR (p : Pl) (r : Nat) (g : G) : Prop := ∀ y dy, y < pR p → dy < pR p → g.2.1 119 ((r * 12 + y) * 12 + dy) = nI (arc p r y dy)
theorem AK.fr {S T : List Nat} {w : Bool × Bool × Bool} {p : Pl} {g g' : G} (h : AK p g) (hf : Fr S T w g g') (hS : 11801 ∉ S ∧ 11802 ∉ S) (hT : 119 ∉ T) : AK p g' := by
  unfold AK
  rw [hf.1 _ hS.1, hf.1 _ hS.2, hf.2.1 _ hT]
  exact h
theorem AR.fr {S T : List Nat} {w : Bool × Bool × Bool} {p : Pl} {r : Nat} {g g' : G} (h : AR p r g) (hf : Fr S T w g g') (hT : 119 ∉ T) : AR p r g' := by
  unfold AR
  rw [hf.2.1 _ hT]
  exact h
theorem makeArcsA {p : Pl} (h : WP p) {g : G} (hP : PA p g) (hA : AK p g) {r : Nat} (hr : r ≤ 12) : Sat (fA_Sky_makeArcs (nI r) g) (fun g' => Fr [11802] [119] w0 g g' ∧ AK p g' ∧ AR p r g') := by
  have h1 := h.c
  obtain ⟨hf, m, hm, em, ha⟩ := hA
  unfold fA_Sky_makeArcs
  rw [em]
  simp only [nl]
  rw [n_31 (k := r) (by omega), n_shr (a := m) (k := r) (by omega) (by omega), n_and, n_shl _ (by omega), n_or]
  cases hb : m.testBit r
  · rw [if_pos (by rw [n_bit, hb]; rfl), bv_eq]
    have hm2 : m ||| (1 <<< r) < 2 ^ 13 := Nat.or_lt_two_pow hm (by rw [Nat.one_shiftLeft]; exact Nat.pow_lt_pow_right (by decide) (by omega))
    obtain ⟨In, hIn⟩ : ∃ In : Nat → G → Prop, In = fun n s => Fr [11802] [119] w0 g s ∧ s.1 11802 = nI (m ||| (1 <<< r)) ∧ (∀ r2, r2 ≤ 12 → r2 ≠ r → ∀ y dy, y < pR p → dy < pR p → s.2.1 119 ((r2 * 12 + y) * 12 + dy) = g.2.1 119 ((r2 * 12 + y) * 12 + dy)) ∧ ∀ y dy, y < pR p → dy < pR p → y * 12 + dy < n → s.2.1 119 ((r * 12 + y) * 12 + dy) = nI (arc p r y dy) := ⟨_, rfl⟩
    refine Sat.lp (fun y s => ∃ g', s = (nI y, g') ∧ In (y * 12) g') (pR p) (by omega) ⟨_, rfl, ?_⟩ ?_ ?_
    · rw [hIn]
      exact ⟨Fr.rf.sS (by simp), rfl, fun _ _ _ _ _ _ _ => rfl, fun y dy _ _ hl => by omega⟩
    · rintro rec y _ hy ⟨g1, rfl, i1⟩ hrec
      have F1 : Fr [11802] [119] w0 g g1 := by rw [hIn] at i1; exact i1.1
      have P1 := hP.fr F1 (by simp) (by simp)
      simp only []
      rw [P1.1.2.1, if_neg (nI_ge hy (by omega))]
      refine Sat.lp (fun dy s => ∃ g', s = (nI dy, g') ∧ In (y * 12 + dy) g') (pR p) (by omega) ⟨_, rfl, i1⟩ ?_ ?_
      · rintro rec2 dy _ hdy ⟨g2, rfl, i2⟩ hrec2
        rw [hIn] at i2
        have P2 := hP.fr i2.1 (by simp) (by simp)
        simp only []
        rw [P2.1.2.1, if_neg (nI_ge hdy (by omega)), arcA h P2 hr hy hdy, Option.bind_some, nI_mul, nI_add, nI_mul, nI_add, ck_nI (by omega) (by decide), nI_clamp (by omega), bv_eq, nI_add]
        refine hrec2 _ ⟨_, rfl, ?_⟩
        rw [hIn]
        refine ⟨i2.1.sA (by simp), i2.2.1, fun r2 hr2 hne y2 dy2 hy2 hdy2 => ?_, fun y2 dy2 hy2 hdy2 hl => ?_⟩
        · rw [sA_21, if_pos rfl, upd_ne _ _ (by omega)]
          exact i2.2.2.1 r2 hr2 hne y2 dy2 hy2 hdy2
        · rw [sA_21, if_pos rfl]
          by_cases e : y2 = y ∧ dy2 = dy
          · rw [e.1, e.2, upd_self]
          · rw [upd_ne _ _ (by omega)]
            exact i2.2.2.2 y2 dy2 hy2 hdy2 (by omega)
      · rintro rec2 _ ⟨g2, rfl, i2⟩
        have F2 : Fr [11802] [119] w0 g g2 := by rw [hIn] at i2; exact i2.1
        have P2 := hP.fr F2 (by simp) (by simp)
        simp only []
        rw [P2.1.2.1, if_pos (nI_le (Nat.le_refl _) (by omega)), nI_add]
        refine hrec _ ⟨g2, rfl, ?_⟩
        rw [hIn] at i2 ⊢
        exact ⟨i2.1, i2.2.1, i2.2.2.1, fun y2 dy2 hy2 hdy2 hl => i2.2.2.2 y2 dy2 hy2 hdy2 (by omega)⟩
    · rintro rec _ ⟨g1, rfl, i1⟩
      rw [hIn] at i1
      have P1 := hP.fr i1.1 (by simp) (by simp)
      simp only []
      rw [P1.1.2.1, if_pos (nI_le (Nat.le_refl _) (by omega))]
      have key : ∀ y dy, y < pR p → dy < pR p → g1.2.1 119 ((r * 12 + y) * 12 + dy) = nI (arc p r y dy) := fun y dy hy hdy => i1.2.2.2 y dy hy hdy (by omega)
      refine Sat.of ⟨i1.1, ⟨by rw [i1.1.1 11801 (by simp)]; exact hf, _, hm2, i1.2.1, fun r2 hr2 hb2 => ?_⟩, key⟩
      by_cases e : r2 = r
      · subst e
        exact key
      · intro y dy hy hdy
        rw [i1.2.2.1 r2 hr2 e y dy hy hdy]
        refine ha r2 hr2 ?_ y dy hy hdy
        rw [Nat.testBit_or, one_bit (by omega)] at hb2
        simpa [e] using hb2
  · rw [if_neg (by rw [n_bit, hb]; decide)]
    exact Sat.of ⟨Fr.rf, ⟨hf, m, hm, em, ha⟩, ha r hr hb⟩
theorem rd_sym {C d : Nat} (h : d ≤ C) : rd C (C - d) = rd C d := by
  unfold rd
  split <;> split <;> omega
/-- an arc, turned -/
theorem vw_eq {p : Pl} (h : WP p) {col row r y : Nat} (hc : col < pC p) : (arc p r y (ds row y) <<< col ||| arc p r y (ds row y) >>> (pC p - col)) &&& (2 ^ pC p - 1) = vw p col row r y := by
  have h1 := h.c
  apply Nat.eq_of_testBit_eq
  intro x
  rw [Nat.testBit_and, Nat.testBit_or, Nat.testBit_shiftLeft, Nat.testBit_shiftRight, Nat.testBit_two_pow_sub_one]
  unfold vw arc
  rw [mk_bit, mk_bit, mk_bit]
  by_cases hx : x < pC p
  · by_cases l : col ≤ x
    · have e1 : ds col x = x - col := by unfold ds; split <;> omega
      have e2 : x - col < pC p := by omega
      have e3 : ¬ pC p - col + x < pC p := by omega
      unfold rch
      rw [e1]
      simp [hx, l, e2, e3]
    · have e1 : ds col x = col - x := by unfold ds; split <;> omega
      have e2 : pC p - col + x = pC p - (col - x) := by omega
      have e3 : pC p - (col - x) < pC p := by omega
      unfold rch
      rw [e1, e2, rd_sym (by omega)]
      simp [hx, l, e3]
  · simp [hx]
theorem paintA {p : Pl} (h : WP p) {g : G} (hP : PA p g) (hK : AK p g) {c t r col row : Nat} (hA : AR p r g) (hc : c < pK p) (ht : t < pY p) (hr : r ≤ 12) (hcol : col < pC p) (hrow : row < pR p)
    (e1 : g.2.1 124 (c * 240 + t) = nI col) (e2 : g.2.1 125 (c * 240 + t) = nI row) :
    Sat (fA_Sky_paint (nI c) (nI t) (nI r) g) (fun g' => Fr [] [126] w0 g g' ∧ (∀ y, y < pR p → g'.2.1 126 ((c * 12 + y) * 240 + t) = nI (vw p col row r y)) ∧ ∀ k, (∀ y, y < pR p → k ≠ (c * 12 + y) * 240 + t) → g'.2.1 126 k = g.2.1 126 k) := by
  have h1 := h.c
  unfold fA_Sky_paint
  rw [nl, nI_mul, nI_add, ag_nI (by omega) (by decide), e1, ag_nI (by omega) (by decide), e2]
  refine Sat.lp (fun y s => ∃ g', s = (nI y, g') ∧ Fr [] [126] w0 g g' ∧ (∀ y2, y2 < y → g'.2.1 126 ((c * 12 + y2) * 240 + t) = nI (vw p col row r y2)) ∧ ∀ k, (∀ y, y < pR p → k ≠ (c * 12 + y) * 240 + t) → g'.2.1 126 k = g.2.1 126 k) (pR p) (by omega) ⟨g, rfl, Fr.rf, fun y2 hl => by omega, fun _ _ => rfl⟩ ?_ ?_
  · rintro rec y _ hy ⟨g1, rfl, F1, i1, j1⟩ hrec
    have P1 := hP.fr F1 (by simp) (by simp)
    have A1 := hA.fr F1 (by simp)
    have K1 := hK.fr F1 (by simp) (by simp)
    have hd : ds row y < pR p := by unfold ds; split <;> omega
    have eds : (if y ≥ row then y - row else row - y) = ds row y := by unfold ds; split <;> split <;> omega
    have hal : arc p r y (ds row y) < 2 ^ 32 := Nat.lt_of_lt_of_le (mk_lt _ _) (Nat.pow_le_pow_right (by decide) (by omega))
    simp only []
    rw [P1.1.2.1, if_neg (nI_ge hy (by omega))]
    rw [n_abs0 (a := y) (b := row) (by omega) (by omega), eds, bv_eq]
    simp only [nl]
    rw [nI_mul, nI_add, nI_mul, nI_add, ag_nI (by omega) (by decide), A1 y _ hy hd, P1.1.1, nI_sub (by omega), n_31 (k := col) (by omega), n_shl _ (by omega), n_ushr hal (by omega), n_or, bv_eq, K1.1, n_and, vw_eq h hcol,
      nI_mul, nI_add, nI_mul, nI_add, ck_nI (by omega) (by decide), nI_clamp (by omega), bv_eq, nI_add]
    refine hrec _ ⟨_, rfl, F1.sA (by simp), fun y2 hl => ?_, fun k hk => ?_⟩
    · rw [sA_21, if_pos rfl]
      by_cases e : y2 = y
      · rw [e, upd_self]
      · rw [upd_ne _ _ (by omega)]
        exact i1 y2 (by omega)
    · rw [sA_21, if_pos rfl, upd_ne _ _ (hk y hy)]
      exact j1 k hk
  · rintro rec _ ⟨g1, rfl, F1, i1, j1⟩
    have P1 := hP.fr F1 (by simp) (by simp)
    simp only []
    rw [P1.1.2.1, if_pos (nI_le (Nat.le_refl _) (by omega))]
    exact Sat.of ⟨F1, i1, j1⟩
