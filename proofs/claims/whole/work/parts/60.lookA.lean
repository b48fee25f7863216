/-! THE SKY OF THE CLASS: held, joined, looked at -/
/-- whether one of a set does -/
def ob (K : Nat) (V : Nat → Bool) (s : Nat) : Bool := decide (mk (fun c => decide (c < K) && V c) 8 &&& s ≠ 0)
theorem and_ne0 {m s n : Nat} (hm : m < 2 ^ n) : m &&& s ≠ 0 ↔ ∃ i, i < n ∧ m.testBit i = true ∧ s.testBit i = true := by
  constructor
  · intro h
    apply Classical.byContradiction
    intro hn
    apply h
    apply Nat.eq_of_testBit_eq
    intro i
    rw [Nat.testBit_and, Nat.zero_testBit]
    cases hb : m.testBit i
    · rfl
    · cases hs : s.testBit i
      · rfl
      · exfalso
        apply hn
        refine ⟨i, ?_, hb, hs⟩
        apply Classical.byContradiction
        intro hl
        rw [bit_hi hm (by omega)] at hb
        exact absurd hb (by decide)
  · rintro ⟨i, _, h1, h2⟩ h0
    have : (m &&& s).testBit i = true := by rw [Nat.testBit_and, h1, h2]; rfl
    rw [h0, Nat.zero_testBit] at this
    exact absurd this (by decide)
theorem ob_iff {K : Nat} (hK : K ≤ 8) {V : Nat → Bool} {s : Nat} : ob K V s = true ↔ ∃ c, c < K ∧ V c = true ∧ s.testBit c = true := by
  unfold ob
  rw [decide_eq_true_iff, and_ne0 (mk_lt _ 8)]
  constructor
  · rintro ⟨i, hi, h1, h2⟩
    rw [mk_bit] at h1
    simp at h1
    exact ⟨i, h1.2.1, h1.2.2, h2⟩
  · rintro ⟨c, hc, h1, h2⟩
    refine ⟨c, by omega, ?_, h2⟩
    rw [mk_bit]
    have : c < 8 := by omega
    simp [this, hc, h1]
theorem ob_0 (V : Nat → Bool) (s : Nat) : ob 0 V s = false := by
  cases h : ob 0 V s
  · rfl
  · obtain ⟨c, hc, _⟩ := (ob_iff (by decide)).mp h
    omega
theorem ob_succ {K : Nat} (hK : K < 8) (V : Nat → Bool) (s : Nat) : ob (K + 1) V s = (ob K V s || (s.testBit K && V K)) := by
  apply Bool.eq_iff_iff.mpr
  rw [Bool.or_eq_true, Bool.and_eq_true, ob_iff (by omega), ob_iff (by omega)]
  constructor
  · rintro ⟨c, hc, h1, h2⟩
    by_cases e : c = K
    · subst e
      exact Or.inr ⟨h2, h1⟩
    · exact Or.inl ⟨c, by omega, h1, h2⟩
  · rintro (⟨c, hc, h1, h2⟩ | ⟨h1, h2⟩)
    · exact ⟨c, by omega, h1, h2⟩
    · exact ⟨K, by omega, h2, h1⟩
theorem mk_or {a b : Nat → Bool} {n : Nat} : nI (mk a n) ||| nI (mk b n) = nI (mk (fun x => a x || b x) n) := by
  rw [n_or]
  congr 1
  apply Nat.eq_of_testBit_eq
  intro i
  rw [Nat.testBit_or, mk_bit, mk_bit, mk_bit]
  cases decide (i < n) <;> simp
/-- what each craft shows -/
def VV (p : Pl) (V : Nat → Nat → Nat → Nat → Bool) (g : G) : Prop := ∀ c t y, c < pK p → t < pY p → y < pR p → g.2.1 126 ((c * 12 + y) * 240 + t) = nI (mk (V c t y) (pC p))
theorem VF.vv {p : Pl} {f : Fl} {g : G} (h : VF p f g) : VV p (fun c t y x => see p f c t x y) g := fun c t y hc ht hy => (h c hc t ht).2.2 y hy
theorem VV.fr {S T : List Nat} {w : Bool × Bool × Bool} {p : Pl} {V : Nat → Nat → Nat → Nat → Bool} {g g' : G} (h : VV p V g) (hf : Fr S T w g g') (hT : 126 ∉ T) : VV p V g' := by
  unfold VV
  rw [hf.2.1 126 hT]
  exact h
set_option maxHeartbeats 1000000 in
theorem addViewsH {p : Pl} (h : WP p) {g : G} (hP : PA p g) {V : Nat → Nat → Nat → Nat → Bool} (hV : VV p V g) {s y : Nat} (hs : s < 2 ^ 31) (hy : y < pR p) {H : Nat → Nat → Bool} (hH : ∀ t, t < pY p → g.2.1 127 (y * 240 + t) = nI (mk (H t) (pC p))) :
    Sat (fA_Sky_addViews (nI s) (nI y) g) (fun g' => Fr [] [127] w0 g g' ∧ (∀ t, t < pY p → g'.2.1 127 (y * 240 + t) = nI (mk (fun x => H t x || ob (pK p) (fun c => V c t y x) s) (pC p))) ∧ ∀ k, (k < y * 240 ∨ y * 240 + 240 ≤ k) → g'.2.1 127 k = g.2.1 127 k) := by
  have h1 := h.c
  unfold fA_Sky_addViews
  rw [nl, nI_mul, bv_eq]
  refine Sat.lp (fun c s1 => ∃ g', s1 = (nI c, g') ∧ Fr [] [127] w0 g g' ∧ (∀ t, t < pY p → g'.2.1 127 (y * 240 + t) = nI (mk (fun x => H t x || ob c (fun c => V c t y x) s) (pC p))) ∧ ∀ k, (k < y * 240 ∨ y * 240 + 240 ≤ k) → g'.2.1 127 k = g.2.1 127 k) (pK p) (by omega) ⟨g, rfl, Fr.rf, fun t ht => ?_, fun _ _ => rfl⟩ ?_ ?_
  · rw [hH t ht]
    congr 1
    apply mk_cong
    intro x _
    rw [ob_0, Bool.or_false]
  · rintro rec c _ hc ⟨g1, rfl, F1, i1, j1⟩ hrec
    have P1 := hP.fr F1 (by simp) (by simp)
    have V1 := hV.fr F1 (by simp)
    simp only []
    rw [P1.1.2.2.2.2.2.2.1, if_neg (nI_ge hc (by omega)), lj_eq]
    simp only [nl]
    rw [n_31 (k := c) (by omega), n_shr (a := s) (k := c) hs (by omega), n_and]
    cases hb : s.testBit c
    · rw [if_pos (by rw [n_bit, hb]; rfl), nI_add]
      refine hrec _ ⟨g1, rfl, F1, fun t ht => ?_, j1⟩
      rw [i1 t ht]
      congr 1
      apply mk_cong
      intro x _
      rw [ob_succ (by omega), hb, Bool.false_and, Bool.or_false]
    · rw [if_neg (by rw [n_bit, hb]; decide), nI_mul, nI_add, nI_mul, bv_eq]
      refine Sat.lp (fun t s1 => ∃ g', s1 = (nI t, g') ∧ Fr [] [127] w0 g g' ∧ (∀ t2, t2 < pY p → g'.2.1 127 (y * 240 + t2) = nI (mk (fun x => H t2 x || ob (if t2 < t then c + 1 else c) (fun c => V c t2 y x) s) (pC p))) ∧ ∀ k, (k < y * 240 ∨ y * 240 + 240 ≤ k) → g'.2.1 127 k = g.2.1 127 k) (pY p) (by omega) ⟨g1, rfl, F1, fun t2 ht2 => ?_, j1⟩ ?_ ?_
      · rw [if_neg (by omega)]
        exact i1 t2 ht2
      · rintro rec2 t _ ht ⟨g2, rfl, F2, i2, j2⟩ hrec2
        have P2 := hP.fr F2 (by simp) (by simp)
        have V2 := hV.fr F2 (by simp)
        have v := i2 t ht
        rw [if_neg (by omega)] at v
        simp only []
        rw [P2.1.2.2.2.1, if_neg (nI_ge ht (by omega)), nI_add, ag_nI (by omega) (by decide), nI_add, ag_nI (by omega) (by decide), ck_nI (by omega) (by decide), nI_clamp (by omega), bv_eq, nI_add, v, V2 c t y hc ht hy, mk_or]
        refine hrec2 _ ⟨_, rfl, F2.sA (by simp), fun t2 ht2 => ?_, fun k hk => ?_⟩
        · rw [sA_21, if_pos rfl]
          by_cases e : t2 = t
          · subst e
            rw [upd_self, if_pos (by omega)]
            congr 1
            apply mk_cong
            intro x _
            rw [ob_succ (by omega), hb, Bool.true_and, Bool.or_assoc]
          · rw [upd_ne _ _ (by omega), i2 t2 ht2]
            by_cases l : t2 < t
            · rw [if_pos l, if_pos (by omega)]
            · rw [if_neg l, if_neg (by omega)]
        · rw [sA_21, if_pos rfl, upd_ne _ _ (by omega)]
          exact j2 k hk
      · rintro rec2 _ ⟨g2, rfl, F2, i2, j2⟩
        have P2 := hP.fr F2 (by simp) (by simp)
        simp only []
        rw [P2.1.2.2.2.1, if_pos (nI_le (Nat.le_refl _) (by omega)), nI_add]
        refine hrec _ ⟨g2, rfl, F2, fun t ht => ?_, j2⟩
        rw [i2 t ht, if_pos ht]
  · rintro rec _ ⟨g1, rfl, F1, i1, j1⟩
    have P1 := hP.fr F1 (by simp) (by simp)
    simp only []
    rw [P1.1.2.2.2.2.2.2.1, if_pos (nI_le (Nat.le_refl _) (by omega))]
    exact Sat.of ⟨F1, i1, j1⟩
set_option maxHeartbeats 1000000 in
theorem addViewsS {p : Pl} (h : WP p) {g : G} (hP : PA p g) {V : Nat → Nat → Nat → Nat → Bool} (hV : VV p V g) {s y : Nat} (hs : s < 2 ^ 31) (hy : y < pR p) {H : Nat → Nat → Bool} (hH : ∀ t, t < pY p → g.2.1 128 (y * 240 + t) = nI (mk (H t) (pC p))) :
    Sat (fA_Sky_addViews_2 (nI s) (nI y) g) (fun g' => Fr [] [128] w0 g g' ∧ (∀ t, t < pY p → g'.2.1 128 (y * 240 + t) = nI (mk (fun x => H t x || ob (pK p) (fun c => V c t y x) s) (pC p))) ∧ ∀ k, (k < y * 240 ∨ y * 240 + 240 ≤ k) → g'.2.1 128 k = g.2.1 128 k) := by
  have h1 := h.c
  unfold fA_Sky_addViews_2
  rw [nl, nI_mul, bv_eq]
  refine Sat.lp (fun c s1 => ∃ g', s1 = (nI c, g') ∧ Fr [] [128] w0 g g' ∧ (∀ t, t < pY p → g'.2.1 128 (y * 240 + t) = nI (mk (fun x => H t x || ob c (fun c => V c t y x) s) (pC p))) ∧ ∀ k, (k < y * 240 ∨ y * 240 + 240 ≤ k) → g'.2.1 128 k = g.2.1 128 k) (pK p) (by omega) ⟨g, rfl, Fr.rf, fun t ht => ?_, fun _ _ => rfl⟩ ?_ ?_
  · rw [hH t ht]
    congr 1
    apply mk_cong
    intro x _
    rw [ob_0, Bool.or_false]
  · rintro rec c _ hc ⟨g1, rfl, F1, i1, j1⟩ hrec
    have P1 := hP.fr F1 (by simp) (by simp)
    have V1 := hV.fr F1 (by simp)
    simp only []
    rw [P1.1.2.2.2.2.2.2.1, if_neg (nI_ge hc (by omega)), lj_eq]
    simp only [nl]
    rw [n_31 (k := c) (by omega), n_shr (a := s) (k := c) hs (by omega), n_and]
    cases hb : s.testBit c
    · rw [if_pos (by rw [n_bit, hb]; rfl), nI_add]
      refine hrec _ ⟨g1, rfl, F1, fun t ht => ?_, j1⟩
      rw [i1 t ht]
      congr 1
      apply mk_cong
      intro x _
      rw [ob_succ (by omega), hb, Bool.false_and, Bool.or_false]
    · rw [if_neg (by rw [n_bit, hb]; decide), nI_mul, nI_add, nI_mul, bv_eq]
      refine Sat.lp (fun t s1 => ∃ g', s1 = (nI t, g') ∧ Fr [] [128] w0 g g' ∧ (∀ t2, t2 < pY p → g'.2.1 128 (y * 240 + t2) = nI (mk (fun x => H t2 x || ob (if t2 < t then c + 1 else c) (fun c => V c t2 y x) s) (pC p))) ∧ ∀ k, (k < y * 240 ∨ y * 240 + 240 ≤ k) → g'.2.1 128 k = g.2.1 128 k) (pY p) (by omega) ⟨g1, rfl, F1, fun t2 ht2 => ?_, j1⟩ ?_ ?_
      · rw [if_neg (by omega)]
        exact i1 t2 ht2
      · rintro rec2 t _ ht ⟨g2, rfl, F2, i2, j2⟩ hrec2
        have P2 := hP.fr F2 (by simp) (by simp)
        have V2 := hV.fr F2 (by simp)
        have v := i2 t ht
        rw [if_neg (by omega)] at v
        simp only []
        rw [P2.1.2.2.2.1, if_neg (nI_ge ht (by omega)), nI_add, ag_nI (by omega) (by decide), nI_add, ag_nI (by omega) (by decide), ck_nI (by omega) (by decide), nI_clamp (by omega), bv_eq, nI_add, v, V2 c t y hc ht hy, mk_or]
        refine hrec2 _ ⟨_, rfl, F2.sA (by simp), fun t2 ht2 => ?_, fun k hk => ?_⟩
        · rw [sA_21, if_pos rfl]
          by_cases e : t2 = t
          · subst e
            rw [upd_self, if_pos (by omega)]
            congr 1
            apply mk_cong
            intro x _
            rw [ob_succ (by omega), hb, Bool.true_and, Bool.or_assoc]
          · rw [upd_ne _ _ (by omega), i2 t2 ht2]
            by_cases l : t2 < t
            · rw [if_pos l, if_pos (by omega)]
            · rw [if_neg l, if_neg (by omega)]
        · rw [sA_21, if_pos rfl, upd_ne _ _ (by omega)]
          exact j2 k hk
      · rintro rec2 _ ⟨g2, rfl, F2, i2, j2⟩
        have P2 := hP.fr F2 (by simp) (by simp)
        simp only []
        rw [P2.1.2.2.2.1, if_pos (nI_le (Nat.le_refl _) (by omega)), nI_add]
        refine hrec _ ⟨g2, rfl, F2, fun t ht => ?_, j2⟩
        rw [i2 t ht, if_pos ht]
  · rintro rec _ ⟨g1, rfl, F1, i1, j1⟩
    have P1 := hP.fr F1 (by simp) (by simp)
    simp only []
    rw [P1.1.2.2.2.2.2.2.1, if_pos (nI_le (Nat.le_refl _) (by omega))]
    exact Sat.of ⟨F1, i1, j1⟩
/-- what is held, what is shown -/
def HH (p : Pl) (a : Nat) (H : Nat → Nat → Nat → Bool) (g : G) : Prop := ∀ t y, t < pY p → y < pR p → g.2.1 a (y * 240 + t) = nI (mk (H t y) (pC p))
theorem HH.fr {S T : List Nat} {w : Bool × Bool × Bool} {p : Pl} {a : Nat} {H : Nat → Nat → Nat → Bool} {g g' : G} (h : HH p a H g) (hf : Fr S T w g g') (hT : a ∉ T) : HH p a H g' := by
  unfold HH
  rw [hf.2.1 a hT]
  exact h
set_option maxHeartbeats 1000000 in
theorem holdA {p : Pl} (h : WP p) {g : G} (hP : PA p g) {V : Nat → Nat → Nat → Nat → Bool} (hV : VV p V g) {s : Nat} (hs : s < 2 ^ 31) :
    Sat (fA_Sky_hold (nI s) g) (fun g' => Fr [] [127] w0 g g' ∧ HH p 127 (fun t y x => ob (pK p) (fun c => V c t y x) s) g') := by
  have h1 := h.c
  unfold fA_Sky_hold
  refine Sat.lp (fun y s1 => ∃ g', s1 = (nI y, g') ∧ Fr [] [127] w0 g g' ∧ ∀ t y2, t < pY p → y2 < y → g'.2.1 127 (y2 * 240 + t) = nI (mk (fun x => ob (pK p) (fun c => V c t y2 x) s) (pC p))) (pR p) (by omega) ⟨g, rfl, Fr.rf, fun t y2 _ hl => by omega⟩ ?_ ?_
  · rintro rec y _ hy ⟨g1, rfl, F1, i1⟩ hrec
    have P1 := hP.fr F1 (by simp) (by simp)
    simp only []
    rw [P1.1.2.1, if_neg (nI_ge hy (by omega))]
    refine Sat.lp (fun t s1 => ∃ g', s1 = (nI t, g') ∧ Fr [] [127] w0 g g' ∧ (∀ t2 y2, t2 < pY p → y2 < y → g'.2.1 127 (y2 * 240 + t2) = nI (mk (fun x => ob (pK p) (fun c => V c t2 y2 x) s) (pC p))) ∧ ∀ t2, t2 < t → g'.2.1 127 (y * 240 + t2) = nI 0) (pY p) (by omega) ⟨g1, rfl, F1, i1, fun t2 hl => by omega⟩ ?_ ?_
    · rintro rec2 t _ ht ⟨g2, rfl, F2, i2, j2⟩ hrec2
      have P2 := hP.fr F2 (by simp) (by simp)
      simp only []
      rw [P2.1.2.2.2.1, if_neg (nI_ge ht (by omega))]
      simp only [nl]
      rw [nI_mul, nI_add, ck_nI (by omega) (by decide), nI_clamp (by omega), bv_eq, nI_add]
      refine hrec2 _ ⟨_, rfl, F2.sA (by simp), fun t2 y2 ht2 hl => ?_, fun t2 hl => ?_⟩
      · rw [sA_21, if_pos rfl, upd_ne _ _ (by omega)]
        exact i2 t2 y2 ht2 hl
      · rw [sA_21, if_pos rfl]
        by_cases e : t2 = t
        · subst e
          rw [upd_self]
        · rw [upd_ne _ _ (by omega)]
          exact j2 t2 (by omega)
    · rintro rec2 _ ⟨g2, rfl, F2, i2, j2⟩
      have P2 := hP.fr F2 (by simp) (by simp)
      simp only []
      rw [P2.1.2.2.2.1, if_pos (nI_le (Nat.le_refl _) (by omega))]
      refine (addViewsH h P2 (hV.fr F2 (by simp)) hs hy (H := fun _ _ => false) (fun t ht => ?_)).bind ?_
      · rw [j2 t ht, mk_zero.mpr (fun _ _ => rfl)]
      · rintro g3 ⟨F3, i3, j3⟩
        rw [nl, nI_add]
        refine hrec _ ⟨g3, rfl, F2.tr F3 (by simp) (by simp) (by simp), fun t y2 ht hl => ?_⟩
        by_cases e : y2 = y
        · subst e
          rw [i3 t ht]
          congr 1
        · rw [j3 _ (by omega)]
          exact i2 t y2 ht (by omega)
  · rintro rec _ ⟨g1, rfl, F1, i1⟩
    have P1 := hP.fr F1 (by simp) (by simp)
    simp only []
    rw [P1.1.2.1, if_pos (nI_le (Nat.le_refl _) (by omega))]
    exact Sat.of ⟨F1, i1⟩
theorem cp_nI {β : Type} {n0 n1 a b n : Nat} {k : Option β} (h1 : a + n ≤ n0) (h2 : b + n ≤ n1) (h3 : n0 < 2 ^ 31) (h4 : n1 < 2 ^ 31) : cp n0 n1 (nI a) (nI b) (nI n) k = k := by
  unfold cp
  rw [nI_clamp (by omega), nI_clamp (by omega), nI_clamp (by omega), if_pos ⟨nI_pos (by omega), nI_pos (by omega), nI_pos (by omega), h1, h2⟩]
theorem joinRowA {p : Pl} (h : WP p) {g : G} (hP : PA p g) {V : Nat → Nat → Nat → Nat → Bool} (hV : VV p V g) {s y : Nat} (hs : s < 2 ^ 31) (hy : y < pR p) {H : Nat → Nat → Nat → Bool} (hH : HH p 127 H g) :
    Sat (fA_Sky_joinRow (nI s) (nI y) g) (fun g' => Fr [] [128] w0 g g' ∧ (∀ t, t < pY p → g'.2.1 128 (y * 240 + t) = nI (mk (fun x => H t y x || ob (pK p) (fun c => V c t y x) s) (pC p))) ∧ ∀ k, (k < y * 240 ∨ y * 240 + 240 ≤ k) → g'.2.1 128 k = g.2.1 128 k) := by
  have h1 := h.c
  unfold fA_Sky_joinRow
  rw [nl, nI_mul, hP.1.2.2.2.1, cp_nI (by omega) (by omega) (by decide) (by decide), nI_clamp (by omega), nI_clamp (by omega), bv_eq]
  have F1 : Fr [] [128] w0 g (sC g 128 (va_cpy (g.2.1 127) (g.2.1 128) (y * 240) (y * 240) (pY p))) := Fr.rf.sC (by simp)
  refine (addViewsS h (hP.fr F1 (by simp) (by simp)) (hV.fr F1 (by simp)) hs hy (H := fun t x => H t y x) (fun t ht => ?_)).bind ?_
  · rw [sC_21, if_pos rfl, pk_cpy_in (by omega) (by omega), show y * 240 + (y * 240 + t - y * 240) = y * 240 + t by omega]
    exact hH t y ht hy
  · rintro g2 ⟨F2, i2, j2⟩
    refine Sat.of ⟨F1.tr F2 (by simp) (by simp) (by simp), i2, fun k hk => ?_⟩
    rw [j2 k hk, sC_21, if_pos rfl, pk_cpy_out (by omega)]
theorem joinA {p : Pl} (h : WP p) {g : G} (hP : PA p g) {V : Nat → Nat → Nat → Nat → Bool} (hV : VV p V g) {s : Nat} (hs : s < 2 ^ 31) {H : Nat → Nat → Nat → Bool} (hH : HH p 127 H g) :
    Sat (fA_Sky_join (nI s) g) (fun g' => Fr [] [128] w0 g g' ∧ HH p 128 (fun t y x => H t y x || ob (pK p) (fun c => V c t y x) s) g') := by
  have h1 := h.c
  unfold fA_Sky_join
  refine Sat.lp (fun y s1 => ∃ g', s1 = (nI y, g') ∧ Fr [] [128] w0 g g' ∧ ∀ t y2, t < pY p → y2 < y → g'.2.1 128 (y2 * 240 + t) = nI (mk (fun x => H t y2 x || ob (pK p) (fun c => V c t y2 x) s) (pC p))) (pR p) (by omega) ⟨g, rfl, Fr.rf, fun t y2 _ hl => by omega⟩ ?_ ?_
  · rintro rec y _ hy ⟨g1, rfl, F1, i1⟩ hrec
    have P1 := hP.fr F1 (by simp) (by simp)
    simp only []
    rw [P1.1.2.1, if_neg (nI_ge hy (by omega))]
    refine (joinRowA h P1 (hV.fr F1 (by simp)) hs hy (hH.fr F1 (by simp))).bind ?_
    rintro g2 ⟨F2, i2, j2⟩
    rw [nl, nI_add]
    refine hrec _ ⟨g2, rfl, F1.tr F2 (by simp) (by simp) (by simp), fun t y2 ht hl => ?_⟩
    by_cases e : y2 = y
    · subst e
      exact i2 t ht
    · rw [j2 _ (by omega)]
      exact i1 t y2 ht (by omega)
  · rintro rec _ ⟨g1, rfl, F1, i1⟩
    have P1 := hP.fr F1 (by simp) (by simp)
    simp only []
    rw [P1.1.2.1, if_pos (nI_le (Nat.le_refl _) (by omega))]
    exact Sat.of ⟨F1, i1⟩
/-- the sky, looked at -/
def LK (p : Pl) (f : Fl) (g : G) : Prop := SK p g ∧ VF p f g ∧ HH p 128 (fun t y x => sb p f (us p f) t x y) g
theorem ob_sb {p : Pl} {f : Fl} {s t x y : Nat} : ob (pK p) (fun c => see p f c t x y) s = sb p f s t x y := rfl
theorem VF.fr {S T : List Nat} {w : Bool × Bool × Bool} {p : Pl} {f : Fl} {g g' : G} (h : VF p f g) (hf : Fr S T w g g') (hT : ∀ k ∈ T, k < 124 ∨ 126 < k) : VF p f g' := fun c hc => (h c hc).fr hf hT
theorem LK.fr {S T : List Nat} {w : Bool × Bool × Bool} {p : Pl} {f : Fl} {g g' : G} (h : LK p f g) (hf : Fr S T w g g') (hS : 11801 ∉ S ∧ 11802 ∉ S) (hT : ∀ k ∈ T, k < 119 ∨ k = 120 ∨ k = 127 ∨ 128 < k) : LK p f g' :=
  ⟨h.1.fr hf hS (fun k m => by have := hT k m; omega), h.2.1.fr hf (fun k m => by have := hT k m; omega), h.2.2.fr hf (fun m => by have := hT _ m; omega)⟩
theorem lookA {p : Pl} (h : WP p) {f : Fl} {g : G} (hP : PA p g) (hF : FA p f 2700 27 g) (hW : WF p f) (hS : SK p g) (hL : g.1 18 = nI 0 ∨ g.1 18 = nI 1 ∧ LK p f g) :
    Sat (fA_D_look g) (fun g' => Fr [18, 11802] [119, 121, 122, 123, 124, 125, 126, 127, 128] w0 g g' ∧ LK p f g' ∧ g'.1 18 = nI 1) := by
  rcases hL with hL | hL
  · unfold fA_D_look
    rw [hL, nl, if_pos rfl]
    refine (drawAllA h hP hS hF hW).bind ?_
    rintro g1 ⟨F1, S1, V1⟩
    refine (holdA h (hP.fr F1 (by simp) (by simp)) V1.vv (s := 0) (by decide)).bind ?_
    rintro g2 ⟨F2, H2⟩
    have F12 : Fr [18, 11802] [119, 121, 122, 123, 124, 125, 126, 127, 128] w0 g g2 := (F1.wd (by simp) (by simp) (by simp)).tr F2 (by simp) (by simp) (by simp)
    have hu : g2.1 2700 = nI (us p f) := (F12.1 2700 (by simp)).trans hF.1
    rw [hu]
    refine (joinA h (hP.fr F12 (by simp) (by simp)) (V1.fr F2 (by simp)).vv (Nat.lt_trans (us_lt p f) (by decide)) H2).bind ?_
    rintro g3 ⟨F3, H3⟩
    have Fs : Fr [18] [] w0 g3 (sS g3 18 1) := Fr.rf.sS (by simp)
    have Fz : Fr [18] [127, 128] w0 g1 (sS g3 18 1) := ((F2.wd (by simp) (by simp) (by simp)).tr F3 (by simp) (by simp) (by simp)).sS (by simp)
    rw [bv_eq]
    refine Sat.of ⟨(F12.tr F3 (by simp) (by simp) (by simp)).sS (by simp), ⟨S1.fr Fz (by simp) (by simp), V1.fr Fz (by simp), ?_⟩, rfl⟩
    intro t y ht hy
    have := H3 t y ht hy
    refine Eq.trans this ?_
    congr 1
    apply mk_cong
    intro x _
    show (ob (pK p) (fun c => see p f c t x y) 0 || _) = _
    have z : ob (pK p) (fun c => see p f c t x y) 0 = false := by
      unfold ob
      simp
    rw [z, Bool.false_or]
    rfl
  · unfold fA_D_look
    rw [hL.1, nl, if_neg (by decide)]
    exact Sat.of ⟨Fr.rf, hL.2, hL.1⟩
theorem whoA {p : Pl} (h : WP p) {f : Fl} {g : G} (hP : PA p g) (hV : VF p f g) {s t x y : Nat} (ht : t < pY p) (hx : x < pC p) (hy : y < pR p) :
    fA_Sky_whoSees (nI s) (nI t) (nI x) (nI y) g = some (nI (who p f t x y &&& s)) := by
  have h1 := h.c
  apply Sat.eq
  unfold fA_Sky_whoSees
  refine Sat.lp (fun c s => s = (nI (mk (fun i => decide (i < c) && see p f i t x y) 8), nI c)) (pK p) (by omega) (by rw [mkp_0]; rfl) ?_ ?_
  · rintro rec c _ hc rfl hrec
    have v := hV.vv c t y hc ht hy
    have hl : mk (fun x => see p f c t x y) (pC p) < 2 ^ 31 := mk_lt31 (by omega)
    simp only []
    rw [hP.1.2.2.2.2.2.2.1, if_neg (nI_ge hc (by omega))]
    simp only [nl]
    rw [nI_mul, nI_add, nI_mul, nI_add, ag_nI (by omega) (by decide), v, n_31 (k := x) (by omega), n_shr hl (by omega), n_and, n_31 (k := c) (by omega), n_shl _ (by omega), n_or, bv_eq, nI_add]
    refine hrec _ ?_
    have e2 := mkp_succ (fun i => see p f i t x y) (show c < 8 by omega)
    have eb : (mk (fun x => see p f c t x y) (pC p)) >>> x &&& 1 = (see p f c t x y).toNat := by
      rw [n_bit, mk_bit]
      simp [hx]
      cases see p f c t x y <;> rfl
    rw [eb, e2]
  · rintro rec _ rfl
    simp only []
    rw [hP.1.2.2.2.2.2.2.1, if_pos (nI_le (Nat.le_refl _) (by omega)), n_and]
    exact Sat.of rfl
