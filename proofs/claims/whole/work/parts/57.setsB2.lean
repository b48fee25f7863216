/-! THE SETS OF THE MODEL, LAID; WHO IS UP -/
theorem mkp_succ (b : Nat → Bool) {c n : Nat} (hc : c < n) : mk (fun i => decide (i < c) && b i) n ||| ((b c).toNat <<< c) = mk (fun i => decide (i < c + 1) && b i) n := by
  apply Nat.eq_of_testBit_eq
  intro i
  rw [Nat.testBit_or, mk_bit, mk_bit, Nat.testBit_shiftLeft]
  by_cases e : i = c
  · subst e
    simp [hc]
    cases b i <;> rfl
  · by_cases l : i < c
    · have h1 : ¬ c ≤ i := by omega
      have h2 : i < c + 1 := by omega
      simp [l, h1, h2]
    · have h1 : c ≤ i := by omega
      have h2 : ¬ i < c + 1 := by omega
      obtain ⟨k, hk⟩ : ∃ k, i - c = k + 1 := ⟨i - c - 1, by omega⟩
      have h3 : (b c).toNat.testBit (i - c) = false := by
        rw [hk]
        cases b c <;> simp [Nat.testBit_succ]
      simp [l, h2, h3]
theorem mkp_0 (b : Nat → Bool) (n : Nat) : mk (fun i => decide (i < 0) && b i) n = 0 := mk_zero.mpr (fun i _ => by simp)
theorem laysSetsB {p : Pl} (h : WP p) {f : Fl} {g : G} (hP : PB p g) (hF : FB p f g) (hW : WF p f) (hL : g.1 47 = nI 0 ∨ g.1 47 = nI 1 ∧ LB p f g) :
    Sat (fB_M_laysSets g) (fun g' => Fr [47] [22] w0 g g' ∧ LB p f g' ∧ g'.1 47 = nI 1) := by
  have h1 := h.c
  have hm := crY h
  rcases hL with hL | hL
  · unfold fB_M_laysSets
    rw [hL, nl, if_pos rfl]
    refine Sat.lp (fun k s => ∃ g', s = (nI k, g') ∧ Fr [47] [22] w0 g g' ∧ ∀ j, j < k → g'.2.1 22 j = nI 0) (pC p * pR p * pY p) (by omega) ⟨g, rfl, Fr.rf, fun j hj => by omega⟩ ?_ ?_
    · rintro rec k _ hk ⟨g1, rfl, F1, i1⟩ hrec
      have P1 := hP.fr F1 (by simp) (by simp)
      simp only []
      rw [P1.1.2.2.2.2.2.2.2.1, P1.1.2.2.2.2.2.2.1, nI_mul, if_neg (nI_ge hk (by omega)), ck_nI (by omega) (by decide), nI_clamp (by omega), bv_eq, nl, nI_add]
      refine hrec _ ⟨_, rfl, F1.sA (by simp), fun j hj => ?_⟩
      rw [sA_21, if_pos rfl]
      by_cases e : j = k
      · subst e
        rw [upd_self]
      · rw [upd_ne _ _ e]
        exact i1 j (by omega)
    · rintro rec _ ⟨g1, rfl, F1, i1⟩
      have P1 := hP.fr F1 (by simp) (by simp)
      simp only []
      rw [P1.1.2.2.2.2.2.2.2.1, P1.1.2.2.2.2.2.2.1, nI_mul, if_pos (nI_le (Nat.le_refl _) (by omega))]
      refine Sat.lp (fun c s => ∃ g', s = (nI c, g') ∧ Fr [47] [22] w0 g g' ∧ ∀ k, k < pC p * pR p * pY p → g'.2.1 22 k = nI (mk (fun i => decide (i < c) && see p f i (k / (pC p * pR p)) (k % (pC p * pR p) % pC p) (k % (pC p * pR p) / pC p)) 8)) (pK p) (by omega) ⟨g1, rfl, F1, fun k hk => ?_⟩ ?_ ?_
      · rw [i1 k hk, mkp_0]
      · rintro rec2 c _ hc ⟨g2, rfl, F2, i2⟩ hrec2
        have P2 := hP.fr F2 (by simp) (by simp)
        have N2 := hF.fr F2 (by simp)
        simp only []
        rw [P2.1.2.2.2.2.1, if_neg (nI_ge hc (by omega))]
        refine (laysOneB h P2 N2 hW hc i2).bind ?_
        rintro g3 ⟨F3, i3⟩
        rw [nl, nI_add]
        refine hrec2 _ ⟨g3, rfl, F2.tr F3 (by simp) (by simp) (by simp), fun k hk => ?_⟩
        rw [i3 k hk]
        congr 1
        apply mk_cong
        intro i _
        by_cases e : i = c
        · subst e
          simp
        · have : (decide (i < c + 1)) = decide (i < c) := decide_eq_decide.mpr (by omega)
          simp [e, this]
      · rintro rec2 _ ⟨g2, rfl, F2, i2⟩
        have P2 := hP.fr F2 (by simp) (by simp)
        simp only []
        rw [P2.1.2.2.2.2.1, if_pos (nI_le (Nat.le_refl _) (by omega)), bv_eq, nl]
        exact Sat.of ⟨F2.sS (by simp), i2, rfl⟩
  · unfold fB_M_laysSets
    rw [hL.1, nl, if_neg (by decide)]
    exact Sat.of ⟨Fr.rf, hL.2, hL.1⟩
theorem upSetB {p : Pl} (h : WP p) {f : Fl} {g : G} (hP : PB p g) (hF : FB p f g) (hW : WF p f) : fB_M_upSet g = some (nI (us p f)) := by
  have h1 := h.c
  apply Sat.eq
  unfold fB_M_upSet
  refine Sat.lp (fun c s => s = (nI (mk (fun i => decide (i < c) && decide (fup f i = 1)) 8), nI c)) (pK p) (by omega) (by rw [mkp_0]; rfl) ?_ ?_
  · rintro rec c _ hc rfl hrec
    have hw := hW.2 c hc
    simp only []
    rw [hP.1.2.2.2.2.1, if_neg (nI_ge hc (by omega)), nl, nI_add, ag_nI (by omega) (by decide), (hF.2 c hc).1, nl, n_31 (by omega), n_shl _ (by omega), n_or, bv_eq, nl, nI_add]
    have e : fup f c = (decide (fup f c = 1)).toNat := by
      by_cases hu : fup f c = 1
      · rw [hu]; rfl
      · have : fup f c = 0 := by omega
        rw [this]; rfl
    refine hrec _ ?_
    rw [← mkp_succ (fun i => decide (fup f i = 1)) (show c < 8 by omega), ← e]
  · rintro rec _ rfl
    simp only []
    rw [hP.1.2.2.2.2.1, if_pos (nI_le (Nat.le_refl _) (by omega))]
    exact Sat.of rfl
/-- whether a set sees a cell -/
def sb (p : Pl) (f : Fl) (s t x y : Nat) : Bool := decide (who p f t x y &&& s ≠ 0)
theorem sb_per {p : Pl} (h : WP p) (f : Fl) (s t x y : Nat) : sb p f s (t % pY p) x y = sb p f s t x y := by unfold sb; rw [who_per h]
theorem isByB {p : Pl} (h : WP p) {f : Fl} {g : G} (hP : PB p g) (hL : LB p f g) {cell t s : Nat} (hc : cell < pC p * pR p) (ht : t < 2 ^ 20) :
    fB_M_isBy (nI cell) (nI t) (nI s) g = some (bI (sb p f s t (cell % pC p) (cell / pC p))) := by
  have h1 := h.c
  have hm := crY h
  have hr : t % pY p < pY p := Nat.mod_lt _ (by omega)
  have hk : pC p * pR p * (t % pY p) + cell < pC p * pR p * pY p := by
    calc pC p * pR p * (t % pY p) + cell < pC p * pR p * (t % pY p) + pC p * pR p := by omega
      _ = pC p * pR p * (t % pY p + 1) := by rw [Nat.mul_succ]
      _ ≤ pC p * pR p * pY p := Nat.mul_le_mul_left _ hr
  unfold fB_M_isBy
  rw [hP.1.2.2.2.2.2.2.1, n_dz (by omega) (by omega), hP.1.2.2.2.2.2.2.2.1, n_div (by omega) (by omega), nI_mul, n_rem, nI_mul, nI_add, ag_nI (by omega) (by decide), hL _ hk, n_and]
  have e : whK p f (pC p * pR p * (t % pY p) + cell) = who p f t (cell % pC p) (cell / pC p) := by
    unfold whK
    rw [Nat.mul_add_div (by omega), Nat.div_eq_of_lt hc, Nat.mul_add_mod, Nat.mod_eq_of_lt hc, Nat.add_zero, who_per h]
  rw [e]
  have hl : who p f t (cell % pC p) (cell / pC p) &&& s < 2 ^ 31 := Nat.lt_of_le_of_lt Nat.and_le_left (Nat.lt_trans (who_lt p f t _ _) (by decide))
  unfold sb
  by_cases z : who p f t (cell % pC p) (cell / pC p) &&& s = 0
  · rw [z]
    simp
    rfl
  · rw [nl, if_neg (by rw [nI_eq hl (by decide)]; exact z), decide_eq_true z]
    rfl
