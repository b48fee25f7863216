/-! THE SETS OF THE MODEL -/
theorem nI_bit (n i : Nat) : (nI n).toBitVec.getLsbD i = (decide (i < 32) && n.testBit i) := by
  show (BitVec.ofNat 32 n).getLsbD i = _
  rw [BitVec.getLsbD_ofNat]
theorem bit_ext {x y : Int32} (h : ∀ i, i < 32 → x.toBitVec.getLsbD i = y.toBitVec.getLsbD i) : x = y := Int32.toBitVec_inj.1 (BitVec.eq_of_getLsbD_eq (fun i hi => h i hi))
theorem one_bit {c i : Nat} (hc : c < 32) : (1 <<< c).testBit i = decide (i = c) := by
  rw [Nat.one_shiftLeft, Nat.testBit_two_pow]
  exact decide_eq_decide.mpr ⟨Eq.symm, Eq.symm⟩
theorem mk_set {b : Nat → Bool} {c n : Nat} (hc : c < n) (hn : n ≤ 32) : nI (mk b n) ||| ((1 : Int32) <<< (nI c &&& 31)) = nI (mk (fun i => if i = c then true else b i) n) := by
  rw [nl, nl, n_31 (by omega), n_shl _ (by omega), n_or]
  congr 1
  apply Nat.eq_of_testBit_eq
  intro i
  rw [Nat.testBit_or, mk_bit, mk_bit, one_bit (by omega)]
  by_cases e : i = c
  · subst e; simp [hc]
  · simp [e]
theorem mk_clr {b : Nat → Bool} {c n : Nat} (hc : c < n) (hn : n ≤ 32) : nI (mk b n) &&& (((1 : Int32) <<< (nI c &&& 31)) ^^^ (-1)) = nI (mk (fun i => if i = c then false else b i) n) := by
  rw [nl, nl, n_31 (by omega), n_shl _ (by omega)]
  apply bit_ext
  intro i hi
  have hm : (-nI 1).toBitVec.getLsbD i = true := (by decide +kernel : ∀ i, i < 32 → (-nI 1).toBitVec.getLsbD i = true) i hi
  rw [Int32.toBitVec_and, Int32.toBitVec_xor, BitVec.getLsbD_and, BitVec.getLsbD_xor, nI_bit, nI_bit, nI_bit, hm, mk_bit, mk_bit, one_bit (by omega)]
  by_cases e : i = c
  · subst e; simp [hi]
  · simp [e, hi]
/-- who sees a place of the sets -/
def whK (p : Pl) (f : Fl) (k : Nat) : Nat := who p f (k / (pC p * pR p)) (k % (pC p * pR p) % pC p) (k % (pC p * pR p) / pC p)
def LB (p : Pl) (f : Fl) (g : G) : Prop := ∀ k, k < pC p * pR p * pY p → g.2.1 22 k = nI (whK p f k)
theorem ixt {C R t y x : Nat} (hx : x < C) (hy : y < R) : C * y + x < C * R := by
  calc C * y + x < C * y + C := by omega
    _ = C * (y + 1) := by rw [Nat.mul_succ]
    _ ≤ C * R := Nat.mul_le_mul_left _ hy
theorem ix {C R t y x : Nat} (hx : x < C) (hy : y < R) : (C * R * t + C * y + x) / (C * R) = t ∧ (C * R * t + C * y + x) % (C * R) % C = x ∧ (C * R * t + C * y + x) % (C * R) / C = y := by
  have h := ixt (t := t) hx hy
  have e : C * R * t + C * y + x = (C * y + x) + C * R * t := by omega
  rw [e, Nat.add_mul_div_left _ _ (by omega), Nat.div_eq_of_lt h, Nat.add_mul_mod_self_left, Nat.mod_eq_of_lt h, Nat.mul_add_mod, Nat.mod_eq_of_lt hx, Nat.mul_add_div (by omega), Nat.div_eq_of_lt hx]
  omega
theorem ixl {C R Y t y x : Nat} (hx : x < C) (hy : y < R) (ht : t < Y) : C * R * t + C * y + x < C * R * Y := by
  have h := ixt (t := t) hx hy
  calc C * R * t + C * y + x < C * R * t + C * R := by omega
    _ = C * R * (t + 1) := by rw [Nat.mul_succ]
    _ ≤ C * R * Y := Nat.mul_le_mul_left _ ht
theorem crY {p : Pl} (h : WP p) : pC p * pR p * pY p ≤ 69120 ∧ pC p * pR p ≤ 288 := by
  have hc := h.c
  have h1 : pC p * pR p ≤ 24 * 12 := Nat.mul_le_mul (by omega) (by omega)
  exact ⟨Nat.le_trans (Nat.mul_le_mul h1 (show pY p ≤ 240 by omega)) (by decide), h1⟩
set_option maxHeartbeats 1000000 in
theorem laysOneB {p : Pl} (h : WP p) {f : Fl} {g : G} (hP : PB p g) (hF : FB p f g) (hW : WF p f) {c : Nat} (hc : c < pK p) {b : Nat → Nat → Bool} (hb : ∀ k, k < pC p * pR p * pY p → g.2.1 22 k = nI (mk (b k) 8)) :
    Sat (fB_M_laysOne (nI c) g) (fun g' => Fr [] [22] w0 g g' ∧ ∀ k, k < pC p * pR p * pY p → g'.2.1 22 k = nI (mk (fun i => if i = c then see p f c (k / (pC p * pR p)) (k % (pC p * pR p) % pC p) (k % (pC p * pR p) / pC p) else b k i) 8)) := by
  have h1 := h.c
  have hm := crY h
  obtain ⟨nb, hnb⟩ : ∃ nb : Nat → Nat → Bool, nb = fun k i => if i = c then see p f c (k / (pC p * pR p)) (k % (pC p * pR p) % pC p) (k % (pC p * pR p) / pC p) else b k i := ⟨_, rfl⟩
  obtain ⟨In, hIn⟩ : ∃ In : Nat → G → Prop, In = fun n s => Fr [] [22] w0 g s ∧ ∀ k, k < pC p * pR p * pY p → s.2.1 22 k = nI (mk (if k < n then nb k else b k) 8) := ⟨_, rfl⟩
  have fin : ∀ s, In (pC p * pR p * pY p) s → Fr [] [22] w0 g s ∧ ∀ k, k < pC p * pR p * pY p → s.2.1 22 k = nI (mk (fun i => if i = c then see p f c (k / (pC p * pR p)) (k % (pC p * pR p) % pC p) (k % (pC p * pR p) / pC p) else b k i) 8) := by
    intro s hs
    rw [hIn] at hs
    refine ⟨hs.1, fun k hk => ?_⟩
    rw [hs.2 k hk, if_pos hk, hnb]
  unfold fB_M_laysOne
  refine Sat.lp (fun t s => ∃ g', s = (nI t, g') ∧ In (pC p * pR p * t) g') (pY p) (by omega) ⟨g, rfl, ?_⟩ ?_ ?_
  · rw [hIn]
    refine ⟨Fr.rf, fun k hk => ?_⟩
    rw [hb k hk, if_neg (by omega)]
  · rintro rec t _ ht ⟨g1, rfl, i1⟩ hrec
    have F1 : Fr [] [22] w0 g g1 := by rw [hIn] at i1; exact i1.1
    have P1 := hP.fr F1 (by simp) (by simp)
    have N1 := hF.fr F1 (by simp)
    simp only []
    rw [P1.1.2.2.2.2.2.2.1, if_neg (nI_ge ht (by omega)), columnB h P1 N1 hW hc (by omega), Option.bind_some, rowB h P1 N1 hW hc (by omega), Option.bind_some]
    refine Sat.lp (fun y s => ∃ g', s = (nI y, g') ∧ In (pC p * pR p * t + pC p * y) g') (pR p) (by omega) ⟨g1, rfl, i1⟩ ?_ ?_
    · rintro rec2 y _ hy ⟨g2, rfl, i2⟩ hrec2
      have F2 : Fr [] [22] w0 g g2 := by rw [hIn] at i2; exact i2.1
      have P2 := hP.fr F2 (by simp) (by simp)
      simp only []
      rw [P2.1.2.1, if_neg (nI_ge hy (by omega))]
      refine Sat.lp (fun x s => ∃ g', s = (nI x, g') ∧ In (pC p * pR p * t + pC p * y + x) g') (pC p) (by omega) ⟨g2, rfl, i2⟩ ?_ ?_
      · rintro rec3 x _ hx ⟨g3, rfl, i3⟩ hrec3
        rw [hIn] at i3
        have P3 := hP.fr i3.1 (by simp) (by simp)
        have N3 := hF.fr i3.1 (by simp)
        have hk := ixl hx hy ht
        have hd := ix (t := t) hx hy
        have hv := i3.2 _ hk
        rw [if_neg (Nat.lt_irrefl _)] at hv
        have h7 := hW.2 c hc
        simp only []
        rw [P3.1.1, if_neg (nI_ge hx (by omega)), P3.1.2.2.2.2.2.2.2.1, nI_mul, nI_mul, nI_add, nI_add, bv_eq, nl, nI_add, ag_nI (by omega) (by decide), (N3.2 c hc).2.2,
          reachB h P3 (co_lt h _ _ _ _) (ro_lt h _ _ _) h7.2.1 hx hy, Option.bind_some, lj_eq]
        change Sat (if bI (see p f c t x y) = nI 0 then _ else _) _
        rw [ag_nI (by omega) (by decide), ag_nI (by omega) (by decide), hv, mk_set (by omega) (by decide), mk_clr (by omega) (by decide)]
        have go : ∀ v : Int32, v = nI (mk (nb (pC p * pR p * t + pC p * y + x)) 8) → Sat (ck 69120 (nI (pC p * pR p * t + pC p * y + x)) (bv (sA g3 22 (nI (pC p * pR p * t + pC p * y + x)).toNatClampNeg v) fun g10 => rec3 (nI x + 1, g10))) (fun g' => Fr [] [22] w0 g g' ∧ ∀ k, k < pC p * pR p * pY p → g'.2.1 22 k = nI (mk (fun i => if i = c then see p f c (k / (pC p * pR p)) (k % (pC p * pR p) % pC p) (k % (pC p * pR p) / pC p) else b k i) 8)) := by
          intro v e
          rw [ck_nI (by omega) (by decide), nI_clamp (by omega), bv_eq, nl, nI_add]
          refine hrec3 _ ⟨_, rfl, ?_⟩
          rw [hIn]
          refine ⟨i3.1.sA (by simp), fun k hk2 => ?_⟩
          rw [sA_21, if_pos rfl]
          by_cases ek : k = pC p * pR p * t + pC p * y + x
          · subst ek
            rw [upd_self, if_pos (by omega), e]
          · rw [upd_ne _ _ ek, i3.2 k hk2]
            by_cases l : k < pC p * pR p * t + pC p * y + x
            · rw [if_pos l, if_pos (by omega)]
            · rw [if_neg l, if_neg (by omega)]
        cases es : see p f c t x y
        · rw [bI_f, if_pos rfl]
          apply go
          rw [hnb]
          simp only [hd.1, hd.2.1, hd.2.2, es]
        · rw [bI_t, if_neg (by decide)]
          apply go
          rw [hnb]
          simp only [hd.1, hd.2.1, hd.2.2, es]
      · rintro rec3 _ ⟨g3, rfl, i3⟩
        have F3 : Fr [] [22] w0 g g3 := by rw [hIn] at i3; exact i3.1
        have P3 := hP.fr F3 (by simp) (by simp)
        simp only []
        rw [P3.1.1, if_pos (nI_le (Nat.le_refl _) (by omega)), nl, nI_add]
        exact hrec2 _ ⟨g3, rfl, by rw [Nat.mul_succ, ← Nat.add_assoc]; exact i3⟩
    · rintro rec2 _ ⟨g2, rfl, i2⟩
      have F2 : Fr [] [22] w0 g g2 := by rw [hIn] at i2; exact i2.1
      have P2 := hP.fr F2 (by simp) (by simp)
      simp only []
      rw [P2.1.2.1, if_pos (nI_le (Nat.le_refl _) (by omega)), nl, nI_add]
      exact hrec _ ⟨g2, rfl, by rw [Nat.mul_succ (pC p * pR p)]; exact i2⟩
  · rintro rec _ ⟨g1, rfl, i1⟩
    have F1 : Fr [] [22] w0 g g1 := by rw [hIn] at i1; exact i1.1
    have P1 := hP.fr F1 (by simp) (by simp)
    simp only []
    rw [P1.1.2.2.2.2.2.2.1, if_pos (nI_le (Nat.le_refl _) (by omega))]
    exact Sat.of (fin _ i1)
