/-! WHAT IS SEEN, IN THE CLASS -/
/-- a name, packed -/
def pkN (l : Nat → Nat) : Nat := l 0 * 2 ^ 25 + l 1 * 2 ^ 20 + l 2 * 2 ^ 15 + l 3 * 2 ^ 10 + l 4 * 2 ^ 5 + l 5
def PA (p : Pl) (g : G) : Prop :=
  (g.1 300 = nI (pC p) ∧ g.1 301 = nI (pR p) ∧ g.1 302 = nI (pD p) ∧ g.1 303 = nI (pY p) ∧ g.1 304 = nI (al p) ∧ g.1 305 = nI (pP p) ∧ g.1 306 = nI (pK p) ∧ g.1 307 = nI (pS p)) ∧
  (∀ q, q < pP p → g.2.1 6 q = nI (tl p q) ∧ g.2.1 7 q = nI (tu p q) ∧ g.2.1 5 q = nI (pkN (nm p q))) ∧
  (∀ c, c < pK p → g.2.1 9 c = nI (hm p c) ∧ g.2.1 8 c = nI (pkN (nm p (4 + c)))) ∧
  (∀ s, s < pS p → g.2.1 11 s = nI (sx p s) ∧ g.2.1 12 s = nI (sy p s) ∧ g.2.1 13 s = nI (sf p s) ∧ g.2.1 14 s = nI (st p s) ∧ g.2.1 10 s = nI (pkN (nm p (12 + s)))) ∧
  (∀ y, y < pR p → g.2.1 4 y = nI (wd p y))
/-- a fleet's row -/
def FA (p : Pl) (f : Fl) (u n : Nat) (g : G) : Prop :=
  g.1 u = nI (us p f) ∧ (∀ q, q < pP p → g.2.1 (n + 1) q = nI (fnd f q)) ∧ ∀ c, c < pK p → g.2.1 (n + 2) c = nI (fph f c) ∧ g.2.1 (n + 3) c = nI (frc f c)
theorem PA.fr {S T : List Nat} {w : Bool × Bool × Bool} {p : Pl} {g g' : G} (h : PA p g) (hf : Fr S T w g g') (hS : ∀ k ∈ S, k < 300 ∨ 307 < k) (hT : ∀ k ∈ T, k < 4 ∨ 14 < k) : PA p g' := by
  have s : ∀ k, 300 ≤ k → k ≤ 307 → g'.1 k = g.1 k := fun k h1 h2 => hf.1 k (fun m => by have := hS k m; omega)
  have a : ∀ k, 4 ≤ k → k ≤ 14 → g'.2.1 k = g.2.1 k := fun k h1 h2 => hf.2.1 k (fun m => by have := hT k m; omega)
  unfold PA
  rw [s 300 (by omega) (by omega), s 301 (by omega) (by omega), s 302 (by omega) (by omega), s 303 (by omega) (by omega), s 304 (by omega) (by omega), s 305 (by omega) (by omega), s 306 (by omega) (by omega), s 307 (by omega) (by omega),
    a 4 (by omega) (by omega), a 5 (by omega) (by omega), a 6 (by omega) (by omega), a 7 (by omega) (by omega), a 8 (by omega) (by omega), a 9 (by omega) (by omega), a 10 (by omega) (by omega), a 11 (by omega) (by omega), a 12 (by omega) (by omega), a 13 (by omega) (by omega), a 14 (by omega) (by omega)]
  exact h
theorem FA.fr {S T : List Nat} {w : Bool × Bool × Bool} {p : Pl} {f : Fl} {u n : Nat} {g g' : G} (h : FA p f u n g) (hf : Fr S T w g g') (hS : u ∉ S) (hT : ∀ k ∈ T, k < n + 1 ∨ n + 3 < k) : FA p f u n g' := by
  have a : ∀ k, n + 1 ≤ k → k ≤ n + 3 → g'.2.1 k = g.2.1 k := fun k h1 h2 => hf.2.1 k (fun m => by have := hT k m; omega)
  unfold FA
  rw [hf.1 u hS, a (n + 1) (by omega) (by omega), a (n + 2) (by omega) (by omega), a (n + 3) (by omega) (by omega)]
  exact h
theorem restA {a b : Nat} (hb : 0 < b) (ha : a < 2 ^ 31) (hb2 : b < 2 ^ 31) (g : G) : fA_D_rest (nI a) (nI b) g = some (nI (a % b)) := by
  have l : a % b < b := Nat.mod_lt _ hb
  unfold fA_D_rest
  simp (disch := omega) only [bv_eq, lj_eq, nl, nm1, nI_add, nI_mul, Option.bind_some, n_rem, n_div, n_dz, ag_nI, ck_nI, nI_leI, nI_ltI, nI_eq, n_ne_m1, m1_ne_n, n_and, n_or, n31, n_shl, n_shr, n_ushr, nI_clamp, n_m1, if_true, if_false, ite_true, ite_false, nI_sub, nat_rem]
  rw [if_pos hb, if_pos (Nat.zero_le _)]
theorem restD {a b C : Nat} (hb : b < C) (ha : a < 2 ^ 30) (hC : C < 2 ^ 30) (g : G) : fA_D_rest (nI a - nI b) (nI C) g = some (nI ((a + C - b) % C)) := by
  unfold fA_D_rest
  rw [nl, if_pos (nI_lt (by omega) (by omega))]
  exact n_mod hb ha hC
theorem cutA {a b : Nat} (hb : 0 < b) (ha : a < 2 ^ 31) (hb2 : b < 2 ^ 31) (g : G) : fA_D_cut (nI a) (nI b) g = some (nI (a / b)) := by
  unfold fA_D_cut
  simp (disch := omega) only [bv_eq, lj_eq, nl, nm1, nI_add, nI_mul, Option.bind_some, n_rem, n_div, n_dz, ag_nI, ck_nI, nI_leI, nI_ltI, nI_eq, n_ne_m1, m1_ne_n, n_and, n_or, n31, n_shl, n_shr, n_ushr, nI_clamp, n_m1, if_true, if_false, ite_true, ite_false]
  rw [if_neg (by omega)]
theorem placeA {p : Pl} (h : WP p) {g : G} (hP : PA p g) {c t n φ : Nat} (hc : c < pK p) (ht : t < pY p) (hn : n < pC p) (hφ : φ < tu p (hm p c)) :
    fA_Sky_place (nI c) (nI t) (nI n) (nI φ) g = some (sA (sA g 125 (c * 240 + t) (nI (ro p c φ t))) 124 (c * 240 + t) (nI (co p c n φ t))) := by
  have h1 := h.c
  have h2 := h.q (h.h hc)
  have h4 := h.h hc
  have h5 := vN_le h hc φ t
  have h6 := ab_lt h hc φ t
  have h7 := ah_lt h hc φ t
  have h8 := bh_lt h t
  have h9 : gn p c φ t < tu p (hm p c) := gn_lt h hc φ t
  have ix : c * 240 + t < 1920 := by omega
  unfold fA_Sky_place
  rw [ag_nI (by omega) (by decide), (hP.2.2.1 c hc).1, ag_nI (by omega) (by decide), (hP.2.1 _ h4).2.1, ag_nI (by omega) (by decide), (hP.2.1 _ h4).1, nI_add, restA (by omega) (by omega) (by omega), Option.bind_some]
  change (Option.bind (fA_D_cut ((4 * nI (gn p c φ t)) * nI (tl p (hm p c))) _ g) _) = _
  simp only [nl, nI_mul]
  rw [cutA (by omega) (by omega) (by omega), Option.bind_some, lj_eq]
  change (if nI (tl p (hm p c)) < nI (vN p c φ t) then _ else _) = _
  have fin : ∀ b6 : Int32, nI (pR p) / nI 2 + b6 = nI (ab p c φ t) → (Option.bind (fA_D_cut ((g.1 300) * nI (gn p c φ t)) (nI (tu p (hm p c))) g) fun x7 => Option.bind (fA_D_rest (nI t) (g.1 302) g) fun x8 => Option.bind (fA_D_cut ((g.1 300) * x8) (g.1 302) g) fun x9 => dz (nI 2) (bv (if ((g.1 301) - nI 1) < (((g.1 301) / nI 2) + b6) then ((g.1 301) - nI 1) else (((g.1 301) / nI 2) + b6)) fun x10 => ck 1920 (nI (c * 240) + nI t) (bv (sA g 125 (nI (c * 240) + nI t : Int32).toNatClampNeg x10) fun g11 => Option.bind (fA_D_rest ((nI n + x7) - x9) (g11.1 300) g11) fun x12 => ck 1920 (nI (c * 240) + nI t) (bv (sA g11 124 (nI (c * 240) + nI t : Int32).toNatClampNeg x12) fun g13 => some g13)))) = some (sA (sA g 125 (c * 240 + t) (nI (ro p c φ t))) 124 (c * 240 + t) (nI (co p c n φ t))) := by
    intro b6 e
    rw [hP.1.1, hP.1.2.1, hP.1.2.2.1, nI_mul, cutA (by omega) (by omega) (by omega), Option.bind_some, restA (by omega) (by omega) (by omega), Option.bind_some, nI_mul, cutA (by omega) (by omega) (by omega), Option.bind_some, n_dz (by decide) (by decide), e, bv_eq, nI_add,
      ck_nI ix (by decide), nI_clamp (by omega), bv_eq, sA_1, hP.1.1]
    change (Option.bind (fA_D_rest (nI n + nI (ah p c φ t) - nI (bh p t)) (nI (pC p)) _) _) = _
    rw [nI_add, restD h8.1 (by omega) (by omega), Option.bind_some, ck_nI ix (by decide), bv_eq, nI_sub (by omega)]
    have er : (if nI (pR p - 1) < nI (ab p c φ t) then nI (pR p - 1) else nI (ab p c φ t)) = nI (ro p c φ t) := by
      unfold ro
      by_cases hh : pR p - 1 < ab p c φ t
      · rw [if_pos (nI_lt hh (by omega)), if_pos hh]
      · rw [if_neg (nI_nlt (by omega) (by omega)), if_neg hh]
    rw [er]
    rfl
  by_cases a1 : tl p (hm p c) < vN p c φ t
  · rw [if_pos (nI_lt a1 (by omega))]
    change (if nI (3 * tl p (hm p c)) < nI (vN p c φ t) then _ else _) = _
    by_cases a2 : 3 * tl p (hm p c) < vN p c φ t
    · rw [if_pos (nI_lt a2 (by omega))]
      apply fin
      change nI (pR p) / nI 2 + (nI (vN p c φ t) - nI (4 * tl p (hm p c))) = _
      rw [n_div (by omega) (by omega), n_as (by omega)]
      unfold ab
      rw [if_neg (by omega), if_neg (by omega)]
    · rw [if_neg (nI_nlt (by omega) (by omega))]
      apply fin
      change nI (pR p) / nI 2 + (nI (2 * tl p (hm p c)) - nI (vN p c φ t)) = _
      rw [n_div (by omega) (by omega), n_as (by omega)]
      unfold ab
      rw [if_neg (by omega), if_pos (by omega)]
  · rw [if_neg (nI_nlt (by omega) (by omega))]
    apply fin
    change nI (pR p) / nI 2 + nI (vN p c φ t) = _
    rw [n_div (by omega) (by omega), nI_add]
    unfold ab
    rw [if_pos (by omega)]
