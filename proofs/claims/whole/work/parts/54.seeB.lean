/-! WHAT IS SEEN, IN THE MODEL -/
def bI (b : Bool) : Int32 := nI b.toNat
theorem bI_0 {b : Bool} : (bI b = nI 0) ↔ b = false := by
  cases b
  · exact ⟨fun _ => rfl, fun _ => rfl⟩
  · exact ⟨fun h => absurd h (by decide), fun h => absurd h (by decide)⟩
theorem bI_1 {b : Bool} : (bI b = nI 1) ↔ b = true := by
  cases b
  · exact ⟨fun h => absurd h (by decide), fun h => absurd h (by decide)⟩
  · exact ⟨fun _ => rfl, fun _ => rfl⟩
theorem bI_t : bI true = nI 1 := rfl
theorem bI_f : bI false = nI 0 := rfl
theorem nat_rem (a b : Nat) : a - a / b * b = a % b := by
  have := Nat.div_add_mod a b
  rw [Nat.mul_comm] at this
  omega
theorem n_as {a b c : Nat} (h : c ≤ a + b) : nI a + (nI b - nI c) = nI (a + b - c) := by
  rw [← nI_sub h, ← nI_add, Int32.sub_eq_add_neg, Int32.sub_eq_add_neg, Int32.add_assoc]
theorem n_negdiv {k C : Nat} (h : k < C) (hC : C < 2 ^ 31) : (-(nI k)) / nI C = 0 := by
  apply Int32.toInt_inj.1
  have h1 : (-(nI k)).toInt = -(k : Int) := by
    rw [Int32.toInt_neg, nI_toInt (by omega)]
    apply Int.bmod_eq_of_le <;> omega
  rw [Int32.toInt_div, h1, nI_toInt hC, Int.neg_tdiv, Int.tdiv_eq_ediv_of_nonneg (by omega), Int.ediv_eq_zero_of_lt (by omega) (by omega)]
  decide
/-- the rest of a difference -/
theorem n_mod {a b C : Nat} (hb : b < C) (ha : a < 2 ^ 30) (hC : C < 2 ^ 30) :
    dz (nI C) (bv ((nI a - nI b) - (nI a - nI b) / nI C * nI C) fun x6 => (if 0 ≤ x6 then some x6 else some (x6 + nI C))) = some (nI ((a + C - b) % C)) := by
  by_cases h : b ≤ a
  · have e : (a + C - b) % C = (a - b) % C := by rw [show a + C - b = (a - b) + C by omega, Nat.add_mod_right]
    have l : (a - b) % C < C := Nat.mod_lt _ (by omega)
    rw [nI_sub h, n_dz (by omega) (by omega), n_div (by omega) (by omega), nI_mul, n_rem, bv_eq, nl, if_pos (nI_le (Nat.zero_le _) (by omega)), e]
  · have e : nI a - nI b = -(nI (b - a)) := by rw [← nI_sub (show a ≤ b by omega)]; simp
    rw [e, n_dz (by omega) (by omega), n_negdiv (by omega) (by omega), bv_eq]
    have z : -(nI (b - a)) - 0 * nI C = -(nI (b - a)) := by simp
    rw [z]
    have hn : ¬ (0 : Int32) ≤ -(nI (b - a)) := by
      rw [Int32.le_iff_toInt_le]
      have h2 : (-(nI (b - a))).toInt = -((b - a : Nat) : Int) := by
        rw [Int32.toInt_neg, nI_toInt (by omega)]
        apply Int.bmod_eq_of_le <;> omega
      rw [h2]
      have h3 : (0 : Int32).toInt = 0 := by decide
      rw [h3]
      omega
    rw [if_neg hn]
    have e2 : -(nI (b - a)) + nI C = nI (C - (b - a)) := by
      rw [← nI_sub (show b - a ≤ C by omega), Int32.add_comm, ← Int32.sub_eq_add_neg]
    rw [e2, Nat.mod_eq_of_lt (by omega)]
    congr 2
    omega
theorem away_eq {a b : Nat} (ha : a < 2 ^ 31) (hb : b < 2 ^ 31) (g : G) : fB_M_away (nI a) (nI b) g = some (nI (ds a b)) := by
  unfold fB_M_away ds
  by_cases h : b ≤ a
  · rw [if_pos (nI_le h ha), if_pos h, nI_sub h]
  · rw [if_neg (nI_ge (by omega) hb), if_neg h, nI_sub (by omega)]
theorem ds_le {a b n : Nat} (ha : a ≤ n) (hb : b ≤ n) : ds a b ≤ n := by unfold ds; split <;> omega
theorem widthB {p : Pl} (h : WP p) {g : G} (hP : PB p g) {y : Nat} (hy : y < pR p) : fB_M_widthOf (nI y) g = some (nI (wd p y)) := by
  have hc := h.c
  have h1 : ds (2 * y) (pR p - 1) ≤ 2 * pR p := ds_le (by omega) (by omega)
  unfold fB_M_widthOf
  simp (disch := omega) only [bv_eq, lj_eq, nl, nm1, nI_add, nI_mul, Option.bind_some, n_rem, n_div, n_dz, ag_nI, ck_nI, nI_leI, nI_ltI, nI_eq, n_ne_m1, m1_ne_n, n_and, n_or, n31, n_shl, n_shr, n_ushr, nI_clamp, n_m1, if_true, if_false, ite_true, ite_false, hP.1.2.1, nI_sub, away_eq]
  rfl
theorem turnB {p : Pl} (h : WP p) {g : G} (hP : PB p g) {c : Nat} (hc : c < pK p) : fB_M_turnOf (nI c) g = some (nI (tu p (hm p c))) := by
  have h1 := h.c
  have h2 := h.h hc
  unfold fB_M_turnOf
  rw [ag_nI (by omega) (by decide), hP.2.2.1 c hc, ag_nI (by omega) (by decide), (hP.2.1 _ h2).2]
theorem goneB {p : Pl} (h : WP p) {f : Fl} {g : G} (hP : PB p g) (hF : FB p f g) (hW : WF p f) {c t : Nat} (hc : c < pK p) (ht : t < 2 ^ 20) : fB_M_gone (nI c) (nI t) g = some (nI (gn p c (fph f c) t)) := by
  have h1 := h.c
  have h2 := h.q (h.h hc)
  have h3 := hW.2 c hc
  unfold fB_M_gone
  simp (disch := omega) only [bv_eq, lj_eq, nl, nm1, nI_add, nI_mul, Option.bind_some, n_rem, n_div, n_dz, ag_nI, ck_nI, nI_leI, nI_ltI, nI_eq, n_ne_m1, m1_ne_n, n_and, n_or, n31, n_shl, n_shr, n_ushr, nI_clamp, n_m1, if_true, if_false, ite_true, ite_false, turnB h hP hc, (hF.2 c hc).2.1]
  rfl
theorem columnB {p : Pl} (h : WP p) {f : Fl} {g : G} (hP : PB p g) (hF : FB p f g) (hW : WF p f) {c t : Nat} (hc : c < pK p) (ht : t < 2 ^ 20) : fB_M_columnAt (nI c) (nI t) g = some (nI (co p c (fnd f (hm p c)) (fph f c) t)) := by
  have h1 := h.c
  have h2 := h.q (h.h hc)
  have h3 := hW.1 _ (h.h hc)
  have h4 := h.h hc
  have h5 := ah_lt h hc (fph f c) t
  have h6 := bh_lt h t
  unfold fB_M_columnAt
  rw [ag_nI (by omega) (by decide), hP.2.2.1 c hc, nl, nI_add, Nat.zero_add, ag_nI (by omega) (by decide), hF.1 _ h4, goneB h hP hF hW hc ht, Option.bind_some, turnB h hP hc, Option.bind_some, n_dz (by omega) (by omega), hP.1.2.2.1, hP.1.1,
    n_dz (by omega) (by omega), n_dz (by omega) (by omega), nI_mul, n_div (by omega) (by omega), n_div (by omega) (by omega), nI_mul, n_rem, nI_mul, n_div (by omega) (by omega), nI_add, bv_eq]
  exact n_mod h6.1 (by unfold ah at h5; omega) (by omega)
theorem rowB {p : Pl} (h : WP p) {f : Fl} {g : G} (hP : PB p g) (hF : FB p f g) (hW : WF p f) {c t : Nat} (hc : c < pK p) (ht : t < 2 ^ 20) : fB_M_rowAt (nI c) (nI t) g = some (nI (ro p c (fph f c) t)) := by
  have h1 := h.c
  have h2 := h.q (h.h hc)
  have h4 := h.h hc
  have h5 := vN_le h hc (fph f c) t
  have h6 := ab_lt h hc (fph f c) t
  unfold fB_M_rowAt
  rw [ag_nI (by omega) (by decide), hP.2.2.1 c hc, ag_nI (by omega) (by decide), (hP.2.1 _ h4).1, goneB h hP hF hW hc ht, Option.bind_some, turnB h hP hc, Option.bind_some, n_dz (by omega) (by omega), hP.1.2.1]
  simp only [nl, nI_mul]
  rw [n_div (by omega) (by omega), bv_eq, lj_eq]
  change (if nI (tl p (hm p c)) < nI (vN p c (fph f c) t) then _ else _) = _
  have key : ∀ z : Int32, z + nI 0 = z → True := fun _ _ => trivial
  have fin : ∀ b6 : Int32, nI (pR p) / nI 2 + b6 = nI (ab p c (fph f c) t) → (dz (nI 2) (bv (nI (pR p) / nI 2 + b6) fun x7 => (if x7 < nI (pR p) then some x7 else some (nI (pR p) - nI 1)))) = some (nI (ro p c (fph f c) t)) := by
    intro b6 e
    rw [e, n_dz (by decide) (by decide), bv_eq]
    unfold ro
    by_cases hh : ab p c (fph f c) t < pR p
    · rw [if_pos (nI_lt hh (by omega)), if_neg (by omega)]
    · rw [if_neg (nI_nlt (by omega) (by omega)), if_pos (by omega), nI_sub (by omega)]
  rw [n_div (by omega) (by omega)] at fin ⊢
  by_cases a1 : tl p (hm p c) < vN p c (fph f c) t
  · rw [if_pos (nI_lt a1 (by omega))]
    change (if nI (3 * tl p (hm p c)) < nI (vN p c (fph f c) t) then _ else _) = _
    by_cases a2 : 3 * tl p (hm p c) < vN p c (fph f c) t
    · rw [if_pos (nI_lt a2 (by omega))]
      apply fin
      change nI (pR p / 2) + (nI (vN p c (fph f c) t) - nI (4 * tl p (hm p c))) = _
      rw [n_as (by omega)]
      unfold ab
      rw [if_neg (by omega), if_neg (by omega)]
    · rw [if_neg (nI_nlt (by omega) (by omega))]
      apply fin
      change nI (pR p / 2) + (nI (2 * tl p (hm p c)) - nI (vN p c (fph f c) t)) = _
      rw [n_as (by omega)]
      unfold ab
      rw [if_neg (by omega), if_pos (by omega)]
  · rw [if_neg (nI_nlt (by omega) (by omega))]
    apply fin
    change nI (pR p / 2) + nI (vN p c (fph f c) t) = _
    rw [nI_add]
    unfold ab
    rw [if_pos (by omega)]
theorem reachB {p : Pl} (h : WP p) {g : G} (hP : PB p g) {col row r x y : Nat} (h1 : col < pC p) (h2 : row < pR p) (h3 : r ≤ 12) (hx : x < pC p) (hy : y < pR p) :
    fB_M_reaches (nI col) (nI row) (nI r) (nI x) (nI y) g = some (bI (rch p col row r x y)) := by
  have h4 := h.c
  have d1 : ds col x ≤ pC p := ds_le (by omega) (by omega)
  have d2 : ds row y ≤ pR p := ds_le (by omega) (by omega)
  have w1 := wd_le p y
  have r1 : rd (pC p) (ds col x) ≤ 24 := Nat.le_trans (rd_le d1) (by omega)
  have m1 : rd (pC p) (ds col x) * wd p y ≤ 24 * 12 := Nat.mul_le_mul r1 (by omega)
  have m2 : ds row y * pR p ≤ 12 * 12 := Nat.mul_le_mul (by omega) (by omega)
  have m3 : r * pR p ≤ 12 * 12 := Nat.mul_le_mul (by omega) (by omega)
  have q1 := sq_le m1 m1
  have q2 := sq_le m2 m2
  have q3 := sq_le m3 m3
  have e3 : r * r * pR p * pR p = r * pR p * (r * pR p) := by ac_rfl
  unfold fB_M_reaches
  rw [away_eq (by omega) (by omega), Option.bind_some, lj_eq, hP.1.1, hP.1.2.1, nI_sub d1]
  have fin : ∀ k, k = rd (pC p) (ds col x) → (Option.bind (fB_M_widthOf (nI y) g) fun x3 => bv (nI k * x3) fun x4 => Option.bind (fB_M_away (nI row) (nI y) g) fun x5 => bv (x5 * nI (pR p)) fun x6 => (if (((nI r * nI r) * nI (pR p)) * nI (pR p)) < ((x4 * x4) + (x6 * x6)) then some 0 else some 1)) = some (bI (rch p col row r x y)) := by
    intro k hk
    subst hk
    rw [widthB h hP hy, Option.bind_some, away_eq (by omega) (by omega), bv_eq, Option.bind_some, bv_eq]
    simp only [nI_mul, nI_add, e3]
    unfold rch
    by_cases hh : rd (pC p) (ds col x) * wd p y * (rd (pC p) (ds col x) * wd p y) + ds row y * pR p * (ds row y * pR p) ≤ r * pR p * (r * pR p)
    · rw [if_neg (nI_nlt hh (by omega)), decide_eq_true hh]
      rfl
    · rw [if_pos (nI_lt (by omega) (by omega)), decide_eq_false hh]
      rfl
  by_cases hd : ds col x ≤ pC p - ds col x
  · rw [if_pos (nI_le hd (by omega))]
    apply fin
    unfold rd
    rw [if_neg (by omega)]
  · rw [if_neg (nI_ge (by omega) (by omega)), bv_eq]
    apply fin
    unfold rd
    rw [if_pos (by omega)]
theorem seesB {p : Pl} (h : WP p) {f : Fl} {g : G} (hP : PB p g) (hF : FB p f g) (hW : WF p f) {c t x y : Nat} (hc : c < pK p) (ht : t < 2 ^ 20) (hx : x < pC p) (hy : y < pR p) :
    fB_M_doesSee (nI c) (nI t) (nI x) (nI y) g = some (bI (decide (fup f c = 1) && see p f c t x y)) := by
  have h1 := h.c
  have h3 := hW.2 c hc
  unfold fB_M_doesSee
  rw [nl, nI_add, ag_nI (by omega) (by decide), (hF.2 c hc).1]
  by_cases hu : fup f c = 1
  · rw [hu, if_pos (show nI 1 = 1 from rfl), columnB h hP hF hW hc ht, Option.bind_some, rowB h hP hF hW hc ht, Option.bind_some, nl, nI_add, ag_nI (by omega) (by decide), (hF.2 c hc).2.2,
      reachB h hP (co_lt h _ _ _ _) (ro_lt h _ _ _) h3.2.1 hx hy, Option.bind_some]
    change (if bI (see p f c t x y) = nI 0 then _ else _) = _
    cases see p f c t x y <;> rfl
  · have : fup f c = 0 := by omega
    rw [this]
    rfl
