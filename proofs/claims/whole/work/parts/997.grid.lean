/-! THE TEXT: the grid, widths, the cycle -/
def p0 (C R D : Nat) : Pl := (fun i => if i = 0 then C else if i = 1 then R else if i = 2 then D else 0, fun _ _ => 0)
def f0 : Fl := fun _ _ => 0
def xG1 (n : Nat) (T : Nat → Nat) (X : Xs) : Nat × Xs := xNu n T 4 24 (xM n T 0 X)
def xG2 (n : Nat) (T : Nat → Nat) (X : Xs) : Nat × Xs := xNu n T 3 12 (xM n T 1 (xG1 n T X).2)
def xG3 (n : Nat) (T : Nat → Nat) (X : Xs) : Nat × Xs := xNu n T 2 96 (xM n T 2 (xG2 n T X).2)
def grP (n : Nat) (T : Nat → Nat) (X : Xs) : Pl := p0 (xG1 n T X).1 (xG2 n T X).1 (xG3 n T X).1
theorem us_f0 {p : Pl} (h : pK p = 0) (f : Fl) : us p f = 0 := by
  unfold us
  exact mk_zero.mpr (fun i _ => by rw [h]; simp)
theorem DW0 {C R D : Nat} (hC : 4 ≤ C ∧ C ≤ 24) (hR : 3 ≤ R ∧ R ≤ 12) (hD : 2 ≤ D ∧ D ≤ 96) : DW (p0 C R D) f0 := by
  refine ⟨⟨hC.1, hC.2, hR.1, hR.2, hD.1, hD.2, Nat.zero_le _, Nat.zero_le _, Nat.zero_le _⟩, fun q hq => absurd hq (Nat.not_lt_zero q), fun q hq => absurd hq (Nat.not_lt_zero q), fun q hq => absurd hq (Nat.not_lt_zero q), fun w i _ _ => ?_, ⟨fun q hq => absurd hq (Nat.not_lt_zero q), fun q hq => absurd hq (Nat.not_lt_zero q)⟩, fun q hq => absurd hq (Nat.not_lt_zero q)⟩
  show (0 : Nat) < 32
  decide
theorem DA0 {C R D : Nat} {g : G} (e1 : g.1 1500 = nI C) (e2 : g.1 1501 = nI R) (e3 : g.1 1502 = nI D) (e4 : g.1 1505 = 0) (e5 : g.1 1506 = 0) (e6 : g.1 1507 = 0) (e7 : g.1 3100 = 0) : DA (p0 C R D) f0 g := by
  refine ⟨⟨e1, e2, e3, e4, e5, e6⟩, fun q hq => absurd hq (Nat.not_lt_zero q), fun q hq => absurd hq (Nat.not_lt_zero q), fun q hq => absurd hq (Nat.not_lt_zero q), ⟨?_, fun q hq => absurd hq (Nat.not_lt_zero q), fun q hq => absurd hq (Nat.not_lt_zero q)⟩⟩
  rw [us_f0 rfl, e7]
  rfl
theorem DB0 {C R D : Nat} {g : G} (e1 : g.1 18 = nI C) (e2 : g.1 19 = nI R) (e3 : g.1 20 = nI D) (e4 : g.1 21 = 0) (e5 : g.1 22 = 0) (e6 : g.1 23 = 0) : DB (p0 C R D) f0 g := by
  refine ⟨⟨e1, e2, e3, e4, e5, e6⟩, fun q hq => absurd hq (Nat.not_lt_zero q), fun q hq => absurd hq (Nat.not_lt_zero q), fun q hq => absurd hq (Nat.not_lt_zero q), fun w i hw _ => ?_⟩
  exfalso
  rcases hw with z | z | z
  · exact absurd z (Nat.not_lt_zero w)
  · have z2 : w < 4 + 0 := z.2
    omega
  · have z2 : w < 12 + 0 := z.2
    omega
set_option maxHeartbeats 2000000 in
theorem gridA {n : Nat} {T : Nat → Nat} {X : Xs} {g : G} (hx : TX n T) (h : LA n T X g) (h0 : X.1 = 0) (c4 : g.1 1505 = 0) (c5 : g.1 1506 = 0) (c6 : g.1 1507 = 0) (c7 : g.1 3100 = 0) :
    Sat (fA_Reader_readGrid g) (fun r => Fr (1500 :: 1501 :: 1502 :: 3502 :: aS) [] w0 g r.2 ∧ LA n T (xE n T (xG3 n T X).2) r.2 ∧ r.1 = bI (decide ((xE n T (xG3 n T X).2).1 = 0)) ∧ ((xE n T (xG3 n T X).2).1 = 0 → DA (grP n T X) f0 r.2 ∧ DW (grP n T X) f0 ∧ 0 < (xE n T (xG3 n T X).2).2.2.1 ∧ (xE n T (xG3 n T X).2).2.2.2 ≤ (xE n T (xG3 n T X).2).2.2.1 ∧ r.2.1 3502 = g.1 3502 + 1)) := by
  have hn := hx.1
  obtain ⟨Z, eZ⟩ : ∃ Z, Z = xE n T (xG3 n T X).2 := ⟨_, rfl⟩
  obtain ⟨Q, hQ⟩ : ∃ Q : Int32 × G → Prop, Q = fun r => Fr (1500 :: 1501 :: 1502 :: 3502 :: aS) [] w0 g r.2 ∧ LA n T Z r.2 ∧ r.1 = bI (decide (Z.1 = 0)) ∧ (Z.1 = 0 → DA (grP n T X) f0 r.2 ∧ DW (grP n T X) f0 ∧ 0 < Z.2.2.1 ∧ Z.2.2.2 ≤ Z.2.2.1 ∧ r.2.1 3502 = g.1 3502 + 1) := ⟨_, rfl⟩
  rw [← eZ, ← hQ]
  have out : ∀ (Y : Xs) (g' : G), Y.1 ≠ 0 → xE n T (xG3 n T X).2 = Y → Fr (1500 :: 1501 :: 1502 :: 3502 :: aS) [] w0 g g' → LA n T Y g' → Q (0, g') := by
    intro Y g' d e F L
    rw [hQ, eZ, e]
    exact ⟨F, L, by rw [decide_eq_false d]; rfl, fun z => absurd z d⟩
  unfold fA_Reader_readGrid
  refine stW hx h h0 (by decide) (fun g' F L d => ?_) (fun g1 F1 L1 z1 => ?_)
  · refine out _ g' d ?_ (F.wd (by decide) (by simp) (by simp)) L
    unfold xG3 xG2 xG1
    rw [xNu2_dead d, xM_dead d, xNu2_dead d, xM_dead d, xNu2_dead d, xE_dead d]
  dsimp only
  have A1 := (L1.2.2.1 z1).2.1
  refine stN (lo := 4) (hi := 24) hx L1 z1 (by decide) (by decide) (fun g' F L d => ?_) (fun g2 F2 L2 z2 v2 => ?_)
  · refine out _ g' d ?_ ((F1.wd (by decide) (by simp) (by simp)).tr F (by decide) (by simp) (by simp)) L
    unfold xG3 xG2 xG1
    rw [xM_dead d, xNu2_dead d, xM_dead d, xNu2_dead d, xE_dead d]
  dsimp only
  have ok1 := xNu_ok z1 A1 z2
  have e1 : xNu n T 4 24 (xM n T 0 X) = xG1 n T X := rfl
  rw [e1] at L2 z2 v2 ok1
  rw [bv_eq, v2]
  obtain ⟨g3, eg3⟩ : ∃ g3, g3 = sS g2 1500 (nI (xG1 n T X).1) := ⟨_, rfl⟩
  rw [← eg3]
  have F23 : Fr [1500] [] w0 g2 g3 := by rw [eg3]; exact Fr.rf.sS (by simp)
  have F3 : Fr (1500 :: aS) [] w0 g g3 := ((F1.wd (by decide) (by simp) (by simp)).tr F2 (by decide) (by simp) (by simp)).tr F23 (by simp) (by simp) (by simp)
  have k3 : g3.1 1500 = nI (xG1 n T X).1 := by rw [eg3]; rfl
  refine stW hx (L2.fr F23 (by simp) (by simp)) z2 (by decide) (fun g' F L d => ?_) (fun g4 F4 L4 z4 => ?_)
  · refine out _ g' d ?_ ((F3.wd (by decide) (by simp) (by simp)).tr F (by decide) (by simp) (by simp)) L
    unfold xG3 xG2
    rw [xNu2_dead d, xM_dead d, xNu2_dead d, xE_dead d]
  dsimp only
  have A4 := (L4.2.2.1 z4).2.1
  refine stN (lo := 3) (hi := 12) hx L4 z4 (by decide) (by decide) (fun g' F L d => ?_) (fun g5 F5 L5 z5 v5 => ?_)
  · refine out _ g' d ?_ (((F3.wd (by decide) (by simp) (by simp)).tr F4 (by decide) (by simp) (by simp)).tr F (by decide) (by simp) (by simp)) L
    unfold xG3 xG2
    rw [xM_dead d, xNu2_dead d, xE_dead d]
  dsimp only
  have ok2 := xNu_ok z4 A4 z5
  have e2 : xNu n T 3 12 (xM n T 1 (xG1 n T X).2) = xG2 n T X := rfl
  rw [e2] at L5 z5 v5 ok2
  rw [bv_eq, v5]
  obtain ⟨g6, eg6⟩ : ∃ g6, g6 = sS g5 1501 (nI (xG2 n T X).1) := ⟨_, rfl⟩
  rw [← eg6]
  have F56 : Fr [1501] [] w0 g5 g6 := by rw [eg6]; exact Fr.rf.sS (by simp)
  have F36 : Fr (1501 :: aS) [] w0 g3 g6 := ((F4.wd (by decide) (by simp) (by simp)).tr F5 (by decide) (by simp) (by simp)).tr F56 (by simp) (by simp) (by simp)
  have F6 : Fr (1500 :: 1501 :: aS) [] w0 g g6 := (F3.wd (by decide) (by simp) (by simp)).tr F36 (by decide) (by simp) (by simp)
  have k6 : g6.1 1501 = nI (xG2 n T X).1 := by rw [eg6]; rfl
  refine stW hx (L5.fr F56 (by simp) (by simp)) z5 (by decide) (fun g' F L d => ?_) (fun g7 F7 L7 z7 => ?_)
  · refine out _ g' d ?_ ((F6.wd (by decide) (by simp) (by simp)).tr F (by decide) (by simp) (by simp)) L
    unfold xG3
    rw [xNu2_dead d, xE_dead d]
  dsimp only
  have A7 := (L7.2.2.1 z7).2.1
  refine stN (lo := 2) (hi := 96) hx L7 z7 (by decide) (by decide) (fun g' F L d => ?_) (fun g8 F8 L8 z8 v8 => ?_)
  · refine out _ g' d ?_ (((F6.wd (by decide) (by simp) (by simp)).tr F7 (by decide) (by simp) (by simp)).tr F (by decide) (by simp) (by simp)) L
    unfold xG3
    rw [xE_dead d]
  dsimp only
  have ok3 := xNu_ok z7 A7 z8
  have e3 : xNu n T 2 96 (xM n T 2 (xG2 n T X).2) = xG3 n T X := rfl
  rw [e3] at L8 z8 v8 ok3
  rw [bv_eq, v8]
  obtain ⟨g9, eg9⟩ : ∃ g9, g9 = sS g8 1502 (nI (xG3 n T X).1) := ⟨_, rfl⟩
  rw [← eg9]
  have F89 : Fr [1502] [] w0 g8 g9 := by rw [eg9]; exact Fr.rf.sS (by simp)
  have F69 : Fr (1502 :: aS) [] w0 g6 g9 := ((F7.wd (by decide) (by simp) (by simp)).tr F8 (by decide) (by simp) (by simp)).tr F89 (by simp) (by simp) (by simp)
  have F9 : Fr (1500 :: 1501 :: 1502 :: 3502 :: aS) [] w0 g g9 := (F6.wd (by decide) (by simp) (by simp)).tr F69 (by decide) (by simp) (by simp)
  have F9' : Fr (1500 :: 1501 :: 1502 :: aS) [] w0 g g9 := (F6.wd (by decide) (by simp) (by simp)).tr F69 (by decide) (by simp) (by simp)
  have k9 : g9.1 1502 = nI (xG3 n T X).1 := by rw [eg9]; rfl
  refine (endA hx (L8.fr F89 (by simp) (by simp)) z8 (Nat.le_of_lt ok3.2.1)).bind ?_
  rintro ⟨r, g10⟩ ⟨F10, L10, e10, n10⟩
  have F10 : Fr (3502 :: aS) [] w0 g9 g10 := F10
  have e10 : r = bI (decide ((xE n T (xG3 n T X).2).1 = 0)) := e10
  dsimp only at L10 n10 ⊢
  rw [← eZ] at L10 n10 e10
  rw [e10, btb, hQ]
  refine Sat.of ⟨F9.tr F10 (by decide) (by simp) (by simp), L10, rfl, fun zz => ?_⟩
  have hDW : DW (grP n T X) f0 := DW0 ⟨ok1.1.1, ok1.1.2.1⟩ ⟨ok2.1.1, ok2.1.2.1⟩ ⟨ok3.1.1, ok3.1.2.1⟩
  have hDA : DA (grP n T X) f0 g9 := by
    refine DA0 ?_ ?_ k9 ?_ ?_ ?_ ?_
    · rw [F69.1 1500 (by decide), F36.1 1500 (by decide), k3]
    · rw [F69.1 1501 (by decide), k6]
    · rw [F9'.1 1505 (by decide), c4]
    · rw [F9'.1 1506 (by decide), c5]
    · rw [F9'.1 1507 (by decide), c6]
    · rw [F9'.1 3100 (by decide), c7]
  have ez : Z = (0, 0, skp n T (xG3 n T X).2.2.2.1 + 1, (xG3 n T X).2.2.2.2) := by
    rw [eZ] at zz ⊢
    exact xE_ok z8 zz
  have sk' := skp_all T (L8.2.2.1 z8).2.1
  refine ⟨hDA.fr F10 (by decide) (by simp), hDW, ?_, ?_, ?_⟩
  · rw [ez]
    exact Nat.succ_pos _
  · rw [ez]
    dsimp only
    have := ok3.2.1
    omega
  · show g10.1 3502 = _
    rw [n10 zz, F9'.1 3502 (by decide)]
/-- widths -/
theorem ds_if {a b : Nat} : (if b ≤ a then a - b else b - a) = ds a b := rfl
theorem weighA {p : Pl} {f : Fl} {g : G} (hD : DA p f g) (hW : DW p f) : Sat (fA_Plan_weighCells g) (fun g' => Fr [1504] [16] w0 g g' ∧ g'.1 1504 = nI (al p) ∧ ∀ y, y < pR p → g'.2.1 16 y = nI (wd p y)) := by
  have b := hW.1
  unfold fA_Plan_weighCells
  rw [bv_eq]
  refine Sat.lp (fun y z => ∃ g', z = (nI y, g') ∧ Fr [1504] [16] w0 g g' ∧ g'.1 1504 = nI (sm (fun y => pC p * wd p y) y) ∧ ∀ j, j < y → g'.2.1 16 j = nI (wd p j)) (pR p) (by omega) ⟨_, rfl, Fr.rf.sS (by simp), rfl, fun j hj => absurd hj (Nat.not_lt_zero j)⟩ ?_ ?_
  · rintro rec y _ hy ⟨g', rfl, F, k1, k2⟩ hrec
    have eR : g'.1 1501 = nI (pR p) := (F.1 1501 (by simp)).trans hD.1.2.1
    have eC : g'.1 1500 = nI (pC p) := (F.1 1500 (by simp)).trans hD.1.1
    have wl' := wd_le p y
    dsimp only
    rw [eR, if_neg (nI_ge hy (by omega)), show (2 * nI y : Int32) = nI (2 * y) by rw [show (2 : Int32) = nI 2 from rfl, nI_mul], show (nI (pR p) - 1 : Int32) = nI (pR p - 1) from nI_sub (b := 1) (by omega), bv_eq, show (2 : Int32) = nI 2 from rfl, n_dz (by decide) (by decide), ck_nI (by omega) (by decide), bv_eq, nI_clamp (by omega),
      show (0 : Int32) = nI 0 from rfl, n_abs (by omega) (by omega), ds_if]
    have dl : ds (2 * y) (pR p - 1) ≤ pR p - 1 := by
      unfold ds
      split <;> omega
    rw [n_div (by omega) (by decide), nI_sub (by omega), show pR p - ds (2 * y) (pR p - 1) / 2 = wd p y from rfl]
    rw [ag_nI (by omega) (by decide), sA_21, if_pos rfl, upd_self, bv_eq]
    have c1 : (sA g' 16 y (nI (wd p y))).1 1504 = nI (sm (fun y => pC p * wd p y) y) := k1
    have c2 : (sA g' 16 y (nI (wd p y))).1 1500 = nI (pC p) := eC
    rw [c1, c2, nI_mul, nI_add, show (nI y + 1 : Int32) = nI (y + 1) from nI_add y 1]
    refine hrec _ ⟨_, rfl, (F.sA (by simp)).sS (by simp), rfl, fun j hj => ?_⟩
    show (sA g' 16 y (nI (wd p y))).2.1 16 j = _
    rw [sA_21, if_pos rfl]
    by_cases e : j = y
    · rw [e, upd_self]
    · rw [upd_ne _ _ e]
      exact k2 j (by omega)
  · rintro rec _ ⟨g', rfl, F, k1, k2⟩
    have eR : g'.1 1501 = nI (pR p) := (F.1 1501 (by simp)).trans hD.1.2.1
    dsimp only
    rw [eR, if_pos (nI_le (Nat.le_refl _) (by omega))]
    exact Sat.of ⟨F, k1, k2⟩
/-- the cycle -/
def cyc (p : Pl) : Nat → Nat
  | 0 => pD p
  | q + 1 => if 240 < cyc p q then cyc p q else Nat.lcm (cyc p q) (tu p q)
theorem lcm_le {a b : Nat} (ha : 0 < a) (hb : 0 < b) : 0 < Nat.lcm a b ∧ Nat.lcm a b ≤ a * b := ⟨Nat.lcm_pos ha hb, Nat.le_of_dvd (Nat.mul_pos ha hb) (Nat.lcm_dvd_mul a b)⟩
theorem cyc_b {p : Pl} {f : Fl} (hW : DW p f) : ∀ q, q ≤ pP p → 2 ≤ cyc p q ∧ cyc p q ≤ 240 * 96
  | 0, _ => by
    have b := hW.1
    show 2 ≤ pD p ∧ pD p ≤ 240 * 96
    omega
  | q + 1, h => by
    have ih := cyc_b hW q (by omega)
    have t := hW.2.1 q (by omega)
    have e : cyc p (q + 1) = if 240 < cyc p q then cyc p q else Nat.lcm (cyc p q) (tu p q) := rfl
    rw [e]
    by_cases l : 240 < cyc p q
    · rw [if_pos l]; exact ih
    · rw [if_neg l]
      have m := lcm_le (a := cyc p q) (b := tu p q) (by omega) (by omega)
      have d : cyc p q ≤ Nat.lcm (cyc p q) (tu p q) := Nat.le_of_dvd m.1 (Nat.dvd_lcm_left _ _)
      have : cyc p q * tu p q ≤ 240 * 96 := Nat.mul_le_mul (by omega) (by omega)
      omega
theorem cyc_d {p : Pl} {f : Fl} (hW : DW p f) : ∀ q, q ≤ pP p → cyc p q ≤ 240 → pD p ∣ cyc p q ∧ ∀ j, j < q → tu p j ∣ cyc p q
  | 0, _, _ => ⟨Nat.dvd_refl _, fun j hj => absurd hj (Nat.not_lt_zero j)⟩
  | q + 1, h, hl => by
    have e : cyc p (q + 1) = if 240 < cyc p q then cyc p q else Nat.lcm (cyc p q) (tu p q) := rfl
    by_cases l : 240 < cyc p q
    · rw [e, if_pos l] at hl
      omega
    · have ih := cyc_d hW q (by omega) (by omega)
      rw [e, if_neg l]
      have d := Nat.dvd_lcm_left (cyc p q) (tu p q)
      refine ⟨Nat.dvd_trans ih.1 d, fun j hj => ?_⟩
      by_cases z : j = q
      · rw [z]; exact Nat.dvd_lcm_right _ _
      · exact Nat.dvd_trans (ih.2 j (by omega)) d
theorem leastA {a b : Nat} (ha : 0 < a) (hb : 0 < b) (hl : a ≤ 240) (hl2 : b ≤ 96) (g : G) : fA_Plan_leastCommon (nI a) (nI b) g = some (nI (Nat.lcm a b)) := by
  have m := lcm_le ha hb
  obtain ⟨k, hk⟩ := Nat.dvd_lcm_left a b
  have hab : Nat.lcm a b = k * a := by rw [hk, Nat.mul_comm]
  have k1 : 1 ≤ k := by
    rcases Nat.eq_zero_or_pos k with z | z
    · rw [z, Nat.mul_zero] at hk
      omega
    · exact z
  have kb : k ≤ b := by
    have : a * k ≤ a * b := by rw [← hk]; exact m.2
    exact Nat.le_of_mul_le_mul_left this ha
  have no : ∀ j, 1 ≤ j → j < k → ¬ (j * a) % b = 0 := by
    intro j h1 h2 z
    have d1 : b ∣ j * a := Nat.dvd_of_mod_eq_zero z
    have d2 : a ∣ j * a := ⟨j, Nat.mul_comm j a⟩
    have d := Nat.lcm_dvd d2 d1
    have := Nat.le_of_dvd (Nat.mul_pos h1 ha) d
    rw [hab] at this
    have := Nat.le_of_mul_le_mul_right this ha
    omega
  have yes : (k * a) % b = 0 := by
    rw [← hab]
    exact Nat.mod_eq_zero_of_dvd (Nat.dvd_lcm_right a b)
  apply Sat.eq
  unfold fA_Plan_leastCommon
  refine Sat.lp (fun i z => z = nI (i + 1)) (k - 1) (by omega) rfl ?_ ?_
  · rintro rec i _ hi rfl hrec
    have hm : (i + 1) * a ≤ 96 * 240 := Nat.mul_le_mul (by omega) hl
    rw [if_neg (nI_nlt (by omega) (by omega)), nI_mul, restA hb (by omega) (by omega), Option.bind_some]
    have hr : (i + 1) * a % b < b := Nat.mod_lt _ hb
    rw [if_neg (nI_ne0 (Nat.pos_of_ne_zero (no (i + 1) (by omega) (by omega))) (by omega)), show (nI (i + 1) + 1 : Int32) = nI (i + 1 + 1) from nI_add (i + 1) 1]
    exact hrec _ rfl
  · rintro rec _ rfl
    have hm : k * a ≤ 96 * 240 := Nat.mul_le_mul (by omega) hl
    rw [show k - 1 + 1 = k by omega, if_neg (nI_nlt (by omega) (by omega)), nI_mul, restA hb (by omega) (by omega), Option.bind_some, yes, if_pos i00]
    exact Sat.of (by rw [hab])
theorem commonB {a b : Nat} (hl : a < 2 ^ 20) (hl2 : b < 2 ^ 19) (g : G) : fB_M_common (nI a) (nI b) g = some (nI (Nat.gcd a b)) := by
  apply Sat.eq
  unfold fB_M_common
  refine Sat.lpm (fun z => ∃ x y, z = (nI x, nI y) ∧ x < 2 ^ 20 ∧ y < 2 ^ 19 ∧ Nat.gcd x y = Nat.gcd a b) (fun z => z.2.toBitVec.toNat) ?_ ⟨a, b, rfl, hl, hl2, rfl⟩ ?_
  · show (BitVec.ofNat 32 b).toNat < 1000000
    rw [BitVec.toNat_ofNat, Nat.mod_eq_of_lt (by omega)]
    omega
  · rintro rec _ ⟨x, y, rfl, h1, h2, h3⟩ hrec
    dsimp only
    by_cases z : y = 0
    · rw [z, if_pos i00]
      rw [z, Nat.gcd_zero_right] at h3
      exact Sat.of (by rw [h3])
    · have hr : x % y < y := Nat.mod_lt _ (by omega)
      rw [if_neg (nI_ne0 (by omega) (by omega)), n_dz (by omega) (by omega), bv_eq, n_div (by omega) (by omega), nI_mul, n_rem]
      refine hrec _ ⟨y, x % y, rfl, by omega, by omega, ?_⟩ ?_
      · rw [← h3, Nat.gcd_comm y, ← Nat.gcd_rec, Nat.gcd_comm]
      · show (BitVec.ofNat 32 (x % y)).toNat < (BitVec.ofNat 32 y).toNat
        have e1 : x % y % 2 ^ 32 = x % y := Nat.mod_eq_of_lt (by omega)
        have e2 : y % 2 ^ 32 = y := Nat.mod_eq_of_lt (by omega)
        rw [BitVec.toNat_ofNat, BitVec.toNat_ofNat, e1, e2]
        exact hr
/-- above 240 it stays -/
theorem cyc_stay {p : Pl} {q : Nat} (h : 240 < cyc p q) : ∀ k, cyc p (q + k) = cyc p q
  | 0 => rfl
  | k + 1 => by
    have ih := cyc_stay h k
    have e : cyc p (q + k + 1) = if 240 < cyc p (q + k) then cyc p (q + k) else Nat.lcm (cyc p (q + k)) (tu p (q + k)) := rfl
    rw [show q + (k + 1) = q + k + 1 by omega, e, ih, if_pos h]
theorem cycleA {p : Pl} {f : Fl} {g : G} (hD : DA p f g) (hW : DW p f) : Sat (fA_Plan_findCycle g) (fun r => Fr [1503] [] w0 g r.2 ∧ r.2.1 1503 = nI (cyc p (pP p)) ∧ r.1 = bI (decide (cyc p (pP p) ≤ 240))) := by
  have b := hW.1
  unfold fA_Plan_findCycle
  rw [bv_eq]
  obtain ⟨Q, hQ⟩ : ∃ Q : Int32 × G → Prop, Q = fun r => Fr [1503] [] w0 g r.2 ∧ r.2.1 1503 = nI (cyc p (pP p)) ∧ r.1 = bI (decide (cyc p (pP p) ≤ 240)) := ⟨_, rfl⟩
  rw [← hQ]
  have fin : ∀ g', Fr [1503] [] w0 g g' → g'.1 1503 = nI (cyc p (pP p)) → Sat (if 240 < (g'.1 1503) then some ((0 : Int32), g') else some (1, g')) Q := by
    intro g' F k
    have cb := cyc_b hW (pP p) (Nat.le_refl _)
    rw [k, show (240 : Int32) = nI 240 from rfl, ite_ltn (by decide) (by omega), hQ]
    by_cases l : 240 < cyc p (pP p)
    · rw [if_pos l]
      exact Sat.of ⟨F, k, by rw [decide_eq_false (by omega)]; rfl⟩
    · rw [if_neg l]
      exact Sat.of ⟨F, k, by rw [decide_eq_true (by omega)]; rfl⟩
  refine Sat.lp (fun q z => ∃ g', z = (nI q, g') ∧ Fr [1503] [] w0 g g' ∧ g'.1 1503 = nI (cyc p q)) (pP p) (by omega) ⟨_, rfl, Fr.rf.sS (by simp), hD.1.2.2.1⟩ ?_ ?_
  · rintro rec q _ hq ⟨g', rfl, F, k⟩ hrec
    have cb := cyc_b hW q (by omega)
    have t := hW.2.1 q hq
    have eP : g'.1 1505 = nI (pP p) := (F.1 1505 (by simp)).trans hD.1.2.2.2.1
    dsimp only
    rw [lj_eq, eP, if_neg (nI_ge hq (by omega))]
    by_cases l : 240 < cyc p q
    · rw [if_pos (show (240 : Int32) < g'.1 1503 by rw [k]; exact nI_lt (a := 240) l (by omega))]
      have := cyc_stay (p := p) l (pP p - q)
      rw [show q + (pP p - q) = pP p by omega] at this
      exact fin g' F (by rw [this, k])
    · rw [if_neg (show ¬ (240 : Int32) < g'.1 1503 by rw [k]; exact nI_nlt (a := 240) (by omega) (by decide)), ag_nI (by omega) (by decide), F.2.1 19 (by simp), (hD.2.1 q hq).2.1, k, leastA (by omega) (by omega) (by omega) (by omega), Option.bind_some, bv_eq, show (nI q + 1 : Int32) = nI (q + 1) from nI_add q 1]
      refine hrec _ ⟨_, rfl, F.sS (by simp), ?_⟩
      show nI (Nat.lcm (cyc p q) (tu p q)) = nI (if 240 < cyc p q then cyc p q else Nat.lcm (cyc p q) (tu p q))
      rw [if_neg l]
  · rintro rec _ ⟨g', rfl, F, k⟩
    have eP : g'.1 1505 = nI (pP p) := (F.1 1505 (by simp)).trans hD.1.2.2.2.1
    dsimp only
    rw [lj_eq, eP, if_pos (nI_le (Nat.le_refl _) (by omega))]
    exact fin g' F k
theorem cycleB {p : Pl} {f : Fl} {g : G} (hD : DB p f g) (hW : DW p f) : fB_M_readCycle g = some (nI (cyc p (pP p))) := by
  have b := hW.1
  apply Sat.eq
  unfold fB_M_readCycle
  rw [bv_eq, hD.1.2.2.1]
  refine Sat.lp (fun q z => z = (nI (cyc p q), nI q)) (pP p) (by omega) rfl ?_ ?_
  · rintro rec q _ hq rfl hrec
    have cb := cyc_b hW q (by omega)
    have t := hW.2.1 q hq
    dsimp only
    rw [hD.1.2.2.2.1, if_neg (nI_ge hq (by omega)), show (240 : Int32) = nI 240 from rfl, ite_ltn (by decide) (by omega)]
    by_cases l : 240 < cyc p q
    · rw [if_pos l]
      have := cyc_stay (p := p) l (pP p - q)
      rw [show q + (pP p - q) = pP p by omega] at this
      exact Sat.of (by rw [this])
    · have hg : 0 < Nat.gcd (cyc p q) (tu p q) := Nat.gcd_pos_of_pos_left _ (by omega)
      have hgl : Nat.gcd (cyc p q) (tu p q) ≤ cyc p q := Nat.gcd_le_left _ (by omega)
      have hq2 : cyc p q / Nat.gcd (cyc p q) (tu p q) ≤ cyc p q := Nat.div_le_self _ _
      have el : cyc p q / Nat.gcd (cyc p q) (tu p q) * tu p q = Nat.lcm (cyc p q) (tu p q) := by
        unfold Nat.lcm
        rw [Nat.mul_comm (cyc p q) (tu p q), Nat.mul_div_assoc _ (Nat.gcd_dvd_left (cyc p q) (tu p q)), Nat.mul_comm]
      rw [if_neg l, ag_nI (by omega) (by decide), (hD.2.1 q hq).2.2, commonB (by omega) (by omega), Option.bind_some, n_dz hg (by omega), ag_nI (by omega) (by decide), (hD.2.1 q hq).2.2, n_div (by omega) (by omega), nI_mul, el, bv_eq, show (nI q + 1 : Int32) = nI (q + 1) from nI_add q 1]
      refine hrec _ ?_
      show _ = (nI (if 240 < cyc p q then cyc p q else Nat.lcm (cyc p q) (tu p q)), _)
      rw [if_neg l]
  · rintro rec _ rfl
    dsimp only
    rw [hD.1.2.2.2.1, if_pos (nI_le (Nat.le_refl _) (by omega))]
    exact Sat.of rfl
