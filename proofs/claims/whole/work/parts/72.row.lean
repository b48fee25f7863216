/-! THE WORST GAP OF A ROW, in the class -/
theorem bI_and_not {a b : Nat → Bool} {n : Nat} (hn : n ≤ 31) : nI (mk a n) &&& (nI (mk b n) ^^^ (-1)) = nI (mk (fun x => a x && !b x) n) := by
  apply bit_ext
  intro i hi
  have hm1 : (-1 : Int32).toBitVec.getLsbD i = true := (by decide +kernel : ∀ i, i < 32 → (-1 : Int32).toBitVec.getLsbD i = true) i hi
  rw [Int32.toBitVec_and, Int32.toBitVec_xor, BitVec.getLsbD_and, BitVec.getLsbD_xor, nI_bit, nI_bit, nI_bit, hm1, mk_bit, mk_bit, mk_bit]
  cases decide (i < n) <;> simp [hi]
theorem mk_xor {a b : Nat → Bool} {n : Nat} : nI (mk a n) ^^^ nI (mk b n) = nI (mk (fun x => a x ^^ b x) n) := by
  rw [n_xor]
  congr 1
  apply Nat.eq_of_testBit_eq
  intro i
  rw [Nat.testBit_xor, mk_bit, mk_bit, mk_bit]
  cases decide (i < n) <;> simp
theorem mk_full {b : Nat → Bool} {n : Nat} (hn : n ≤ 31) : (nI (mk b n) = nI (2 ^ n - 1)) ↔ ∀ i, i < n → b i = true := by
  have h1 : 2 ^ n - 1 < 2 ^ 31 := by
    have : 2 ^ n ≤ 2 ^ 31 := Nat.pow_le_pow_right (by decide) hn
    have : 0 < 2 ^ n := Nat.pow_pos (by decide)
    omega
  rw [nI_eq (mk_lt31 hn) h1]
  constructor
  · intro e i hi
    have := mk_bit b n i
    rw [e, Nat.testBit_two_pow_sub_one] at this
    simpa [hi] using this.symm
  · intro h
    apply Nat.eq_of_testBit_eq
    intro i
    rw [mk_bit, Nat.testBit_two_pow_sub_one]
    by_cases hi : i < n
    · simp [hi, h i hi]
    · simp [hi]
/-- how long a column has not been seen at the cycle's end -/
def lu (p : Pl) (H : Nat → Nat → Nat → Bool) (y x : Nat) : Nat := fi (fun n => H (pY p - 1 - n) y x) (pY p)
theorem lu_iff {p : Pl} {H : Nat → Nat → Nat → Bool} {y x i : Nat} (hi : i < pY p) : (H (pY p - 1 - i) y x && !decide (lu p H y x < i)) = decide (lu p H y x = i) := by
  have ha := fi_all (fun n => H (pY p - 1 - n) y x) (pY p)
  unfold lu
  by_cases l : fi (fun n => H (pY p - 1 - n) y x) (pY p) < i
  · have : ¬ fi (fun n => H (pY p - 1 - n) y x) (pY p) = i := by omega
    simp [l, this]
  · by_cases e : fi (fun n => H (pY p - 1 - n) y x) (pY p) = i
    · have := ha.2.2 (by omega)
      rw [e] at this
      simp [e, this]
    · have := ha.2.1 i (by omega)
      simp [e, this]
set_option maxHeartbeats 1000000 in
theorem lastA {p : Pl} (hw : WP p) {g : G} (hP : PA p g) (hK : g.1 11801 = nI (2 ^ pC p - 1)) {H : Nat → Nat → Nat → Bool} (hH : HH p 128 H g) {y : Nat} (hy : y < pR p) :
    Sat (fA_Sky_findLastSights (nI y) g) (fun r => Fr [] [129] w0 g r.2 ∧ ((r.1 = nI 1 ∧ ∀ x, x < pC p → lu p H y x < pY p ∧ r.2.2.1 129 x = nI 0 - nI (lu p H y x)) ∨ (r.1 = nI 0 ∧ ∃ x, x < pC p ∧ lu p H y x = pY p))) := by
  have h1 := hw.c
  unfold fA_Sky_findLastSights
  rw [hP.1.2.2.2.1, nl, nI_sub (by omega), bv_eq]
  refine Sat.lp (fun i s => ∃ g', s = (nI (mk (fun x => decide (lu p H y x < i)) (pC p)), (if i < pY p then nI (pY p - 1 - i) else m1), g') ∧ Fr [] [129] w0 g g' ∧ ∀ x, x < pC p → lu p H y x < i → g'.2.1 129 x = nI 0 - nI (lu p H y x)) (pY p) (by omega) ⟨g, ?_, Fr.rf, fun x _ hl => by omega⟩ ?_ ?_
  · rw [if_pos (by omega), mk_zero.mpr (fun i _ => by simp)]
    rfl
  · rintro rec i _ hi ⟨g1, rfl, F1, I1⟩ hrec
    have P1 := hP.fr F1 (by simp) (by simp)
    have K1 : g1.1 11801 = nI (2 ^ pC p - 1) := (F1.1 11801 (by simp)).trans hK
    have H1 := hH.fr F1 (by simp)
    simp only []
    rw [if_pos hi, lj_eq, if_neg (show ¬ nI (pY p - 1 - i) < (0 : Int32) from nI_pos (by omega)), K1]
    by_cases full : nI (mk (fun x => decide (lu p H y x < i)) (pC p)) = nI (2 ^ pC p - 1)
    · rw [if_pos full]
      dsimp only
      rw [if_pos full]
      have hf := (mk_full (by omega)).mp full
      refine Sat.of ⟨F1, Or.inl ⟨rfl, fun x hx => ?_⟩⟩
      have := of_decide_eq_true (hf x hx)
      exact ⟨by omega, I1 x hx this⟩
    · rw [if_neg full]
      simp only [nl]
      rw [nI_mul, nI_add, ag_nI (by omega) (by decide), H1 (pY p - 1 - i) y (by omega) hy, show (-nI 1 : Int32) = -1 from rfl, bI_and_not (by omega), bv_eq]
      have em : mk (fun x => H (pY p - 1 - i) y x && !decide (lu p H y x < i)) (pC p) = mk (fun x => decide (lu p H y x = i)) (pC p) := mk_cong (fun x _ => lu_iff hi)
      rw [em, mk_or, bv_eq]
      obtain ⟨m0, hm0⟩ : ∃ m0, m0 = mk (fun x => decide (lu p H y x = i)) (pC p) := ⟨_, rfl⟩
      have hm24 : m0 < 2 ^ 24 := by rw [hm0]; exact Nat.lt_of_lt_of_le (mk_lt _ _) (Nat.pow_le_pow_right (by decide) (by omega))
      have eo : mk (fun x => decide (lu p H y x < i) || decide (lu p H y x = i)) (pC p) = mk (fun x => decide (lu p H y x < i + 1)) (pC p) := mk_cong (fun x _ => by
        apply Bool.eq_iff_iff.mpr
        rw [Bool.or_eq_true, decide_eq_true_iff, decide_eq_true_iff, decide_eq_true_iff]
        omega)
      rw [eo, ← hm0, bitCount_eq (Nat.lt_trans hm24 (by decide)), Option.bind_some]
      have pl := pc_le hm24 (by decide)
      refine Sat.lp (fun j s => ∃ m g', s = (nI m, nI (pc m0 - j), g') ∧ m < 2 ^ 24 ∧ pc m = pc m0 - j ∧ (∀ x, m.testBit x = true → m0.testBit x = true) ∧ Fr [] [129] w0 g g' ∧ (∀ x, x < pC p → lu p H y x < i → g'.2.1 129 x = nI 0 - nI (lu p H y x)) ∧ ∀ x, m0.testBit x = true → m.testBit x = false → g'.2.1 129 x = nI 0 - nI i) (pc m0) (by omega) ⟨m0, g1, rfl, hm24, rfl, fun x hx => hx, F1, I1, fun x h2 h3 => by rw [h2] at h3; exact absurd h3 (by decide)⟩ ?_ ?_
      · rintro rec2 j _ hj ⟨m, g2, rfl, m1', m2', m3, F2, I2, J2⟩ hrec2
        have P2 := hP.fr F2 (by simp) (by simp)
        obtain ⟨c, hc, _, hlow⟩ := pc_pos (m := m) (by omega)
        have hc0 := m3 c hc
        have hcC : c < pC p ∧ lu p H y c = i := by
          rw [hm0, mk_bit] at hc0
          simpa using hc0
        have rl := rest_low hc hlow m1'
        simp only []
        rw [if_neg (show ¬ nI (pc m0 - j) ≤ nI 0 from nI_ge (by omega) (by omega)), ntz_eq hc hlow (by omega), Option.bind_some, ck_nI (by omega) (by decide), nI_clamp (by omega), bv_eq, show nI m - nI 1 = nI m - 1 from rfl, rl.1, bv_eq, n_m1 (by omega), P2.1.2.2.2.1, nI_add]
        have ev : nI (pY p - 1 - i + 1) - nI (pY p) = nI 0 - nI i := by
          have e1 : nI (pY p) = nI (pY p - 1 - i + 1) + nI i := by rw [nI_add]; congr 1; omega
          rw [e1, show nI 0 = (0 : Int32) from rfl]
          simp [Int32.sub_eq_add_neg, Int32.neg_add, ← Int32.add_assoc]
          exact Int32.add_right_neg _
        rw [ev]
        refine hrec2 _ ⟨m &&& (m - 1), sA g2 129 c (nI 0 - nI i), ?_, rl.2.1, by omega, fun x hx => ?_, F2.sA (by simp), fun x hx hl => ?_, fun x hx1 hx2 => ?_⟩
        · rw [show pc m0 - (j + 1) = pc m0 - j - 1 by omega]
        · rw [rl.2.2.1] at hx
          exact m3 x (by simp at hx; exact hx.2)
        · rw [sA_21, if_pos rfl, upd_ne _ _ (by rintro rfl; omega)]
          exact I2 x hx hl
        · rw [sA_21, if_pos rfl]
          by_cases e : x = c
          · subst e
            rw [upd_self]
          · rw [upd_ne _ _ e]
            refine J2 x hx1 ?_
            rw [rl.2.2.1] at hx2
            simpa [e] using hx2
      · rintro rec2 _ ⟨m, g2, rfl, m1', m2', m3, F2, I2, J2⟩
        simp only []
        rw [Nat.sub_self, if_pos (show nI 0 ≤ nI 0 from nI_le (Nat.le_refl _) (by decide))]
        have mz : m = 0 := pc_zero m1' (by omega)
        refine hrec _ ⟨g2, ?_, F2, fun x hx hl => ?_⟩
        · by_cases l : i + 1 < pY p
          · rw [if_pos l, n_m1 (by omega), show pY p - 1 - i - 1 = pY p - 1 - (i + 1) by omega]
          · rw [if_neg l, show pY p - 1 - i = 0 by omega]
            rfl
        · by_cases e : lu p H y x = i
          · rw [e]
            refine J2 x ?_ (by rw [mz, Nat.zero_testBit])
            rw [hm0, mk_bit]
            simp [hx, e]
          · exact I2 x hx (by omega)
  · rintro rec _ ⟨g1, rfl, F1, I1⟩
    have K1 : g1.1 11801 = nI (2 ^ pC p - 1) := (F1.1 11801 (by simp)).trans hK
    simp only []
    rw [if_neg (Nat.lt_irrefl _), lj_eq, if_pos (show m1 < (0 : Int32) by decide), K1]
    by_cases full : nI (mk (fun x => decide (lu p H y x < pY p)) (pC p)) = nI (2 ^ pC p - 1)
    · rw [if_pos full]
      have hf := (mk_full (by omega)).mp full
      refine Sat.of ⟨F1, Or.inl ⟨rfl, fun x hx => ?_⟩⟩
      have := of_decide_eq_true (hf x hx)
      exact ⟨this, I1 x hx this⟩
    · rw [if_neg full]
      refine Sat.of ⟨F1, Or.inr ⟨rfl, ?_⟩⟩
      apply Classical.byContradiction
      intro hn
      apply full
      apply (mk_full (by omega)).mpr
      intro x hx
      apply decide_eq_true
      have := (fi_all (fun n => H (pY p - 1 - n) y x) (pY p)).1
      apply Classical.byContradiction
      intro hl
      exact hn ⟨x, hx, by unfold lu at *; omega⟩
