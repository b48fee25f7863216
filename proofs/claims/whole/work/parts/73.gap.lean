/-! THE WORST GAP OF A ROW, in the class: told -/
theorem fi_cong {q q' : Nat → Bool} : ∀ {n : Nat}, (∀ k, k < n → q k = q' k) → fi q n = fi q' n
  | 0, _ => rfl
  | n + 1, h => by rw [fi, fi, fi_cong (fun k hk => h k (by omega)), h n (Nat.lt_succ_self n)]
/-- the greatest -/
def mx (f : Nat → Nat) : Nat → Nat
  | 0 => 0
  | n + 1 => if mx f n < f n then f n else mx f n
theorem mx_ge {f : Nat → Nat} : ∀ {n i : Nat}, i < n → f i ≤ mx f n
  | 0, i, h => absurd h (Nat.not_lt_zero i)
  | n + 1, i, h => by
    unfold mx
    by_cases e : i = n
    · subst e
      split <;> omega
    · have := mx_ge (f := f) (n := n) (i := i) (by omega)
      split <;> omega
theorem mx_is {f : Nat → Nat} : ∀ {n : Nat}, mx f n = 0 ∨ ∃ i, i < n ∧ mx f n = f i
  | 0 => Or.inl rfl
  | n + 1 => by
    have ih := mx_is (f := f) (n := n)
    unfold mx
    split
    · exact Or.inr ⟨n, by omega, rfl⟩
    · rcases ih with e | ⟨i, hi, e⟩
      · exact Or.inl e
      · exact Or.inr ⟨i, by omega, e⟩
theorem mx_le {f : Nat → Nat} {n m : Nat} (h : ∀ i, i < n → f i ≤ m) : mx f n ≤ m := by
  rcases mx_is (f := f) (n := n) with e | ⟨i, hi, e⟩
  · omega
  · rw [e]
    exact h i hi
theorem mx_cong {f f' : Nat → Nat} : ∀ {n : Nat}, (∀ i, i < n → f i = f' i) → mx f n = mx f' n
  | 0, _ => rfl
  | n + 1, h => by rw [mx, mx, h n (Nat.lt_succ_self n), mx_cong (fun i hi => h i (by omega))]
/-- a column's unseen ticks -/
def ub (p : Pl) (H : Nat → Nat → Nat → Bool) (y x t : Nat) : Bool := !H (t % pY p) y x
theorem ub_per (p : Pl) (H : Nat → Nat → Nat → Bool) (y x : Nat) : Per (pY p) (ub p H y x) := by
  intro t
  unfold ub
  rw [Nat.mod_mod]
/-- a row's worst gap -/
def wr (p : Pl) (H : Nat → Nat → Nat → Bool) (y : Nat) : Nat := mx (fun x => mg (ub p H y x) (pY p) (pY p)) (pC p)
theorem wr_le (p : Pl) (H : Nat → Nat → Nat → Bool) (y : Nat) : wr p H y ≤ pY p := mx_le (fun _ _ => mg_le _ _ _)
theorem lu_bk (p : Pl) (H : Nat → Nat → Nat → Bool) (y x : Nat) : bk (ub p H y x) (pY p) 0 = lu p H y x := by
  unfold bk lu
  apply fi_cong
  intro k hk
  unfold ub
  rw [Bool.not_not, Nat.zero_add, Nat.mod_eq_of_lt (by omega)]
theorem n_back (a b : Int32) : a - (a - b) = b := by grind
theorem n_both (a b : Nat) : nI (a + 1) - nI (b + 1) = nI a - nI b := by
  rw [← nI_add, ← nI_add]
  grind
set_option maxHeartbeats 2000000 in
theorem worstRowA {p : Pl} (hw : WP p) {g : G} (hP : PA p g) (hK : g.1 11801 = nI (2 ^ pC p - 1)) {H : Nat → Nat → Nat → Bool} (hH : HH p 128 H g) {y : Nat} (hy : y < pR p) :
    Sat (fA_Sky_worstOfRow (nI y) g) (fun r => Fr [] [129] w0 g r.2 ∧ r.1 = nI (wr p H y)) := by
  have h1 := hw.c
  unfold fA_Sky_worstOfRow
  refine (lastA hw hP hK hH hy).bind ?_
  rintro ⟨r1, g1⟩ ⟨F1, hr⟩
  have P1 := hP.fr F1 (by simp) (by simp)
  dsimp only at hr F1 ⊢
  rcases hr with ⟨rfl, hlu⟩ | ⟨rfl, x0, hx0, e0⟩
  · rw [if_neg (show ¬ nI 1 = (0 : Int32) from i10), nl, nI_mul, bv_eq, P1.1.2.2.2.1, nl, nI_add, nI_sub (by omega), ag_nI (by omega) (by decide)]
    obtain ⟨b, hb⟩ : ∃ b, b = fun x => ub p H y x := ⟨_, rfl⟩
    have hp : ∀ x, Per (pY p) (b x) := fun x => by rw [hb]; exact ub_per p H y x
    have hz : ∀ x, x < pC p → ∃ z, z < pY p ∧ b x z = false := by
      intro x hx
      have l := (hlu x hx).1
      refine ⟨pY p - 1 - lu p H y x, by omega, ?_⟩
      have := (fi_all (fun n => H (pY p - 1 - n) y x) (pY p)).2.2 l
      rw [hb]
      show (!H ((pY p - 1 - lu p H y x) % pY p) y x) = false
      rw [Nat.mod_eq_of_lt (by omega)]
      have h2 : H (pY p - 1 - lu p H y x) y x = true := this
      rw [h2]
      rfl
    have hnow : ∀ t, t < pY p → mk (H t y) (pC p) = mk (fun x => !b x t) (pC p) := by
      intro t ht
      apply mk_cong
      intro x _
      rw [hb]
      show H t y x = !(!H (t % pY p) y x)
      rw [Nat.mod_eq_of_lt ht, Bool.not_not]
    have e0 : g1.2.1 128 (y * 240 + pY p - 1) = nI (mk (fun x => !b x (0 + pY p - 1)) (pC p)) := by
      rw [show y * 240 + pY p - 1 = y * 240 + (pY p - 1) by omega, (hH.fr F1 (by simp)) (pY p - 1) y (by omega) hy, hnow _ (by omega), Nat.zero_add]
    rw [e0]
    refine Sat.lp (fun t s => ∃ W g', s = (nI (mk (fun x => !b x (t + pY p - 1)) (pC p)), nI W, nI t, g') ∧ W ≤ pY p ∧ Fr [] [129] w0 g g' ∧ (∀ x, x < pC p → b x (t + pY p - 1) = true → g'.2.1 129 x = nI t - nI (bk (b x) (pY p) t)) ∧ (∀ x t', x < pC p → t' < t → b x (t' + pY p - 1) = true → b x t' = false → bk (b x) (pY p) t' ≤ W) ∧ (W = 0 ∨ ∃ x t', x < pC p ∧ t' < pY p ∧ b x (t' + pY p - 1) = true ∧ b x t' = false ∧ W = bk (b x) (pY p) t')) (pY p) (by omega) ⟨0, g1, rfl, Nat.zero_le _, F1, fun x hx _ => ?_, fun x t' _ hl => by omega, Or.inl rfl⟩ ?_ ?_
    · rw [(hlu x hx).2, hb]
      show _ = nI 0 - nI (bk (ub p H y x) (pY p) 0)
      rw [lu_bk]
    · rintro rec t _ ht ⟨W, g2, rfl, hW, F2, I2, J2, K2⟩ hrec
      have P2 := hP.fr F2 (by simp) (by simp)
      simp only []
      rw [P2.1.2.2.2.1, if_neg (nI_ge ht (by omega)), nI_add, ag_nI (by omega) (by decide), (hH.fr F2 (by simp)) t y ht hy, hnow t ht, mk_xor, bv_eq]
      obtain ⟨m0, hm0⟩ : ∃ m0, m0 = mk (fun x => (!b x (t + pY p - 1)) ^^ (!b x t)) (pC p) := ⟨_, rfl⟩
      have hm24 : m0 < 2 ^ 24 := by rw [hm0]; exact Nat.lt_of_lt_of_le (mk_lt _ _) (Nat.pow_le_pow_right (by decide) (by omega))
      have pl := pc_le hm24 (by decide)
      have hmb : ∀ x, m0.testBit x = true ↔ x < pC p ∧ b x (t + pY p - 1) ≠ b x t := by
        intro x
        rw [hm0, mk_bit]
        by_cases hx : x < pC p
        · simp only [hx, decide_true, Bool.true_and, true_and]
          cases b x (t + pY p - 1) <;> cases b x t <;> decide
        · simp [hx]
      rw [← hm0, bitCount_eq (Nat.lt_trans hm24 (by decide)), Option.bind_some]
      refine Sat.lp (fun j s => ∃ V m g', s = (nI V, nI m, nI (pc m0 - j), g') ∧ m < 2 ^ 24 ∧ pc m = pc m0 - j ∧ (∀ x, m.testBit x = true → m0.testBit x = true) ∧ V ≤ pY p ∧ W ≤ V ∧ Fr [] [129] w0 g g' ∧ (∀ x, x < pC p → g'.2.1 129 x = if m0.testBit x = true ∧ m.testBit x = false ∧ b x t = true then nI t else g2.2.1 129 x) ∧ (∀ x, m0.testBit x = true → m.testBit x = false → b x t = false → bk (b x) (pY p) t ≤ V) ∧ (V = 0 ∨ ∃ x t', x < pC p ∧ t' < pY p ∧ b x (t' + pY p - 1) = true ∧ b x t' = false ∧ V = bk (b x) (pY p) t')) (pc m0) (by omega) ⟨W, m0, g2, rfl, hm24, rfl, fun x hx => hx, hW, Nat.le_refl _, F2, fun x hx => ?_, fun x h2 h3 => by rw [h2] at h3; exact absurd h3 (by decide), K2⟩ ?_ ?_
      · rw [if_neg]
        rintro ⟨h2, h3, _⟩
        rw [h2] at h3
        exact absurd h3 (by decide)
      · rintro rec2 j _ hj ⟨V, m, g3, rfl, m1', m2', m3, hV, hWV, F3, I3, J3, K3⟩ hrec2
        obtain ⟨c, hc, _, hlow⟩ := pc_pos (m := m) (by omega)
        have hc0 := m3 c hc
        obtain ⟨hcC, hne⟩ := (hmb c).mp hc0
        have rl := rest_low hc hlow m1'
        have mkb : mk (fun x => !b x t) (pC p) < 2 ^ 31 := mk_lt31 (by omega)
        have epc : pc (m &&& (m - 1)) = pc m0 - (j + 1) := by
          have q := rl.2.2.2
          clear K3 K2 J3 J2 I3 I2
          omega
        simp only []
        simp only [nl]
        rw [if_neg (show ¬ nI (pc m0 - j) ≤ nI 0 from nI_ge (by omega) (by omega)), ntz_eq hc hlow (by omega), Option.bind_some, show nI m - nI 1 = nI m - 1 from rfl, rl.1, bv_eq, lj_eq, n_31 (k := c) (by omega), n_shr mkb (by omega), n_and, n_bit, mk_bit, n_m1 (by omega)]
        simp only [hcC, decide_true, Bool.true_and]
        have np : ∀ x, (m &&& (m - 1)).testBit x = false ↔ (x = c ∨ m.testBit x = false) := by
          intro x
          rw [rl.2.2.1]
          by_cases e : x = c
          · simp [e]
          · simp [e]
        cases hbt : b c t
        · -- seen now: the gap ends
          have hbp : b c (t + pY p - 1) = true := by
            cases h : b c (t + pY p - 1)
            · exact absurd (h.trans hbt.symm) hne
            · rfl
          have hs : g3.2.1 129 c = nI t - nI (bk (b c) (pY p) t) := by
            rw [I3 c hcC, if_neg (by rintro ⟨_, h3, _⟩; rw [hc] at h3; exact absurd h3 (by decide))]
            exact I2 c hcC hbp
          have lb := bk_le (b c) (pY p) t
          rw [if_neg (by simp; decide), ag_nI (by omega) (by decide), hs, n_back, ite_ltn (by omega) (by omega), bv_eq]
          have ev : (if V < bk (b c) (pY p) t then nI (bk (b c) (pY p) t) else nI V) = nI (if V < bk (b c) (pY p) t then bk (b c) (pY p) t else V) := by split <;> rfl
          rw [ev]
          refine hrec2 _ ⟨if V < bk (b c) (pY p) t then bk (b c) (pY p) t else V, m &&& (m - 1), g3, ?_, rl.2.1, epc, fun x hx => ?_, by clear K3 K2; split <;> omega, by clear K3 K2; split <;> omega, F3, fun x hx => ?_, fun x hx1 hx2 hx3 => ?_, ?_⟩
          · rw [show pc m0 - (j + 1) = pc m0 - j - 1 by omega]
          · rw [rl.2.2.1] at hx
            exact m3 x (by simp at hx; exact hx.2)
          · rw [I3 x hx]
            by_cases e : x = c
            · subst e
              rw [if_neg (by rw [hbt]; simp), if_neg (by rw [hbt]; simp)]
            · have : (m &&& (m - 1)).testBit x = m.testBit x := by rw [rl.2.2.1]; simp [e]
              rw [this]
          · by_cases e : x = c
            · subst e
              split <;> omega
            · have := J3 x hx1 (by rcases (np x).mp hx2 with z | z; exact absurd z e; exact z) hx3
              split <;> omega
          · by_cases l : V < bk (b c) (pY p) t
            · rw [if_pos l]
              exact Or.inr ⟨c, t, hcC, ht, hbp, hbt, rfl⟩
            · rw [if_neg l]
              exact K3
        · -- unseen now: a gap begins
          rw [if_pos (by simp), ck_nI (by omega) (by decide), nI_clamp (by omega), bv_eq]
          refine hrec2 _ ⟨V, m &&& (m - 1), sA g3 129 c (nI t), ?_, rl.2.1, epc, fun x hx => ?_, hV, hWV, F3.sA (by simp), fun x hx => ?_, fun x hx1 hx2 hx3 => ?_, K3⟩
          · rw [show pc m0 - (j + 1) = pc m0 - j - 1 by omega]
          · rw [rl.2.2.1] at hx
            exact m3 x (by simp at hx; exact hx.2)
          · rw [sA_21, if_pos rfl]
            by_cases e : x = c
            · subst e
              rw [upd_self, if_pos ⟨hc0, (np x).mpr (Or.inl rfl), hbt⟩]
            · have : (m &&& (m - 1)).testBit x = m.testBit x := by rw [rl.2.2.1]; simp [e]
              rw [upd_ne _ _ e, I3 x hx, this]
          · by_cases e : x = c
            · subst e
              rw [hbt] at hx3
              exact absurd hx3 (by decide)
            · exact J3 x hx1 (by rcases (np x).mp hx2 with z | z; exact absurd z e; exact z) hx3
      · rintro rec2 _ ⟨V, m, g3, rfl, m1', m2', m3, hV, hWV, F3, I3, J3, K3⟩
        have mz : m = 0 := pc_zero m1' (by omega)
        subst mz
        simp only []
        rw [Nat.sub_self, if_pos (show nI 0 ≤ (0 : Int32) from nI_le (b := 0) (Nat.le_refl _) (by decide)), nI_add]
        have eadd : ∀ x, b x (t + 1 + pY p - 1) = b x t := fun x => by rw [show t + 1 + pY p - 1 = t + pY p by omega, (hp x).add]
        refine hrec _ ⟨V, g3, ?_, hV, F3, fun x hx hbx => ?_, fun x t' hx hl h2 h3 => ?_, K3⟩
        · rw [mk_cong (b := fun x => !b x (t + 1 + pY p - 1)) (b' := fun x => !b x t) (fun x _ => by rw [eadd])]
        · rw [eadd] at hbx
          obtain ⟨z, hz1, hz2⟩ := hz x hx
          rw [I3 x hx, bk_step (hp x) hz1 hz2 hbx]
          by_cases hbp : b x (t + pY p - 1) = true
          · have : ¬ m0.testBit x = true := fun hm => ((hmb x).mp hm).2 (hbp.trans hbx.symm)
            rw [if_neg (fun z => this z.1), I2 x hx hbp, n_both]
          · have hbf : b x (t + pY p - 1) = false := by
              cases h : b x (t + pY p - 1)
              · rfl
              · exact absurd h hbp
            rw [if_pos ⟨(hmb x).mpr ⟨hx, by rw [hbf, hbx]; decide⟩, Nat.zero_testBit x, hbx⟩, bk_zero (by omega) hbf, n_both]
            simp [nI_0]
        · by_cases e : t' = t
          · subst e
            refine J3 x ((hmb x).mpr ⟨hx, by rw [h2, h3]; decide⟩) (Nat.zero_testBit x) h3
          · exact Nat.le_trans (J2 x t' hx (by omega) h2 h3) hWV
    · rintro rec _ ⟨W, g2, rfl, hW, F2, I2, J2, K2⟩
      have P2 := hP.fr F2 (by simp) (by simp)
      simp only []
      rw [P2.1.2.2.2.1, if_pos (nI_le (Nat.le_refl _) (by omega))]
      refine Sat.of ⟨F2, ?_⟩
      show nI W = nI (wr p H y)
      congr 1
      have a1 : W ≤ wr p H y := by
        rcases K2 with e | ⟨x, t', hx, ht', h2, h3, e⟩
        · omega
        · obtain ⟨z, hz1, hz2⟩ := hz x hx
          have q1 := bk_mg (hp x) hz1 hz2 h2 h3
          have q2 := mx_ge (f := fun x => mg (ub p H y x) (pY p) (pY p)) hx
          rw [hb] at q1 e
          unfold wr
          exact Nat.le_trans (Nat.le_of_eq e) (Nat.le_trans q1 q2)
      have a2 : wr p H y ≤ W := by
        unfold wr
        apply mx_le
        intro x hx
        obtain ⟨z, hz1, hz2⟩ := hz x hx
        have q := mg_bk (hp x) hz1 hz2
        have eb : mg (ub p H y x) (pY p) (pY p) = mg (b x) (pY p) (pY p) := by rw [hb]
        rw [eb]
        rcases q with e | ⟨t', ht', h2, h3, e⟩
        · omega
        · rw [← e]
          exact J2 x t' hx ht' h2 h3
      omega
  · rw [if_pos (show nI 0 = (0 : Int32) from rfl), P1.1.2.2.2.1]
    refine Sat.of ⟨F1, ?_⟩
    show nI (pY p) = nI (wr p H y)
    congr 1
    have hall : ∀ t, t < pY p → ub p H y x0 t = true := by
      intro t ht
      have := (fi_all (fun n => H (pY p - 1 - n) y x0) (pY p)).2.1 (pY p - 1 - t) (by unfold lu at e0; omega)
      unfold ub
      rw [Nat.mod_eq_of_lt ht]
      have h2 : H (pY p - 1 - (pY p - 1 - t)) y x0 = false := this
      rw [show pY p - 1 - (pY p - 1 - t) = t by omega] at h2
      rw [h2]
      rfl
    have e1 := (mg_all (ub_per p H y x0) (by omega)).mpr hall
    have q2 := mx_ge (f := fun x => mg (ub p H y x) (pY p) (pY p)) hx0
    have q3 := wr_le p H y
    unfold wr at q3 ⊢
    have q4 : mg (ub p H y x0) (pY p) (pY p) ≤ mx (fun x => mg (ub p H y x) (pY p) (pY p)) (pC p) := q2
    omega
