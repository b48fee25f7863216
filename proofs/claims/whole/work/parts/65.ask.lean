/-! THE CALLS: where they are, what they see -/
def EqA {r : Type} (a : Option (r × G)) (b : Option r) (gB : G) : Prop := ∃ x gA, a = some (x, gA) ∧ b = some x ∧ Rel gA gB
theorem CA.fr {S T : List Nat} {w : Bool × Bool × Bool} {p : Pl} {f : Fl} {g g' : G} (h : CA p f g) (hf : Fr S T w g g') (hS : 18 ∉ S ∧ 11801 ∉ S ∧ 11802 ∉ S) (hT : ∀ k ∈ T, k < 119 ∨ k = 120 ∨ k = 127 ∨ 128 < k) : CA p f g' := by
  intro hw
  obtain ⟨h1, h2⟩ := h hw
  refine ⟨h1.fr hf hS.2 (fun k m => by have := hT k m; omega), ?_⟩
  rw [hf.1 18 hS.1]
  rcases h2 with e | ⟨e, l⟩
  · exact Or.inl e
  · exact Or.inr ⟨e, l.fr hf hS.2 hT⟩
theorem LB.fr {S T : List Nat} {w : Bool × Bool × Bool} {p : Pl} {f : Fl} {g g' : G} (h : LB p f g) (hf : Fr S T w g g') (hT : 22 ∉ T) : LB p f g' := by
  unfold LB
  rw [hf.2.1 22 hT]
  exact h
theorem CB.fr {S T : List Nat} {w : Bool × Bool × Bool} {p : Pl} {f : Fl} {g g' : G} (h : CB p f g) (hf : Fr S T w g g') (hS : 47 ∉ S) (hT : 22 ∉ T) : CB p f g' := by
  intro hw
  rw [hf.1 47 hS]
  rcases h hw with e | ⟨e, l⟩
  · exact Or.inl e
  · exact Or.inr ⟨e, l.fr hf hT⟩
theorem look2 {p : Pl} {f : Fl} {gA gB : G} (h : RS p f gA gB) (hw : WP p) (hA : CA p f gA) : Sat (fA_D_look gA) (fun g' => Fr qA tA w1 gA g' ∧ RS p f g' gB ∧ CA p f g' ∧ LK p f g' ∧ PA p g' ∧ g'.1 2700 = nI (us p f)) := by
  obtain ⟨h1, h2⟩ := hA hw
  refine (lookA hw h.2.2.1 h.2.2.2.2.1 h.2.2.2.2.2.2.1 h1 h2).mono ?_
  rintro g' ⟨F, L, e⟩
  have F1 : Fr qA tA w1 gA g' := F.wd (by decide) (by decide) (by decide)
  have R1 := h.frA F1
  exact ⟨F1, R1, fun _ => ⟨L.1, Or.inr ⟨e, L⟩⟩, L, R1.2.2.1, R1.2.2.2.2.1.1⟩
theorem lays2 {p : Pl} {f : Fl} {gA gB : G} (h : RS p f gA gB) (hw : WP p) (hB : CB p f gB) : Sat (fB_M_laysSets gB) (fun g' => Fr qB tB w1 gB g' ∧ LB p f g' ∧ PB p g' ∧ FB p f g' ∧ CB p f g') := by
  refine (laysSetsB hw h.2.2.2.1 h.2.2.2.2.2.1 h.2.2.2.2.2.2.1 (hB hw)).mono ?_
  rintro g' ⟨F, L, e⟩
  have F1 : Fr qB tB w1 gB g' := F.wd (by decide) (by decide) (by decide)
  have R1 := h.frB F1
  exact ⟨F1, L, R1.2.2.2.1, R1.2.2.2.2.2.1, fun _ => Or.inr ⟨e, L⟩⟩
theorem Rel.mk2 {p : Pl} {f : Fl} {gA gB gA' gB' : G} (h : RS p f gA gB) (FA : Fr qA tA w1 gA gA') (FB : Fr qB tB w1 gB gB') (hA : CA p f gA') (hB : CB p f gB') : Rel gA' gB' := ⟨p, f, (h.frA FA).frB FB, hA, hB⟩
theorem c_spot {p : Pl} {f : Fl} {gA gB : G} (h : RS p f gA gB) (hA : CA p f gA) (hB : CB p f gB) (a b c : Int32) : EqA (fA_D_spot a b c gA) (fB_M_spot a b c gB) gB := by
  have hl := h.lt
  have r3 := h.2.2.1
  have r4 := h.2.2.2.1
  have r6 := h.2.2.2.2.2.1
  have r7 := h.2.2.2.2.2.2.1
  unfold fA_D_spot fB_M_spot
  by_cases hx : rg (pK p) a
  · obtain ⟨k, hk, rfl⟩ := hx
    have hw := h.wp (by omega)
    have h1 := hw.c
    rw [craftA_t r3 hk (by omega), craftB_t r4 hk (by omega), Option.bind_some, Option.bind_some, if_neg i10, if_neg i10]
    by_cases ht : rg 10000 b
    · obtain ⟨t, ht, rfl⟩ := ht
      have hm : t % pY p < pY p := Nat.mod_lt _ (by omega)
      rw [tickA_t h hw (by omega), tickB_t (by omega), Option.bind_some, Option.bind_some, if_neg i10, if_neg i10]
      obtain ⟨g1, e1, F1, R1, C1, L1, P1, U1⟩ := look2 h hw hA
      rw [e1, Option.bind_some, inCycleA hw P1 (by omega), Option.bind_some, Option.bind_some, columnB hw r4 r6 r7 hk (by omega), rowB hw r4 r6 r7 hk (by omega), Option.bind_some, Option.bind_some]
      unfold fA_Sky_columnOf fA_Sky_rowOf
      have v := L1.2.1 k hk _ hm
      simp only [nl]
      rw [nI_mul, nI_add, ag_nI (by omega) (by decide), ag_nI (by omega) (by decide), v.1, v.2.1, Option.bind_some, Option.bind_some, co_per hw hk, ro_per hw hk]
      have rel : Rel g1 gB := ⟨p, f, R1, C1, hB⟩
      split
      · exact ⟨_, _, rfl, rfl, rel⟩
      · split <;> exact ⟨_, _, rfl, rfl, rel⟩
    · rw [(tick_f h ht).1, (tick_f h ht).2, Option.bind_some, Option.bind_some, if_pos i00, if_pos i00]
      exact ⟨_, _, rfl, rfl, p, f, h, hA, hB⟩
  · rw [craftA_f r3 hx, craftB_f r4 hx (by omega), Option.bind_some, Option.bind_some, if_pos i00, if_pos i00]
    exact ⟨_, _, rfl, rfl, p, f, h, hA, hB⟩
theorem who_us {p : Pl} {f : Fl} {t x y c : Nat} (hc : c < pK p) (hK : pK p ≤ 8) : (who p f t x y &&& us p f).testBit c = (see p f c t x y && decide (fup f c = 1)) := by
  unfold who us
  rw [Nat.testBit_and, mk_bit, mk_bit]
  have : c < 8 := by omega
  simp [this, hc]
theorem c_sees {p : Pl} {f : Fl} {gA gB : G} (h : RS p f gA gB) (hA : CA p f gA) (hB : CB p f gB) (a b c d : Int32) : EqA (fA_D_sees a b c d gA) (fB_M_sees a b c d gB) gB := by
  have hl := h.lt
  have r3 := h.2.2.1
  have r4 := h.2.2.2.1
  have r6 := h.2.2.2.2.2.1
  have r7 := h.2.2.2.2.2.2.1
  unfold fA_D_sees fB_M_sees
  by_cases hx : rg (pK p) a
  · obtain ⟨k, hk, rfl⟩ := hx
    have hw := h.wp (by omega)
    have h1 := hw.c
    rw [craftA_t r3 hk (by omega), craftB_t r4 hk (by omega), Option.bind_some, Option.bind_some, if_neg i10, if_neg i10]
    by_cases ht : rg 10000 b
    · obtain ⟨t, ht, rfl⟩ := ht
      have hm : t % pY p < pY p := Nat.mod_lt _ (by omega)
      rw [tickA_t h hw (by omega), tickB_t (by omega), Option.bind_some, Option.bind_some, if_neg i10, if_neg i10]
      by_cases hc : rg (pC p) c ∧ rg (pR p) d
      · obtain ⟨⟨x, hx, rfl⟩, y, hy, rfl⟩ := hc
        rw [cellA_t r3 hx hy (by omega), cellB_t r4 hx hy (by omega), Option.bind_some, Option.bind_some, if_neg i10, if_neg i10]
        obtain ⟨g1, e1, F1, R1, C1, L1, P1, U1⟩ := look2 h hw hA
        have ul := us_lt p f
        rw [e1, Option.bind_some, inCycleA hw P1 (by omega), Option.bind_some, U1]
        simp only [nl]
        rw [n_31 (k := k) (by omega), n_shl _ (by omega), n_and, whoA hw P1 L1.2.1 hm hx hy, Option.bind_some, seesB hw r4 r6 r7 hk (by omega) hx hy, Option.bind_some, who_per hw]
        have rel : Rel g1 gB := ⟨p, f, R1, C1, hB⟩
        have wl : who p f t x y &&& (1 <<< k &&& us p f) < 2 ^ 31 := Nat.lt_of_le_of_lt Nat.and_le_left (Nat.lt_trans (who_lt p f t x y) (by decide))
        have key : (who p f t x y &&& (1 <<< k &&& us p f) = 0) ↔ (decide (fup f k = 1) && see p f k t x y) = false := by
          have e2 : who p f t x y &&& (1 <<< k &&& us p f) = (who p f t x y &&& us p f) &&& 1 <<< k := by
            rw [Nat.and_comm (1 <<< k), Nat.and_assoc]
          have wb := who_us (f := f) (t := t) (x := x) (y := y) hk (by omega)
          rw [e2]
          constructor
          · intro z
            have : ((who p f t x y &&& us p f) &&& 1 <<< k).testBit k = false := by rw [z, Nat.zero_testBit]
            rw [Nat.testBit_and, one_bit (by omega), wb] at this
            simp at this
            cases hs : see p f k t x y
            · simp
            · simp [this hs]
          · intro z
            apply Nat.eq_of_testBit_eq
            intro i
            rw [Nat.testBit_and, one_bit (by omega), Nat.zero_testBit]
            by_cases e : i = k
            · subst e
              rw [wb, Bool.and_comm (see p f i t x y), z]
              rfl
            · simp [e]
        rw [ite_eqn wl (by decide)]
        cases hb : (decide (fup f k = 1) && see p f k t x y)
        · rw [if_pos (key.mpr hb), if_pos z0]
          exact ⟨_, _, rfl, rfl, rel⟩
        · rw [if_neg (fun e => by rw [key.mp e] at hb; exact absurd hb (by decide)), if_neg z1]
          exact ⟨_, _, rfl, rfl, rel⟩
      · rw [cellA_f r3 hc, cellB_f r4 hc (by omega), Option.bind_some, Option.bind_some, if_pos i00, if_pos i00]
        exact ⟨_, _, rfl, rfl, p, f, h, hA, hB⟩
    · rw [(tick_f h ht).1, (tick_f h ht).2, Option.bind_some, Option.bind_some, if_pos i00, if_pos i00]
      exact ⟨_, _, rfl, rfl, p, f, h, hA, hB⟩
  · rw [craftA_f r3 hx, craftB_f r4 hx (by omega), Option.bind_some, Option.bind_some, if_pos i00, if_pos i00]
    exact ⟨_, _, rfl, rfl, p, f, h, hA, hB⟩
theorem pc_who {p : Pl} (hK : pK p ≤ 8) (f : Fl) (t x y : Nat) : pc (who p f t x y &&& us p f) = cn (fun c => decide (fup f c = 1) && see p f c t x y) (pK p) := by
  unfold who us
  rw [and_mk, pc_mk (by decide), ← cn8 hK]
  apply cn_cong
  intro i _
  cases decide (i < pK p)
  · simp
  · simp [Bool.and_comm]
/-- a tick and a cell are asked for where no desk stands -/
theorem tick_z {p : Pl} {f : Fl} {gA gB : G} (h : RS p f gA gB) (hn : ¬ WP p) (x : Int32) : fA_D_isTick x gA = some (nI 0) := by
  unfold fA_D_isTick
  rcases standsA h with ⟨w, _⟩ | ⟨_, e, _⟩
  · exact absurd w hn
  · rw [e, Option.bind_some]
    rfl
theorem RS.zc {p : Pl} {f : Fl} {gA gB : G} (h : RS p f gA gB) (hn : ¬ WP p) : ZP p := by
  rcases h.1 with ⟨w, _⟩ | ⟨z, _⟩
  · exact absurd w hn
  · exact z
theorem c_seen {p : Pl} {f : Fl} {gA gB : G} (h : RS p f gA gB) (hA : CA p f gA) (hB : CB p f gB) (a b c : Int32) : EqA (fA_D_seen a b c gA) (fB_M_seen a b c gB) gB := by
  have hl := h.lt
  have r3 := h.2.2.1
  have r4 := h.2.2.2.1
  have r6 := h.2.2.2.2.2.1
  have r7 := h.2.2.2.2.2.2.1
  have no : ∃ x gA', some ((-1 : Int32), gA) = some (x, gA') ∧ some (-1 : Int32) = some x ∧ Rel gA' gB := ⟨_, _, rfl, rfl, p, f, h, hA, hB⟩
  unfold fA_D_seen fB_M_seen
  by_cases ht : rg 10000 a
  · obtain ⟨t, ht, rfl⟩ := ht
    rw [tickB_t (by omega), Option.bind_some, if_neg i10]
    by_cases hc : rg (pC p) b ∧ rg (pR p) c
    · obtain ⟨⟨x, hx, rfl⟩, y, hy, rfl⟩ := hc
      have hw := h.wp (by omega)
      have h1 := hw.c
      have hm : t % pY p < pY p := Nat.mod_lt _ (by omega)
      rw [tickA_t h hw (by omega), Option.bind_some, if_neg i10, cellA_t r3 hx hy (by omega), cellB_t r4 hx hy (by omega), Option.bind_some, Option.bind_some, if_neg i10, if_neg i10]
      obtain ⟨g1, e1, F1, R1, C1, L1, P1, U1⟩ := look2 h hw hA
      have wl : who p f t x y &&& us p f < 2 ^ 32 := Nat.lt_of_le_of_lt Nat.and_le_left (Nat.lt_trans (who_lt p f t x y) (by decide))
      rw [e1, Option.bind_some, inCycleA hw P1 (by omega), Option.bind_some, U1, whoA hw P1 L1.2.1 hm hx hy, Option.bind_some, who_per hw, bitCount_eq wl, Option.bind_some, pc_who (by omega)]
      refine ⟨_, _, rfl, ?_, p, f, R1, C1, hB⟩
      apply Sat.eq
      refine Sat.lp (fun k s => s = (nI (cn (fun c => decide (fup f c = 1) && see p f c t x y) k), nI k)) (pK p) (by omega) rfl ?_ ?_
      · rintro rec k _ hk rfl hrec
        simp only []
        simp only [nl]
        rw [r4.1.2.2.2.2.1, if_neg (nI_ge hk (by omega)), seesB hw r4 r6 r7 hk (by omega) hx hy, Option.bind_some, lj_eq]
        cases hb : (decide (fup f k = 1) && see p f k t x y)
        · rw [if_pos z0]
          dsimp only
          rw [bv_eq, nI_add, nI_add]
          exact hrec _ (by rw [cn_f hb]; rfl)
        · rw [if_neg z1]
          dsimp only
          rw [bv_eq, nI_add, nI_add]
          exact hrec _ (by rw [cn_t hb])
      · rintro rec _ rfl
        simp only []
        rw [r4.1.2.2.2.2.1, if_pos (nI_le (Nat.le_refl _) (by omega))]
        exact Sat.of rfl
    · rw [cellB_f r4 hc (by omega), Option.bind_some, if_pos i00]
      by_cases hw : WP p
      · rw [tickA_t h hw (by omega), Option.bind_some, if_neg i10, cellA_f r3 hc, Option.bind_some, if_pos i00]
        exact no
      · rw [tick_z h hw, Option.bind_some, if_pos i00]
        exact no
  · rw [(tick_f h ht).1, (tick_f h ht).2, Option.bind_some, Option.bind_some, if_pos i00, if_pos i00]
    exact no
theorem letN {l : Nat → Nat} (hl : ∀ i, i < 6 → l i < 32) {k : Nat} (hk : k < 6) : (nI (pkN l) >>> ((25 - (5 * nI k)) &&& 31)) &&& 31 = nI (l k) := by
  have a0 := hl 0 (by decide)
  have a1 := hl 1 (by decide)
  have a2 := hl 2 (by decide)
  have a3 := hl 3 (by decide)
  have a4 := hl 4 (by decide)
  have a5 := hl 5 (by decide)
  have hp : pkN l < 2 ^ 31 := by unfold pkN; omega
  simp only [nl]
  rw [nI_mul, nI_sub (by omega), n_31 (by omega), n_shr hp (by omega), n_and, Nat.shiftRight_eq_div_pow, show (31 : Nat) = 2 ^ 5 - 1 from rfl, Nat.and_two_pow_sub_one_eq_mod]
  congr 1
  unfold pkN
  have : k = 0 ∨ k = 1 ∨ k = 2 ∨ k = 3 ∨ k = 4 ∨ k = 5 := by omega
  rcases this with rfl | rfl | rfl | rfl | rfl | rfl <;> simp only [Nat.reducePow, Nat.reduceMul, Nat.reduceSub] <;> omega
theorem c_letter {p : Pl} {f : Fl} {gA gB : G} (h : RS p f gA gB) (a b c : Int32) : Eq1 (fA_D_letter a b c gA) (fB_M_letter a b c gB) := by
  have hl := h.lt
  have r2 := h.2.1
  have r3 := h.2.2.1
  have r4 := h.2.2.2.1
  unfold fA_D_letter fB_M_letter fA_Words_letterOf
  by_cases hk : rg 6 c
  · obtain ⟨k, hk, rfl⟩ := hk
    rw [if_neg (nI_pos (by omega)), show (6 : Int32) = nI 6 from rfl, if_pos (nI_lt hk (by decide))]
    by_cases ha : rg 3 a
    · obtain ⟨w, hw, rfl⟩ := ha
      rw [inB_t hw (by decide) (by decide), Option.bind_some, if_neg i10, inB_t hk (by decide) (by decide), Option.bind_some, if_neg i10]
      simp only [lj_eq]
      have : w = 0 ∨ w = 1 ∨ w = 2 := by omega
      rcases this with rfl | rfl | rfl
      · rw [if_pos i00, if_pos i00, if_pos i00, r4.1.2.2.2.1]
        by_cases hq : rg (pP p) b
        · obtain ⟨q, hq, rfl⟩ := hq
          rw [planeA_t r3 hq (by omega), Option.bind_some, if_neg i10, inB_t hq (by omega) rfl, Option.bind_some, if_neg i10, ag_nI (by omega) (by decide), (r3.2.1 q hq).2.2, Option.bind_some, letN (fun i hi => r2 q i (by omega) hi) hk]
          simp only [nl]
          rw [nI_add, nI_mul, nI_add, ag_nI (by omega) (by decide), Nat.zero_add, r4.2.2.2.2 q k (by omega) hk]
          exact ⟨_, rfl, rfl⟩
        · rw [planeA_f r3 hq, Option.bind_some, if_pos i00, inB_f hq (by omega) rfl, Option.bind_some, if_pos i00, if_neg (by decide), if_neg (by decide)]
          exact ⟨_, rfl, rfl⟩
      · rw [if_neg i10, if_neg i10, if_neg i10, if_pos (show nI 1 = 1 from rfl), if_pos (show nI 1 = 1 from rfl), if_pos (show nI 1 = 1 from rfl), r4.1.2.2.2.2.1]
        by_cases hq : rg (pK p) b
        · obtain ⟨q, hq, rfl⟩ := hq
          rw [craftA_t r3 hq (by omega), Option.bind_some, if_neg i10, inB_t hq (by omega) rfl, Option.bind_some, if_neg i10, ag_nI (by omega) (by decide), (r3.2.2.1 q hq).2, Option.bind_some, letN (fun i hi => r2 (4 + q) i (by omega) hi) hk]
          simp only [nl]
          rw [nI_add, nI_mul, nI_add, ag_nI (by omega) (by decide), r4.2.2.2.2 (4 + q) k (by omega) hk]
          exact ⟨_, rfl, rfl⟩
        · rw [craftA_f r3 hq, Option.bind_some, if_pos i00, inB_f hq (by omega) rfl, Option.bind_some, if_pos i00, if_neg (by decide)]
          exact ⟨_, rfl, rfl⟩
      · simp only [if_neg (show ¬ nI 2 = (0 : Int32) by decide), if_neg (show ¬ nI 2 = (1 : Int32) by decide), if_pos (show nI 2 = (2 : Int32) from rfl)]
        rw [r4.1.2.2.2.2.2.1]
        by_cases hq : rg (pS p) b
        · obtain ⟨q, hq, rfl⟩ := hq
          rw [siteA_t r3 hq (by omega), Option.bind_some, if_neg i10, inB_t hq (by omega) rfl, Option.bind_some, if_neg i10, ag_nI (by omega) (by decide), (r3.2.2.2.1 q hq).2.2.2.2, Option.bind_some, letN (fun i hi => r2 (12 + q) i (by omega) hi) hk]
          simp only [nl]
          rw [nI_add, nI_mul, nI_add, ag_nI (by omega) (by decide), r4.2.2.2.2 (12 + q) k (by omega) hk]
          exact ⟨_, rfl, rfl⟩
        · rw [siteA_f r3 hq, Option.bind_some, if_pos i00, inB_f hq (by omega) rfl, Option.bind_some, if_pos i00]
          exact ⟨_, rfl, rfl⟩
    · rw [inB_f ha (by decide) (by decide), Option.bind_some, if_pos i00]
      simp only [lj_eq]
      rw [if_neg (show ¬ a = 0 from fun e => ha ⟨0, by decide, e⟩), if_neg (show ¬ a = 1 from fun e => ha ⟨1, by decide, e⟩), if_neg (show ¬ a = 2 from fun e => ha ⟨2, by decide, e⟩)]
      exact ⟨_, rfl, rfl⟩
  · have eA : ∀ z : Option Int32, (if c < 0 then some (-1) else if c < 6 then z else some (-1)) = some (-1) := by
      intro z
      by_cases l : c < 0
      · rw [if_pos l]
      · rw [if_neg l]
        obtain ⟨j, hj, rfl⟩ := nI_of l
        have : 6 ≤ j := by
          apply Classical.byContradiction
          intro hl
          exact hk ⟨j, by omega, rfl⟩
        rw [show (6 : Int32) = nI 6 from rfl, if_neg (nI_nlt this hj)]
    rw [eA, inB_f hk (by decide) (by decide)]
    by_cases ha : rg 3 a
    · obtain ⟨w, hw, rfl⟩ := ha
      rw [inB_t hw (by decide) (by decide)]
      exact ⟨_, rfl, rfl⟩
    · rw [inB_f ha (by decide) (by decide)]
      exact ⟨_, rfl, rfl⟩
