/-! THE CALLS: phase, reach, node, seed, end, feed, undo -/
theorem turnA {p : Pl} (hw : WP p) {g : G} (hP : PA p g) {c : Nat} (hc : c < pK p) : fA_Plan_turnOf_2 (nI c) g = some (nI (tu p (hm p c))) := by
  have h1 := hw.c
  have h2 := hw.h hc
  unfold fA_Plan_turnOf_2
  rw [ag_nI (by omega) (by decide), (hP.2.2.1 c hc).1, ag_nI (by omega) (by decide), (hP.2.1 _ h2).2.1]
theorem c_phase {p : Pl} {f : Fl} {gA gB : G} (h : RS p f gA gB) (hA : CA p f gA) (hB : CB p f gB) (a b : Int32) : Eq2 (fA_D_phase a b gA) (fB_M_phase a b gB) := by
  have hl := h.lt
  have no := no2 h hA hB (k := 3) (by decide)
  unfold fA_D_phase fB_M_phase
  by_cases ha : rg (pK p) a
  · obtain ⟨c, hc, rfl⟩ := ha
    have hw := h.wp (by omega)
    have w := h.2.2.2.2.2.2.1.2 c hc
    have tq := hw.q (hw.h hc)
    have e29 : gA.2.1 29 c = nI (fph f c) := (h.2.2.2.2.1.2.2 c hc).1
    rw [craftA_t h.2.2.1 hc (by omega), craftB_t h.2.2.2.1 hc (by omega), Option.bind_some, Option.bind_some, lj_eq, lj_eq, if_neg i10, if_neg i10, turnA hw h.2.2.1 hc, Option.bind_some, turnB hw h.2.2.2.1 hc, Option.bind_some, ag_nI (by omega) (by decide), e29, show (12 : Int32) + nI c = nI (12 + c) from nI_add 12 c, ag_nI (by omega) (by decide), (h.2.2.2.2.2.1.2 c hc).2.1]
    by_cases hb : rg (tu p (hm p c)) b
    · obtain ⟨v, hv, rfl⟩ := hb
      rw [A_t hv (by omega), inB_t hv (by omega) rfl, Option.bind_some, if_neg i10, ite_eqn (by omega) (by omega), ite_eqn (by omega) (by omega)]
      by_cases z : fph f c = v
      · rw [if_pos z, if_pos z]
        exact no
      · obtain ⟨gA', gB', ea, eb, R', S', x1, x2⟩ := begin2 h hw hA
        rw [if_neg z, if_neg z, ea, Option.bind_some, eb, Option.bind_some, ck_nI (by omega) (by decide), nI_clamp (by omega), bv_eq, ck_nI (by omega) (by decide), nI_clamp (by omega), bv_eq]
        exact ⟨_, _, _, rfl, rfl, (phase2 R' S' x1 x2 hc hv).rel⟩
    · rw [A_f hb, inB_f hb (by omega) rfl, Option.bind_some, if_pos i00]
      exact no
  · rw [craftA_f h.2.2.1 ha, craftB_f h.2.2.2.1 ha (by omega), Option.bind_some, Option.bind_some, lj_eq, lj_eq, if_pos i00, if_pos i00]
    exact no
theorem c_reach {p : Pl} {f : Fl} {gA gB : G} (h : RS p f gA gB) (hA : CA p f gA) (hB : CB p f gB) (a b : Int32) : Eq2 (fA_D_reach a b gA) (fB_M_reach a b gB) := by
  have hl := h.lt
  have no := no2 h hA hB (k := 3) (by decide)
  unfold fA_D_reach fB_M_reach
  by_cases ha : rg (pK p) a
  · obtain ⟨c, hc, rfl⟩ := ha
    have hw := h.wp (by omega)
    have w := h.2.2.2.2.2.2.1.2 c hc
    have e30 : gA.2.1 30 c = nI (frc f c) := (h.2.2.2.2.1.2.2 c hc).2
    rw [craftA_t h.2.2.1 hc (by omega), craftB_t h.2.2.2.1 hc (by omega), Option.bind_some, Option.bind_some, lj_eq, lj_eq, if_neg i10, if_neg i10, ag_nI (by omega) (by decide), e30, show (20 : Int32) + nI c = nI (20 + c) from nI_add 20 c, ag_nI (by omega) (by decide), (h.2.2.2.2.2.1.2 c hc).2.2]
    by_cases hb : rg 13 b
    · obtain ⟨v, hv, rfl⟩ := hb
      rw [if_neg (nI_pos (by omega)), show (12 : Int32) = nI 12 from rfl, if_neg (nI_nlt (by omega) (by decide)), inB_t hv (by decide) (by decide), Option.bind_some, if_neg i10, ite_eqn (by omega) (by omega), ite_eqn (by omega) (by omega)]
      by_cases z : frc f c = v
      · rw [if_pos z, if_pos z]
        exact no
      · obtain ⟨gA', gB', ea, eb, R', S', x1, x2⟩ := begin2 h hw hA
        rw [if_neg z, if_neg z, ea, Option.bind_some, eb, Option.bind_some, ck_nI (by omega) (by decide), nI_clamp (by omega), bv_eq, ck_nI (by omega) (by decide), nI_clamp (by omega), bv_eq]
        exact ⟨_, _, _, rfl, rfl, (reach2 R' S' x1 x2 hc (by omega)).rel⟩
    · rw [inB_f hb (by decide) (by decide), Option.bind_some, if_pos i00]
      by_cases l : b < 0
      · rw [if_pos l]
        exact no
      · rw [if_neg l]
        obtain ⟨j, hj, rfl⟩ := nI_of l
        have : 12 < j := by
          apply Classical.byContradiction
          intro hl
          exact hb ⟨j, by omega, rfl⟩
        rw [show (12 : Int32) = nI 12 from rfl, if_pos (nI_lt this hj)]
        exact no
  · rw [craftA_f h.2.2.1 ha, craftB_f h.2.2.2.1 ha (by omega), Option.bind_some, Option.bind_some, lj_eq, lj_eq, if_pos i00, if_pos i00]
    exact no
theorem c_node {p : Pl} {f : Fl} {gA gB : G} (h : RS p f gA gB) (hA : CA p f gA) (hB : CB p f gB) (a b : Int32) : Eq2 (fA_D_node a b gA) (fB_M_node a b gB) := by
  have hl := h.lt
  have no := no2 h hA hB (k := 3) (by decide)
  unfold fA_D_node fB_M_node
  by_cases ha : rg (pP p) a
  · obtain ⟨c, hc, rfl⟩ := ha
    have hw := h.wp (by omega)
    have w := h.2.2.2.2.2.2.1.1 c hc
    have e28 : gA.2.1 28 c = nI (fnd f c) := h.2.2.2.2.1.2.1 c hc
    have z0' : (0 : Int32) + nI c = nI c := by rw [nl, nI_add, Nat.zero_add]
    rw [planeA_t h.2.2.1 hc (by omega), planeB_t h.2.2.2.1 hc (by omega), Option.bind_some, Option.bind_some, lj_eq, lj_eq, if_neg i10, if_neg i10, h.2.2.1.1.1, h.2.2.2.1.1.1, ag_nI (by omega) (by decide), e28, z0', ag_nI (by omega) (by decide), h.2.2.2.2.2.1.1 c hc]
    by_cases hb : rg (pC p) b
    · obtain ⟨v, hv, rfl⟩ := hb
      rw [A_t hv (by omega), inB_t hv (by omega) rfl, Option.bind_some, if_neg i10, ite_eqn (by omega) (by omega), ite_eqn (by omega) (by omega)]
      by_cases z : fnd f c = v
      · rw [if_pos z, if_pos z]
        exact no
      · obtain ⟨gA', gB', ea, eb, R', S', x1, x2⟩ := begin2 h hw hA
        rw [if_neg z, if_neg z, ea, Option.bind_some, eb, Option.bind_some, ck_nI (by omega) (by decide), nI_clamp (by omega), bv_eq, ck_nI (by omega) (by decide), bv_eq]
        exact ⟨_, _, _, rfl, rfl, (node2 R' S' x1 x2 hc hv).rel⟩
    · rw [A_f hb, inB_f hb (by omega) rfl, Option.bind_some, if_pos i00]
      exact no
  · rw [planeA_f h.2.2.1 ha, planeB_f h.2.2.2.1 ha (by omega), Option.bind_some, Option.bind_some, lj_eq, lj_eq, if_pos i00, if_pos i00]
    exact no
theorem c_seed {p : Pl} {f : Fl} {gA gB : G} (h : RS p f gA gB) (hA : CA p f gA) (hB : CB p f gB) (a : Int32) : Eq2 (fA_D_seed a gA) (fB_M_seed a gB) := by
  have no := no2 h hA hB (k := 5) (by decide)
  unfold fA_D_seed fB_M_seed
  by_cases l : a < 0
  · have l2 : ¬ (0 : Int32) ≤ a := by
      intro z
      rw [Int32.le_iff_toInt_le] at z
      rw [Int32.lt_iff_toInt_lt] at l
      omega
    rw [if_neg l2, if_neg l2]
    exact no
  · obtain ⟨s, hs, rfl⟩ := nI_of l
    have l2 : (0 : Int32) ≤ nI s := nI_pos' hs
    rw [if_pos l2, if_pos l2, bv_eq, bv_eq]
    have FA' : Fr [] [] (true, false, false) gA (sD gA (nI s).toInt64) := Fr.rf.sD rfl
    have FB' : Fr [62] [] w0 gB (sS gB 62 (nI s)) := Fr.rf.sS (by simp)
    refine ⟨_, _, _, rfl, rfl, p, f, ?_, hA.fr FA' (by simp) (by simp), hB.fr FB' (by simp) (by simp)⟩
    obtain ⟨r1, r2, r3, r4, r5, r6, r7, r8, r9, r10, r11, r12, r13, r14, r15, r16⟩ := h
    exact ⟨r1, r2, r3, r4.fr FB' (by simp) (by simp), r5, r6, r7, r8, r9, r10, r11, ⟨s, hs, rfl, rfl⟩, r13, r14, r15, r16⟩
theorem c_end {p : Pl} {f : Fl} {gA gB : G} (h : RS p f gA gB) (hA : CA p f gA) (hB : CB p f gB) (a : Int32) : Eq2 (fA_D_end a gA) (fB_M_end a gB) := by
  have no := no2 h hA hB (k := 0) (by decide)
  obtain ⟨n, hn, e1, e2, e3⟩ := h.2.2.2.2.2.2.2.1
  unfold fA_D_end fB_M_end fA_Tape_size
  rw [lj_eq, lj_eq, Option.bind_some, e1, e2]
  by_cases ha : rg (n + 1) a
  · obtain ⟨j, hj, rfl⟩ := ha
    unfold fA_Tape_cutTo
    rw [e1, if_neg (nI_pos (by omega)), if_neg (nI_pos (by omega)), if_neg (nI_pos (by omega)), if_pos (nI_le (by omega) (by omega)), if_pos (nI_le (by omega) (by omega)), if_neg (nI_nlt (by omega) (by omega)), bv_eq, bv_eq, Option.bind_some]
    have FA' : Fr [101] [] w0 gA (sS gA 101 (nI j)) := Fr.rf.sS (by simp)
    have FB' : Fr [33] [] w0 gB (sS gB 33 (nI j)) := Fr.rf.sS (by simp)
    refine ⟨_, _, _, rfl, rfl, p, f, ?_, hA.fr FA' (by simp) (by simp), hB.fr FB' (by simp) (by simp)⟩
    obtain ⟨r1, r2, r3, r4, r5, r6, r7, r8, r9, r10, r11, r12, r13, r14, r15, r16⟩ := h
    exact ⟨r1, r2, r3.fr FA' (by simp) (by simp), r4.fr FB' (by simp) (by simp), r5, r6, r7, ⟨j, by omega, rfl, rfl, fun i hi => e3 i (by omega)⟩, r9, r10, r11, r12, r13.fr FA' FB' (by simp) (by simp) (by simp), r14, r15, r16⟩
  · have hh : a < 0 ∨ ¬ a ≤ nI n := by
      by_cases l : a < 0
      · exact Or.inl l
      · obtain ⟨j, hj, rfl⟩ := nI_of l
        refine Or.inr (nI_ge ?_ hj)
        apply Classical.byContradiction
        intro hl
        exact ha ⟨j, by omega, rfl⟩
    rcases hh with l | l
    · rw [if_pos l, if_pos l]
      exact no
    · rw [if_neg l, if_neg l]
      split <;> exact no
/-- bytes of a number -/
theorem byte_eq (v : Int32) {k : Nat} (hk : k ≤ 24) : ((v.toUInt32 >>> ((nI k).toUInt32 &&& (nI 31).toUInt32)).toInt32) &&& nI 255 = (v >>> (nI k &&& nI 31)) &&& nI 255 ∧ ∃ w, w < 256 ∧ (v >>> (nI k &&& nI 31)) &&& nI 255 = nI w := by
  have e1 : ((v.toUInt32 >>> ((nI k).toUInt32 &&& (nI 31).toUInt32)).toInt32) &&& nI 255 = nI ((v.toBitVec.toNat >>> k) &&& 255) := by
    conv => lhs; rw [n_all v]
    rw [n_ushr v.toBitVec.isLt (by omega), n_and]
  have e2 : ((v.toUInt32 >>> ((nI k).toUInt32 &&& (nI 31).toUInt32)).toInt32) &&& nI 255 = (v >>> (nI k &&& nI 31)) &&& nI 255 := by
    rw [e1]
    apply bit_ext
    intro i hi
    rw [Int32.toBitVec_and, BitVec.getLsbD_and, nI_bit, nI_bit, Nat.testBit_and, Nat.testBit_shiftRight, show (255 : Nat) = 2 ^ 8 - 1 from rfl, Nat.testBit_two_pow_sub_one, n_31 (by omega), Int32.toBitVec_shiftRight]
    show _ = ((v.toBitVec.sshiftRight ((nI k).toBitVec.smod 32).toNat).getLsbD i && _)
    rw [n_smod k (by omega), BitVec.getLsbD_sshiftRight]
    by_cases l : i < 8
    · have l2 : k + i < 32 := by omega
      have l3 : ¬ 32 ≤ i := by omega
      have e3 : v.toBitVec.toNat.testBit (k + i) = v.toBitVec.getLsbD (k + i) := by rw [BitVec.testBit_toNat]
      simp [l, hi, l2, l3, e3]
    · simp [l]
  refine ⟨e2, (v.toBitVec.toNat >>> k) &&& 255, ?_, by rw [← e2, e1]⟩
  exact Nat.lt_of_le_of_lt Nat.and_le_right (by decide)
def bt8 (v : Int32) (k : Nat) : Int32 := (v >>> (nI (24 - 8 * k) &&& nI 31)) &&& nI 255
theorem addA (v : Int32) {g : G} {n : Nat} (hn : n + 4 ≤ 1600) (e : g.1 101 = nI n) : Sat (fA_Tape_add v g) (fun g' => Fr [101] [2] w0 g g' ∧ g'.1 101 = nI (n + 4) ∧ (∀ j, j < n → g'.2.1 2 j = g.2.1 2 j) ∧ ∀ k, k < 4 → g'.2.1 2 (n + k) = bt8 v k) := by
  unfold fA_Tape_add
  refine Sat.lp (fun k s => ∃ g', s = ((if k < 4 then nI (24 - 8 * k) else -8), g') ∧ Fr [101] [2] w0 g g' ∧ g'.1 101 = nI (n + k) ∧ (∀ j, j < n → g'.2.1 2 j = g.2.1 2 j) ∧ ∀ j, j < k → g'.2.1 2 (n + j) = bt8 v j) 4 (by decide) ⟨g, rfl, Fr.rf, e, fun _ _ => rfl, fun j hj => by omega⟩ ?_ ?_
  · rintro rec k _ hk ⟨g1, rfl, F1, a1, a2, a3⟩ hrec
    simp only []
    rw [if_pos hk, if_neg (nI_pos (by omega)), a1, show (1600 : Int32) = nI 1600 from rfl, if_neg (nI_ge (by omega) (by decide)), ck_nI (by omega) (by decide), nI_clamp (by omega), bv_eq, bv_eq, sA_1, a1, show (nI (n + k) + 1 : Int32) = nI (n + k + 1) from nI_add _ 1]
    have eb : ((v.toUInt32 >>> ((nI (24 - 8 * k)).toUInt32 &&& Int32.toUInt32 31)).toInt32) &&& 255 = bt8 v k := (byte_eq v (by omega)).1
    rw [eb]
    refine hrec _ ⟨sS (sA g1 2 (n + k) (bt8 v k)) 101 (nI (n + k + 1)), ?_, (F1.sA (by simp)).sS (by simp), rfl, fun j hj => ?_, fun j hj => ?_⟩
    · have e8 : nI (24 - 8 * k) + -8 = if k + 1 < 4 then nI (24 - 8 * (k + 1)) else -8 := by
        have : k = 0 ∨ k = 1 ∨ k = 2 ∨ k = 3 := by omega
        rcases this with rfl | rfl | rfl | rfl <;> decide
      rw [e8]
    · show upd (g1.2.1 2) (n + k) (bt8 v k) j = _
      rw [upd_ne _ _ (by omega)]
      exact a2 j hj
    · show upd (g1.2.1 2) (n + k) (bt8 v k) (n + j) = _
      by_cases e : j = k
      · subst e
        rw [upd_self]
      · rw [upd_ne _ _ (by omega)]
        exact a3 j (by omega)
  · rintro rec _ ⟨g1, rfl, F1, a1, a2, a3⟩
    simp only []
    rw [if_neg (show ¬ 4 < 4 by decide), if_pos (show (-8 : Int32) < 0 by decide)]
    exact Sat.of ⟨F1, a1, a2, a3⟩
theorem layB (v : Int32) {g : G} {n : Nat} (hn : n + 4 ≤ 1600) (e : g.1 33 = nI n) : Sat (fB_M_lays v g) (fun g' => Fr [33] [17] w0 g g' ∧ g'.1 33 = nI (n + 4) ∧ (∀ j, j < n → g'.2.1 17 j = g.2.1 17 j) ∧ ∀ k, k < 4 → g'.2.1 17 (n + k) = bt8 v k) := by
  unfold fB_M_lays
  refine Sat.lp (fun k s => ∃ g', s = (nI k, g') ∧ Fr [33] [17] w0 g g' ∧ g'.1 33 = nI n ∧ (∀ j, j < n → g'.2.1 17 j = g.2.1 17 j) ∧ ∀ j, j < k → g'.2.1 17 (n + j) = bt8 v j) 4 (by decide) ⟨g, rfl, Fr.rf, e, fun _ _ => rfl, fun j hj => by omega⟩ ?_ ?_
  · rintro rec k _ hk ⟨g1, rfl, F1, a1, a2, a3⟩ hrec
    simp only []
    simp only [nl]
    rw [if_neg (nI_ge hk (by decide)), a1, nI_add, ck_nI (by omega) (by decide), nI_clamp (by omega), nI_mul, nI_sub (by omega), bv_eq, nI_add]
    refine hrec _ ⟨_, rfl, F1.sA (by simp), a1, fun j hj => ?_, fun j hj => ?_⟩
    · show upd (g1.2.1 17) (n + k) (bt8 v k) j = _
      rw [upd_ne _ _ (by omega)]
      exact a2 j hj
    · show upd (g1.2.1 17) (n + k) (bt8 v k) (n + j) = _
      by_cases e : j = k
      · subst e
        rw [upd_self]
      · rw [upd_ne _ _ (by omega)]
        exact a3 j (by omega)
  · rintro rec _ ⟨g1, rfl, F1, a1, a2, a3⟩
    simp only []
    simp only [nl]
    rw [if_pos (nI_le (Nat.le_refl _) (by decide)), a1, nI_add, bv_eq]
    exact Sat.of ⟨F1.sS (by simp), rfl, a2, a3⟩
theorem feed4 (v : Int32) {gA gB : G} {n : Nat} (hn : n + 4 ≤ 1600) (a1 : gA.1 101 = nI n) (b1 : gB.1 33 = nI n) (hs : ∀ i, i < n → gA.2.1 2 i = gB.2.1 17 i ∧ ∃ v, v < 256 ∧ gB.2.1 17 i = nI v) :
    ∃ gA' gB', fA_Tape_add v gA = some gA' ∧ fB_M_lays v gB = some gB' ∧ Fr [101] [2] w0 gA gA' ∧ Fr [33] [17] w0 gB gB' ∧ gA'.1 101 = nI (n + 4) ∧ gB'.1 33 = nI (n + 4) ∧ ∀ i, i < n + 4 → gA'.2.1 2 i = gB'.2.1 17 i ∧ ∃ v, v < 256 ∧ gB'.2.1 17 i = nI v := by
  obtain ⟨gA', ea, FA', x1, x2, x3⟩ := addA v hn a1
  obtain ⟨gB', eb, FB', y1, y2, y3⟩ := layB v hn b1
  refine ⟨gA', gB', ea, eb, FA', FB', x1, y1, fun i hi => ?_⟩
  by_cases l : i < n
  · rw [x2 i l, y2 i l]
    exact hs i l
  · have e : i = n + (i - n) := by omega
    rw [e, x3 _ (by omega), y3 _ (by omega)]
    exact ⟨rfl, (byte_eq v (by omega)).2⟩
theorem c_feed {p : Pl} {f : Fl} {gA gB : G} (h : RS p f gA gB) (hA : CA p f gA) (hB : CB p f gB) (a b c d e : Int32) : Eq2 (fA_D_feed a b c d e gA) (fB_M_feed a b c d e gB) := by
  have no := no3 h hA hB (k := 0) (by decide)
  obtain ⟨n, hn, e1, e2, e3⟩ := h.2.2.2.2.2.2.2.1
  unfold fA_D_feed fB_M_feed fA_Tape_size
  rw [Option.bind_some, e1, e2]
  by_cases l : n + 20 ≤ 1600
  · have l2 : nI n + 20 ≤ (1600 : Int32) := by rw [show (nI n + 20 : Int32) = nI (n + 20) from nI_add n 20]; exact nI_le (b := 1600) l (by decide)
    obtain ⟨A1, B1, p1, q1, FA1, FB1, s1, t1, u1⟩ := feed4 a (by omega) e1 e2 e3
    obtain ⟨A2, B2, p2, q2, FA2, FB2, s2, t2, u2⟩ := feed4 b (by omega) s1 t1 u1
    obtain ⟨A3, B3, p3, q3, FA3, FB3, s3, t3, u3⟩ := feed4 c (by omega) s2 t2 u2
    obtain ⟨A4, B4, p4, q4, FA4, FB4, s4, t4, u4⟩ := feed4 d (by omega) s3 t3 u3
    obtain ⟨A5, B5, p5, q5, FA5, FB5, s5, t5, u5⟩ := feed4 e (by omega) s4 t4 u4
    rw [if_pos l2, if_pos l2, p1, q1, Option.bind_some, Option.bind_some, p2, q2, Option.bind_some, Option.bind_some, p3, q3, Option.bind_some, Option.bind_some, p4, q4, Option.bind_some, Option.bind_some, p5, q5, Option.bind_some, Option.bind_some, Option.bind_some, s5, t5]
    have FA' : Fr [101] [2] w0 gA A5 := (((FA1.tr FA2 (by simp) (by simp) (by simp)).tr FA3 (by simp) (by simp) (by simp)).tr FA4 (by simp) (by simp) (by simp)).tr FA5 (by simp) (by simp) (by simp)
    have FB' : Fr [33] [17] w0 gB B5 := (((FB1.tr FB2 (by simp) (by simp) (by simp)).tr FB3 (by simp) (by simp) (by simp)).tr FB4 (by simp) (by simp) (by simp)).tr FB5 (by simp) (by simp) (by simp)
    refine ⟨_, _, _, rfl, rfl, p, f, ?_, hA.fr FA' (by simp) (by simp), hB.fr FB' (by simp) (by simp)⟩
    obtain ⟨r1, r2, r3, r4, r5, r6, r7, r8, r9, r10, r11, r12, r13, r14, r15, r16⟩ := h
    refine ⟨by rw [FB'.1 0 (by simp)]; exact r1, r2, r3.fr FA' (by simp) (by simp), r4.fr FB' (by simp) (by simp), r5.fr FA' (by simp) (by simp), r6.fr FB' (by simp), r7, ⟨n + 4 + 4 + 4 + 4 + 4, by omega, s5, t5, u5⟩, by rw [FA'.2.1 145 (by simp), FB'.2.1 18 (by simp)]; exact r9, by rw [FA'.1 15 (by simp), FA'.1 16 (by simp), FB'.1 35 (by simp), FB'.1 36 (by simp)]; exact r10, r11.fr FA' FB' (by simp), r12.fr FA' FB' ⟨rfl, by simp⟩, r13.fr FA' FB' (by simp) (by simp) (by simp), r14.fr FA' FB' (by simp) (by simp) (by simp), r15.fr FA' rfl, by rw [FB'.2.1 19 (by simp)]; exact r16⟩
  · have l2 : ¬ nI n + 20 ≤ (1600 : Int32) := by rw [show (nI n + 20 : Int32) = nI (n + 20) from nI_add n 20]; exact nI_ge (a := 1600) (by omega) (by omega)
    rw [if_neg l2, if_neg l2]
    exact no
