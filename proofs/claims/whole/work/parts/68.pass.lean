/-! THE CALLS: pass, meets, depth, has -/
theorem inM2 (c : Int32) (g : G) : fB_M_isIn c 0 ((-1) - 1) g = some (nI 0) := by
  unfold fB_M_isIn
  by_cases l : c < 0
  · rw [if_pos l]; rfl
  · rw [if_neg l]
    obtain ⟨j, hj, rfl⟩ := nI_of l
    have : (-1 - 1 : Int32) < nI j := by
      rw [Int32.lt_iff_toInt_lt, nI_toInt hj]
      have : (-1 - 1 : Int32).toInt = -2 := by decide
      omega
    rw [if_pos this]; rfl
theorem passB {p : Pl} {f : Fl} {gA gB g : G} (h : RS p f gA gB) (hw : WP p) (F0 : Fr qB tB w1 gB g) (C0 : CB p f g) (L0 : LB p f g) {x y : Nat} (hx : x < pC p) (hy : y < pR p) {a : Int32} {kk : Nat} (hk : KK p a kk) {k : Nat} (hn : k < cn (rn kk (kd p f (us p f) x y) (pY p)) (pY p * 9)) (d : Int32) :
    ∃ q gB', q < pY p * 9 ∧ rn kk (kd p f (us p f) x y) (pY p) q = true ∧ cn (rn kk (kd p f (us p f) x y) (pY p)) q = k ∧ Fr qB tB w1 gB gB' ∧ CB p f gB' ∧
    (Lp (α := Int32 × Int32 × Int32 × G) (fun rec4 s4 => (if nI k < s4.2.2.1 then (if d = 0 then some (s4.2.2.2.1 51, s4.2.2.2) else (if d = 1 then some (s4.2.2.2.1 52, s4.2.2.2) else some (s4.2.2.2.1 53, s4.2.2.2))) else Option.bind (fB_M_findsPass (((s4.2.2.2.1 1) * nI y) + nI x) a s4.1 s4.2.1 s4.2.2.2) fun x5 => (if x5.1 = 0 then some ((-1), x5.2) else bv (x5.2.1 51) fun x6 => bv ((x5.2.1 53) + 1) fun x7 => rec4 (x6, x7, s4.2.2.1 + 1, x5.2)))) FU (0, 0, 0, g)) =
      (if d = 0 then some (nI (q / 9), gB') else (if d = 1 then some (nI (ln (kd p f (us p f) x y (q % 9)) (pY p) (q / 9)), gB') else some (nI (q % 9), gB'))) := by
  have h1 := hw.c
  obtain ⟨b, hb⟩ : ∃ b, b = kd p f (us p f) x y := ⟨_, rfl⟩
  obtain ⟨Q, hQ⟩ : ∃ Q, Q = rn kk b (pY p) := ⟨_, rfl⟩
  have lcQ := cn_le Q (pY p * 9)
  have hQ8 : ∀ q, Q q = true → q % 9 < pK p := by
    intro q hq
    apply Classical.byContradiction
    intro hl
    rw [hQ] at hq
    unfold rn at hq
    rw [hk.2.1 _ (by omega)] at hq
    exact absurd hq (by simp)
  rw [← hb, ← hQ] at hn ⊢
  have r4 := h.2.2.2.1
  have r6 := h.2.2.2.2.2.1
  have r7 := h.2.2.2.2.2.2.1
  have main : Sat (Lp (α := Int32 × Int32 × Int32 × G) (fun rec4 s4 => (if nI k < s4.2.2.1 then (if d = 0 then some (s4.2.2.2.1 51, s4.2.2.2) else (if d = 1 then some (s4.2.2.2.1 52, s4.2.2.2) else some (s4.2.2.2.1 53, s4.2.2.2))) else Option.bind (fB_M_findsPass (((s4.2.2.2.1 1) * nI y) + nI x) a s4.1 s4.2.1 s4.2.2.2) fun x5 => (if x5.1 = 0 then some ((-1), x5.2) else bv (x5.2.1 51) fun x6 => bv ((x5.2.1 53) + 1) fun x7 => rec4 (x6, x7, s4.2.2.1 + 1, x5.2)))) FU (0, 0, 0, g))
      (fun r => ∃ q, q < pY p * 9 ∧ Q q = true ∧ cn Q q = k ∧ Fr qB tB w1 gB r.2 ∧ CB p f r.2 ∧ some r = (if d = 0 then some (nI (q / 9), r.2) else (if d = 1 then some (nI (ln (b (q % 9)) (pY p) (q / 9)), r.2) else some (nI (q % 9), r.2)))) := by
    refine Sat.lp (fun n s => ∃ tk of g', s = (nI tk, nI of, nI n, g') ∧ tk < pY p ∧ of ≤ 8 ∧ cn Q (tk * 9 + of) = n ∧ Fr qB tB w1 gB g' ∧ CB p f g' ∧ LB p f g' ∧ (0 < n → ∃ q, q < pY p * 9 ∧ Q q = true ∧ cn Q q + 1 = n ∧ g'.1 51 = nI (q / 9) ∧ g'.1 52 = nI (ln (b (q % 9)) (pY p) (q / 9)) ∧ g'.1 53 = nI (q % 9))) (k + 1) (by omega) ⟨0, 0, g, rfl, by omega, by omega, rfl, F0, C0, L0, fun z => by omega⟩ ?_ ?_
    · rintro rec n _ hnk ⟨tk, of, g1, rfl, ht, ho, hc, F1, C1, L1, I1⟩ hrec
      have P1 := r4.ok F1
      have N1 := r6.ok F1
      simp only []
      rw [if_neg (nI_nlt (by omega) (by omega)), P1.1.1, nI_mul, nI_add]
      refine (findsB hw P1 N1 r7 L1 hx hy hk ht ho).bind ?_
      rintro ⟨r1, g2⟩ ⟨F2, I2, hz⟩
      rw [← hb, ← hQ] at I2
      have F12 : Fr qB tB w1 gB g2 := F1.tr F2 (by decide) (by decide) (by decide)
      obtain ⟨q0, q1, q2, q3⟩ := cn_kth (show n < cn Q (pY p * 9) by omega)
      have hq0 : tk * 9 + of ≤ q0 := by
        apply Classical.byContradiction
        intro hl
        have m := cn_mono Q (show q0 + 1 ≤ tk * 9 + of by omega)
        rw [cn_t q2] at m
        omega
      rcases I2 with ⟨z1, z2⟩ | ⟨q, i1, i2, i3, i4, i5, i6, i7, i8⟩
      · have := z2 q0 q1 trivial q2
        omega
      · have e0 : q = q0 := by
          have l1 := i5 q0 q1 trivial q2 hq0
          apply Classical.byContradiction
          intro hne
          have m := cn_mono Q (show q + 1 ≤ q0 by omega)
          rw [cn_t i3] at m
          have m2 := cn_mono Q i4
          omega
        subst e0
        have hne : ¬ r1 = 0 := by
          intro e
          have := hz.mp e
          have i6' : g2.1 51 = nI (q / 9) := i6
          have this' : g2.1 51 = nI 1000000 := this
          rw [i6', nI_eq (by omega) (by decide)] at this'
          omega
        have h9 := hQ8 q i3
        simp only []
        have i6' : g2.1 51 = nI (q / 9) := i6
        have i8' : g2.1 53 = nI (q % 9) := i8
        rw [if_neg hne, i6', i8', nl, nI_add, nI_add, bv_eq, bv_eq]
        refine hrec _ ⟨q / 9, q % 9 + 1, g2, rfl, by omega, by omega, ?_, F12, C1.fr F2 (by simp) (by simp), L1.fr F2 (by simp), fun _ => ⟨q, i1, i3, by omega, i6, i7, i8⟩⟩
        rw [show q / 9 * 9 + (q % 9 + 1) = q + 1 by omega, cn_t i3, q3]
    · rintro rec _ ⟨tk, of, g1, rfl, ht, ho, hc, F1, C1, L1, I1⟩
      obtain ⟨q, i1, i3, i4, i6, i7, i8⟩ := I1 (by omega)
      simp only []
      rw [if_pos (nI_lt (by omega) (by omega)), i6, i7, i8]
      by_cases d0 : d = 0
      · rw [if_pos d0]
        exact Sat.of ⟨q, i1, i3, by omega, F1, C1, by rw [if_pos d0]⟩
      · rw [if_neg d0]
        by_cases d1 : d = 1
        · rw [if_pos d1]
          exact Sat.of ⟨q, i1, i3, by omega, F1, C1, by rw [if_neg d0, if_pos d1]⟩
        · rw [if_neg d1]
          exact Sat.of ⟨q, i1, i3, by omega, F1, C1, by rw [if_neg d0, if_neg d1]⟩
  obtain ⟨r, er, q, q1, q2, q3, q4, q5, q6⟩ := main
  exact ⟨q, r.2, q1, q2, q3, q4, q5, er.trans q6⟩
theorem c_pass {p : Pl} {f : Fl} {gA gB : G} (h : RS p f gA gB) (hA : CA p f gA) (hB : CB p f gB) (a b c k d : Int32) : Eq2 (fA_D_pass a b c k d gA) (fB_M_pass a b c k d gB) := by
  have hl := h.lt
  have refused : fB_M_passes a b c gB = some ((-1), gB) → ∃ z gA' gB', some ((-1 : Int32), gA) = some (z, gA') ∧ fB_M_pass a b c k d gB = some (z, gB') ∧ Rel gA' gB' := by
    intro e
    unfold fB_M_pass
    by_cases hd : rg 3 d
    · obtain ⟨w, hw2, rfl⟩ := hd
      rw [inB_t hw2 (by decide) (by decide), Option.bind_some, if_neg i10, e, Option.bind_some]
      dsimp only
      rw [inM2, Option.bind_some, if_pos i00]
      exact ⟨_, _, _, rfl, rfl, p, f, h, hA, hB⟩
    · rw [inB_f hd (by decide) (by decide), Option.bind_some, if_pos i00]
      exact ⟨_, _, _, rfl, rfl, p, f, h, hA, hB⟩
  by_cases hc : rg (pC p) a ∧ rg (pR p) b
  · obtain ⟨⟨x, hx, rfl⟩, y, hy, rfl⟩ := hc
    have hw := h.wp (by omega)
    have h1 := hw.c
    by_cases hk : c = -1 ∨ rg (pK p) c
    · obtain ⟨g1, g2, e1, e2, FA, CA', PA', SA⟩ := strip2' h hw hA hx hy
      obtain ⟨kk, K1, K2⟩ := kindsA hw PA' hk
      obtain ⟨⟨n, gB'⟩, eB, en, FB, CB', LB'⟩ := passesX h hw hB hx hy hk K1
      have en : n = nI (cn (rn kk (kd p f (us p f) x y) (pY p)) (pY p * 9)) := en
      have lcQ := cn_le (rn kk (kd p f (us p f) x y) (pY p)) (pY p * 9)
      have eA : fA_D_pass (nI x) (nI y) c k d gA = Option.bind (fA_Strip_findRun (nI kk) k g2) fun x6 => (if x6.1 = 0 then some ((-1), x6.2) else (if d = 0 then some (x6.2.1 13000, x6.2) else if d = 1 then some (x6.2.1 13001, x6.2) else if d = 2 then some (x6.2.1 13002, x6.2) else some ((-1), x6.2))) := by
        unfold fA_D_pass
        rw [cellA_t h.2.2.1 hx hy (by omega), Option.bind_some, if_neg i10, lj_eq, e1, Option.bind_some, e2, Option.bind_some, K2, Option.bind_some]
        by_cases z : c = -1
        · rw [if_pos z]
        · rw [if_neg z]
          rcases hk with hk | ⟨j, hj, rfl⟩
          · exact absurd hk z
          · rw [craftA_t h.2.2.1 hj (by omega), Option.bind_some, if_neg i10]
      rw [eA]
      unfold fB_M_pass
      by_cases hkk : rg (cn (rn kk (kd p f (us p f) x y) (pY p)) (pY p * 9)) k
      · obtain ⟨m, hm, rfl⟩ := hkk
        obtain ⟨q, gB2, q1, q2, q3, q4, q5, q6⟩ := passB h hw FB CB' LB' hx hy K1 hm d
        have fr := (findRunA hw SA (kd_per hw f _ x y) (k := kk) (n := m) (Nat.lt_trans K1.1 (by decide)) (by omega)).1 q q1 q2 q3
        rw [fr, Option.bind_some]
        dsimp only
        rw [if_neg (by decide)]
        have FA2 : Fr qA tA w1 gA (sS (sS (sS g2 13000 (nI (q / 9))) 13001 (nI (ln (kd p f (us p f) x y (q % 9)) (pY p) (q / 9)))) 13002 (nI (q % 9))) := ((FA.sS (by decide)).sS (by decide)).sS (by decide)
        by_cases hd : rg 3 d
        · obtain ⟨w, hw2, rfl⟩ := hd
          rw [inB_t hw2 (by decide) (by decide), Option.bind_some, if_neg i10, eB, Option.bind_some]
          dsimp only
          rw [en, inB_t hm (by omega) rfl, Option.bind_some, if_neg i10, q6]
          have rel := Rel.mk2 h FA2 q4 (CA'.run _ _ _) q5
          have : w = 0 ∨ w = 1 ∨ w = 2 := by omega
          rcases this with rfl | rfl | rfl
          · rw [if_pos i00, if_pos i00]
            exact ⟨_, _, _, rfl, rfl, rel⟩
          · rw [if_neg i10, if_neg i10, if_pos (show nI 1 = 1 from rfl), if_pos (show nI 1 = 1 from rfl)]
            exact ⟨_, _, _, rfl, rfl, rel⟩
          · rw [if_neg (show ¬ nI 2 = 0 by decide), if_neg (show ¬ nI 2 = 0 by decide), if_neg (show ¬ nI 2 = 1 by decide), if_neg (show ¬ nI 2 = 1 by decide), if_pos (show nI 2 = 2 from rfl)]
            exact ⟨_, _, _, rfl, rfl, rel⟩
        · rw [inB_f hd (by decide) (by decide), Option.bind_some, if_pos i00, if_neg (show ¬ d = 0 from fun e => hd ⟨0, by decide, e⟩), if_neg (show ¬ d = 1 from fun e => hd ⟨1, by decide, e⟩), if_neg (show ¬ d = 2 from fun e => hd ⟨2, by decide, e⟩)]
          exact ⟨_, _, _, rfl, rfl, Rel.mk2 h FA2 Fr.rf (CA'.run _ _ _) hB⟩
      · have fr : fA_Strip_findRun (nI kk) k g2 = some (0, g2) := by
          by_cases l : k < 0
          · exact findRun0 hw SA _ l
          · obtain ⟨j, hj, rfl⟩ := nI_of l
            refine (findRunA hw SA (kd_per hw f _ x y) (Nat.lt_trans K1.1 (by decide)) hj).2 ?_
            apply Classical.byContradiction
            intro hl
            exact hkk ⟨j, by omega, rfl⟩
        rw [fr, Option.bind_some]
        dsimp only
        rw [if_pos rfl]
        by_cases hd : rg 3 d
        · obtain ⟨w, hw2, rfl⟩ := hd
          rw [inB_t hw2 (by decide) (by decide), Option.bind_some, if_neg i10, eB, Option.bind_some]
          dsimp only
          rw [en, inB_f hkk (by omega) rfl, Option.bind_some, if_pos i00]
          exact ⟨_, _, _, rfl, rfl, Rel.mk2 h FA FB CA' CB'⟩
        · rw [inB_f hd (by decide) (by decide), Option.bind_some, if_pos i00]
          exact ⟨_, _, _, rfl, rfl, Rel.mk2 h FA Fr.rf CA' hB⟩
    · obtain ⟨q1, q2, q3⟩ := cell_kinds_f h hk
      have e1 : fB_M_passes (nI x) (nI y) c gB = some ((-1), gB) := by
        unfold fB_M_passes
        rw [cellB_t h.2.2.2.1 hx hy (by omega), Option.bind_some, if_neg i10, lj_eq, if_neg q3, q2, Option.bind_some, if_pos i00]
      have e2 : fA_D_pass (nI x) (nI y) c k d gA = some ((-1), gA) := by
        unfold fA_D_pass
        rw [cellA_t h.2.2.1 hx hy (by omega), Option.bind_some, if_neg i10, lj_eq, if_neg q3, q1, Option.bind_some, if_pos i00]
      rw [e2]
      exact refused e1
  · have e1 : fB_M_passes a b c gB = some ((-1), gB) := by
      unfold fB_M_passes
      rw [cellB_f h.2.2.2.1 hc (by omega), Option.bind_some, if_pos i00]
    have e2 : fA_D_pass a b c k d gA = some ((-1), gA) := by
      unfold fA_D_pass
      rw [cellA_f h.2.2.1 hc, Option.bind_some, if_pos i00]
    rw [e2]
    exact refused e1
theorem c_meets {p : Pl} {f : Fl} {gA gB : G} (h : RS p f gA gB) (hA : CA p f gA) (hB : CB p f gB) (a b : Int32) : EqA (fA_D_meets a b gA) (fB_M_meets a b gB) gB := by
  have hl := h.lt
  have r3 := h.2.2.1
  have r4 := h.2.2.2.1
  have r6 := h.2.2.2.2.2.1
  have r7 := h.2.2.2.2.2.2.1
  have no : ∃ z gA', some ((-1 : Int32), gA) = some (z, gA') ∧ some (-1 : Int32) = some z ∧ Rel gA' gB := ⟨_, _, rfl, rfl, p, f, h, hA, hB⟩
  unfold fA_D_meets fB_M_meets
  by_cases ha : rg (pK p) a
  · obtain ⟨c, hc, rfl⟩ := ha
    have hw := h.wp (by omega)
    have h1 := hw.c
    rw [craftA_t r3 hc (by omega), craftB_t r4 hc (by omega), Option.bind_some, Option.bind_some, if_neg i10, if_neg i10]
    by_cases hb : rg (pK p) b
    · obtain ⟨d, hd, rfl⟩ := hb
      rw [craftA_t r3 hd (by omega), craftB_t r4 hd (by omega), Option.bind_some, Option.bind_some, if_neg i10, if_neg i10]
      by_cases e : nI c = nI d
      · rw [if_pos e, if_pos e]
        exact no
      · rw [if_neg e, if_neg e]
        obtain ⟨g1, e1, F1, R1, C1, L1, P1, U1⟩ := look2 h hw hA
        rw [e1, Option.bind_some]
        obtain ⟨M, hM⟩ : ∃ M : Nat → Bool, M = fun t => decide (co p c (fnd f (hm p c)) (fph f c) t = co p d (fnd f (hm p d)) (fph f d) t) && decide (ro p c (fph f c) t = ro p d (fph f d) t) := ⟨_, rfl⟩
        have eA : fA_Sky_countMeetings (nI c) (nI d) g1 = some (nI (cn M (pY p))) := by
          apply Sat.eq
          unfold fA_Sky_countMeetings fA_Sky_columnOf fA_Sky_rowOf
          refine Sat.lp (fun t s => s = (nI (cn M t), nI t)) (pY p) (by omega) rfl ?_ ?_
          · rintro rec t _ ht rfl hrec
            have v1 := L1.2.1 c hc t ht
            have v2 := L1.2.1 d hd t ht
            have l1 := co_lt hw c (fnd f (hm p c)) (fph f c) t
            have l2 := co_lt hw d (fnd f (hm p d)) (fph f d) t
            have l3 := ro_lt hw c (fph f c) t
            have l4 := ro_lt hw d (fph f d) t
            simp only []
            simp only [nl]
            rw [P1.1.2.2.2.1, if_neg (nI_ge ht (by omega)), nI_mul, nI_add, ag_nI (by omega) (by decide), v1.1, Option.bind_some, nI_mul, nI_add, ag_nI (by omega) (by decide), v2.1, Option.bind_some, lj_eq, ite_eqn (by omega) (by omega), ag_nI (by omega) (by decide), v1.2.1, Option.bind_some, ag_nI (by omega) (by decide), v2.2.1, Option.bind_some, ite_eqn (by omega) (by omega), nI_add, nI_add]
            by_cases q1 : co p c (fnd f (hm p c)) (fph f c) t = co p d (fnd f (hm p d)) (fph f d) t
            · rw [if_pos q1]
              by_cases q2 : ro p c (fph f c) t = ro p d (fph f d) t
              · rw [if_pos q2]
                exact hrec _ (by rw [cn_t (by rw [hM]; simp [q1, q2])])
              · rw [if_neg q2]
                exact hrec _ (by rw [cn_f (by rw [hM]; simp [q2])])
            · rw [if_neg q1]
              exact hrec _ (by rw [cn_f (by rw [hM]; simp [q1])])
          · rintro rec _ rfl
            simp only []
            rw [P1.1.2.2.2.1, if_pos (nI_le (Nat.le_refl _) (by omega))]
            exact Sat.of rfl
        rw [eA, Option.bind_some]
        refine ⟨_, _, rfl, ?_, p, f, R1, C1, hB⟩
        apply Sat.eq
        refine Sat.lp (fun t s => s = (nI (cn M t), nI t)) (pY p) (by omega) rfl ?_ ?_
        · rintro rec t _ ht rfl hrec
          have l1 := co_lt hw c (fnd f (hm p c)) (fph f c) t
          have l2 := co_lt hw d (fnd f (hm p d)) (fph f d) t
          have l3 := ro_lt hw c (fph f c) t
          have l4 := ro_lt hw d (fph f d) t
          simp only []
          simp only [nl]
          rw [r4.1.2.2.2.2.2.2.1, if_neg (nI_ge ht (by omega)), columnB hw r4 r6 r7 hc (by omega), Option.bind_some, columnB hw r4 r6 r7 hd (by omega), Option.bind_some, lj_eq, lj_eq, ite_eqn (by omega) (by omega), rowB hw r4 r6 r7 hc (by omega), Option.bind_some, rowB hw r4 r6 r7 hd (by omega), Option.bind_some, ite_eqn (by omega) (by omega)]
          dsimp only
          rw [bv_eq, bv_eq, nI_add, nI_add, nI_add]
          by_cases q1 : co p c (fnd f (hm p c)) (fph f c) t = co p d (fnd f (hm p d)) (fph f d) t
          · rw [if_pos q1]
            by_cases q2 : ro p c (fph f c) t = ro p d (fph f d) t
            · rw [if_pos q2]
              exact hrec _ (by rw [cn_t (by rw [hM]; simp [q1, q2])])
            · rw [if_neg q2]
              exact hrec _ (by rw [cn_f (by rw [hM]; simp [q2])]; rfl)
          · rw [if_neg q1]
            exact hrec _ (by rw [cn_f (by rw [hM]; simp [q1])]; rfl)
        · rintro rec _ rfl
          simp only []
          rw [r4.1.2.2.2.2.2.2.1, if_pos (nI_le (Nat.le_refl _) (by omega))]
          exact Sat.of rfl
    · rw [craftA_f r3 hb, craftB_f r4 hb (by omega), Option.bind_some, Option.bind_some, if_pos i00, if_pos i00]
      split <;> exact no
  · rw [craftA_f r3 ha, craftB_f r4 ha (by omega), Option.bind_some, Option.bind_some, if_pos i00, if_pos i00]
    split <;> exact no
