/-! THE CALLS: suspect, told -/
theorem c_suspect {p : Pl} {f : Fl} {gA gB : G} (h : RS p f gA gB) (hA : CA p f gA) (hB : CB p f gB) (a : Int32) : Eq2 (fA_D_suspect a gA) (fB_M_suspect a gB) := by
  have hl := h.lt
  unfold fA_D_suspect fB_M_suspect
  rcases standsA h with ⟨hw, e1, e2⟩ | ⟨hz, e1, e2⟩
  · have h1 := hw.c
    rw [e1, e2, Option.bind_some, if_neg i10, if_neg i10]
    obtain ⟨g1, e3, F1, R1, C1, L1, P1, U1⟩ := look2 h hw hA
    obtain ⟨n, q, hq⟩ := h.2.2.2.2.2.2.2.2.2.2.2.2.2.1.get ⟨by omega, by omega, by omega⟩
    have hq1 := hq.frA F1
    obtain ⟨M, hM⟩ : ∃ M, M = mk (fun c => decide (c < pK p + 1) && su p f n q c) 9 := ⟨_, rfl⟩
    have Ml : M < 2 ^ 9 := by rw [hM]; exact mk_lt _ 9
    have Mb : ∀ c, c < pK p + 1 → M.testBit c = su p f n q c := by
      intro c hc
      rw [hM, mk_bit]
      have : c < 9 := by omega
      simp [this, hc]
    have Mc : ∀ c, c ≤ pK p + 1 → cn M.testBit c = cn (su p f n q) c := fun c hc => cn_cong (fun i hi => Mb i (by omega))
    have M9 : cn M.testBit 9 = cn (su p f n q) (pK p + 1) := by
      obtain ⟨d, hd⟩ := Nat.exists_eq_add_of_le (show pK p + 1 ≤ 9 by omega)
      have z : cn (fun i => M.testBit (pK p + 1 + i)) d = 0 := cn_0 (fun i hi => by
        rw [hM, mk_bit]
        have : ¬ pK p + 1 + i < pK p + 1 := by omega
        simp [this])
      rw [hd, cn_add, z, Mc _ (Nat.le_refl _), Nat.add_zero]
    rw [e3, Option.bind_some, U1, suspectsA hw P1 L1.2.1 hq1, Option.bind_some, ← hM]
    by_cases am1 : a = -1
    · rw [if_pos am1, bitCount_eq (by omega), Option.bind_some, if_pos (show (-1 : Int32) ≤ a by rw [am1]; decide)]
      obtain ⟨g3, e4, F3, L3, P3, N3, C3⟩ := lays2 h hw hB
      have hq3 := hq.frB F3
      rw [e4, Option.bind_some]
      have eB : (Lp (α := Int32 × Int32) (fun rec2 s2 => (if (g3.1 5) < s2.2 then (if a = (-1) then some (s2.1, g3) else some ((-1), g3)) else Option.bind (fB_M_isSuspect s2.2 g3) fun x3 => lj (α := Int32) (fun b4 => rec2 (b4, s2.2 + 1)) fun J4 => (if x3 = 0 then J4 s2.1 else (if s2.1 = a then some (s2.2, g3) else J4 (s2.1 + 1))))) FU (0, 0)) = some (nI (cn (su p f n q) (pK p + 1)), g3) := by
        apply Sat.eq
        refine Sat.lp (fun c s => s = (nI (cn (su p f n q) c), nI c)) (pK p + 1) (by omega) rfl ?_ ?_
        · rintro rec c _ hc rfl hrec
          have cl := cn_le (su p f n q) c
          simp only []
          rw [P3.1.2.2.2.2.1, if_neg (nI_nlt (by omega) (by omega)), isSuspB hw P3 N3 h.2.2.2.2.2.2.1 L3 hq3 (by omega), Option.bind_some, lj_eq, show (nI c + 1 : Int32) = nI (c + 1) from nI_add c 1, show (nI (cn (su p f n q) c) + 1 : Int32) = nI (cn (su p f n q) c + 1) from nI_add _ 1]
          cases hb : su p f n q c
          · rw [if_pos (show bI false = (0 : Int32) from rfl)]
            exact hrec _ (by rw [cn_f hb])
          · rw [if_neg (show ¬ bI true = (0 : Int32) from z1), if_neg (show ¬ nI (cn (su p f n q) c) = a by rw [am1]; exact fun z => (n_ne_m1 (by omega)).mp z)]
            exact hrec _ (by rw [cn_t hb])
        · rintro rec _ rfl
          simp only []
          rw [P3.1.2.2.2.2.1, if_pos (nI_lt (by omega) (by omega)), if_pos am1]
          exact Sat.of rfl
      rw [eB]
      refine ⟨_, _, _, rfl, ?_, Rel.mk2 h F1 F3 C1 C3⟩
      have : pc M = cn (su p f n q) (pK p + 1) := by
        rw [← M9, ← mk_self (n := 9) Ml, pc_mk (by decide), mk_self (n := 9) Ml]
      rw [this]
    · rw [if_neg am1]
      by_cases l : a < 0
      · have la : ¬ (-1 : Int32) ≤ a := by
          intro z
          apply am1
          rw [Int32.lt_iff_toInt_lt] at l
          rw [Int32.le_iff_toInt_le] at z
          apply Int32.toInt_inj.1
          have t1 : (-1 : Int32).toInt = -1 := by decide
          have t2 : (0 : Int32).toInt = 0 := by decide
          omega
        have eA : fA_D_placeOfBit (nI M) a g1 = some (-1) := by
          unfold fA_D_placeOfBit
          show (Lp _ (999999 + 1) _) = _
          rw [Sat_lp_same]
          simp only []
          rw [if_neg (by decide), if_pos l]
        rw [eA, Option.bind_some, if_neg la]
        exact ⟨_, _, _, rfl, rfl, Rel.mk2 h F1 Fr.rf C1 hB⟩
      · obtain ⟨k, hk, rfl⟩ := nI_of l
        obtain ⟨g3, e4, F3, L3, P3, N3, C3⟩ := lays2 h hw hB
        have hq3 := hq.frB F3
        rw [if_pos (show (-1 : Int32) ≤ nI k from (m1_le hk).mpr trivial), e4, Option.bind_some]
        have eB : Sat (Lp (α := Int32 × Int32) (fun rec2 s2 => (if (g3.1 5) < s2.2 then (if nI k = (-1) then some (s2.1, g3) else some ((-1), g3)) else Option.bind (fB_M_isSuspect s2.2 g3) fun x3 => lj (α := Int32) (fun b4 => rec2 (b4, s2.2 + 1)) fun J4 => (if x3 = 0 then J4 s2.1 else (if s2.1 = nI k then some (s2.2, g3) else J4 (s2.1 + 1))))) FU (0, 0)) (fun r => (∃ c, c < pK p + 1 ∧ su p f n q c = true ∧ cn (su p f n q) c = k ∧ r = (nI c, g3)) ∨ (cn (su p f n q) (pK p + 1) ≤ k ∧ r = (-1, g3))) := by
          refine Sat.lp (fun c s => cn (su p f n q) c ≤ k ∧ s = (nI (cn (su p f n q) c), nI c)) (pK p + 1) (by omega) ⟨Nat.zero_le _, rfl⟩ ?_ ?_
          · rintro rec c _ hc ⟨hle, rfl⟩ hrec
            have cl := cn_le (su p f n q) c
            simp only []
            rw [P3.1.2.2.2.2.1, if_neg (nI_nlt (by omega) (by omega)), isSuspB hw P3 N3 h.2.2.2.2.2.2.1 L3 hq3 (by omega), Option.bind_some, lj_eq, show (nI c + 1 : Int32) = nI (c + 1) from nI_add c 1, show (nI (cn (su p f n q) c) + 1 : Int32) = nI (cn (su p f n q) c + 1) from nI_add _ 1, ite_eqn (by omega) hk]
            cases hb : su p f n q c
            · rw [if_pos (show bI false = (0 : Int32) from rfl)]
              exact hrec _ ⟨by rw [cn_f hb]; exact hle, by rw [cn_f hb]⟩
            · rw [if_neg (show ¬ bI true = (0 : Int32) from z1)]
              by_cases z : cn (su p f n q) c = k
              · rw [if_pos z]
                exact Sat.of (Or.inl ⟨c, by omega, hb, z, rfl⟩)
              · rw [if_neg z]
                exact hrec _ ⟨by rw [cn_t hb]; omega, by rw [cn_t hb]⟩
          · rintro rec _ ⟨hle, rfl⟩
            simp only []
            rw [P3.1.2.2.2.2.1, if_pos (nI_lt (by omega) (by omega)), if_neg (show ¬ nI k = -1 from fun z => (n_ne_m1 hk).mp z)]
            exact Sat.of (Or.inr ⟨hle, rfl⟩)
        obtain ⟨r, er, hr⟩ := eB
        have bA := bitA Ml k hk g1
        rw [er]
        rcases hr with ⟨c, c1, c2, c3, rfl⟩ | ⟨c1, rfl⟩
        · rw [bA.1 c (by omega) (by rw [Mb c c1]; exact c2) (by rw [Mc c (by omega)]; exact c3), Option.bind_some]
          exact ⟨_, _, _, rfl, rfl, Rel.mk2 h F1 F3 C1 C3⟩
        · rw [bA.2 (by rw [M9]; exact c1), Option.bind_some]
          exact ⟨_, _, _, rfl, rfl, Rel.mk2 h F1 F3 C1 C3⟩
  · rw [e1, e2, Option.bind_some, if_pos i00, if_pos i00]
    exact ⟨_, _, _, rfl, rfl, p, f, h, hA, hB⟩
theorem countByA {p : Pl} (hw : WP p) {f : Fl} {g : G} (hP : PA p g) (hV : VF p f g) {w t : Nat} (hwl : w < 2 ^ 31) (ht : t < pY p) : fA_Sky_countSeenBy (nI w) (nI t) g = some (nI (cs p (sx2 p f w) t)) := by
  have h1 := hw.c
  apply Sat.eq
  unfold fA_Sky_countSeenBy
  refine Sat.lp (fun y s => s = (nI (sm (fun y => cn (sx2 p f w t y) (pC p)) y), nI y)) (pR p) (by omega) rfl ?_ ?_
  · rintro rec y _ hy rfl hrec
    simp only []
    rw [hP.1.2.1, if_neg (nI_ge hy (by omega))]
    refine Sat.lp (fun c s => s = (nI (mk (fun x => ob c (fun c => see p f c t x y) w) (pC p)), nI c)) (pK p) (by omega) (by rw [mk_zero.mpr (fun x _ => ob_0 _ _)]; rfl) ?_ ?_
    · rintro rec2 c _ hc rfl hrec2
      have v := hV.vv c t y hc ht hy
      simp only []
      simp only [nl, lj_eq]
      rw [hP.1.2.2.2.2.2.2.1, if_neg (nI_ge hc (by omega)), n_31 (k := c) (by omega), n_shr hwl (by omega), n_and, ite_b0, nI_mul]
      simp only [nI_add, nI_mul]
      rw [ag_nI (by omega) (by decide), v, mk_or, bv_eq]
      cases hb : w.testBit c
      · rw [if_neg (by decide)]
        refine hrec2 _ ?_
        rw [mk_cong (b := fun x => ob c (fun c => see p f c t x y) w) (b' := fun x => ob (c + 1) (fun c => see p f c t x y) w) (fun x _ => by rw [ob_succ (by omega), hb, Bool.false_and, Bool.or_false])]
      · rw [if_pos rfl]
        refine hrec2 _ ?_
        rw [mk_cong (b := fun x => ob c (fun c => see p f c t x y) w || see p f c t x y) (b' := fun x => ob (c + 1) (fun c => see p f c t x y) w) (fun x _ => by rw [ob_succ (by omega), hb, Bool.true_and])]
    · rintro rec2 _ rfl
      simp only []
      rw [hP.1.2.2.2.2.2.2.1, if_pos (nI_le (Nat.le_refl _) (by omega)), bitCount_eq (Nat.lt_trans (mk_lt31 (by omega)) (by decide)), Option.bind_some, pc_mk (by omega), nI_add, bv_eq, nl, nI_add]
      exact hrec _ rfl
  · rintro rec _ rfl
    simp only []
    rw [hP.1.2.1, if_pos (nI_le (Nat.le_refl _) (by omega))]
    exact Sat.of rfl
