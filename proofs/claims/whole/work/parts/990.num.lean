/-! THE TEXT: numbers, in the model -/
set_option maxHeartbeats 1000000 in
theorem numB {n : Nat} {T : Nat → Nat} {X : Xs} {g : G} {lo hi : Nat} (hx : TX n T) (h : LQ n T X g) (hlo : lo < 2 ^ 31) (hhi : hi < 2 ^ 31) :
    Sat (fB_M_number (nI lo) (nI hi) g) (fun r => Fr bS [] w0 g r.2 ∧ LQ n T (xNu n T lo hi X).2 r.2 ∧ r.1 = nI (xNu n T lo hi X).1) := by
  have hn := hx.1
  unfold fB_M_number
  rw [goesB h, Option.bind_some]
  by_cases h0 : X.1 = 0
  · rw [decide_eq_true h0, if_neg b1]
    obtain ⟨hT, hk, h4, _⟩ := h
    obtain ⟨p1, p2, p3, p5⟩ := h4 h0
    have hs := skp_all T p2
    obtain ⟨Q, hQ⟩ : ∃ Q : Int32 × G → Prop, Q = fun r => Fr bS [] w0 g r.2 ∧ LQ n T (xNu n T lo hi X).2 r.2 ∧ r.1 = nI (xNu n T lo hi X).1 := ⟨_, rfl⟩
    rw [← hQ]
    refine (hereB hx hT p2 p3).bind ?_
    rintro ⟨r, g2⟩ ⟨F2, a2, _⟩
    have F2 : Fr [38] [] w0 g g2 := F2
    have a2 : g2.1 38 = nI (skp n T X.2.2.1) := a2
    dsimp only
    rw [bv_eq]
    obtain ⟨s, es⟩ : ∃ s, s = skp n T X.2.2.1 := ⟨_, rfl⟩
    rw [← es] at a2 hs
    obtain ⟨g3, hg3⟩ : ∃ g3, g3 = sS g2 39 (g2.1 38) := ⟨_, rfl⟩
    have F3 : Fr [38, 39] [] w0 g g3 := by
      rw [hg3]
      exact (F2.wd (by simp) (by simp) (by simp)).sS (by simp)
    have F3' : Fr bS [] w0 g g3 := F3.wd (by decide) (by simp) (by simp)
    have a3 : g3.1 38 = nI (s + 0) := by
      rw [hg3]
      exact a2
    have s3 : g3.1 39 = nI s := by
      rw [hg3]
      exact a2
    have T3 := hT.fr F3 (by simp) (by simp)
    have q3 : g3.1 40 = nI 0 := by rw [F3.1 40 (by simp), hk.2, h0]
    have q4 : g3.1 41 = m1 := by rw [F3.1 41 (by simp), p1]
    have a3' : g3.1 38 = nI s := a3
    rw [← hg3, a3', digitB hx T3 (by omega), Option.bind_some, lj_eq]
    have bad : (tch n T s || !bkD n T s) = true → Sat (Option.bind (fB_M_fails 1 (nI s) g3) fun x6 => some ((0 : Int32), x6)) Q := by
      intro hb
      obtain ⟨g4, e4, F4, L4⟩ := failB (k := 1) (w := s) T3 q3 (by decide) (by decide)
      rw [show (1 : Int32) = nI 1 from rfl, e4, Option.bind_some, hQ, xNu_0 h0 (by rw [← es]; exact hb), ← es]
      exact Sat.of ⟨F3'.tr F4 (by decide) (by simp) (by simp), L4, rfl⟩
    cases el : bkD n T s
    · rw [if_pos b0]
      exact bad (by rw [el, Bool.not_false, Bool.or_true])
    · rw [if_neg b1, prevL hx T3 hs.2, Option.bind_some, prevD hx T3 hs.2, Option.bind_some]
      cases e1 : (decide (0 < s) && bkL n T (s - 1))
      · rw [if_pos b0]
        cases e2 : (decide (0 < s) && bkD n T (s - 1))
        · rw [if_pos b0]
          have et : tch n T s = false := by
            unfold tch
            rw [Bool.and_or_distrib_left, e1, e2]
            rfl
          have dl := dv_le el
          have dl2 := dl.2
          have sn := (bkD_iff.mp el).1
          obtain ⟨N, hN⟩ : ∃ N, N = if bkD n T (s + 1) = true then (if bkD n T (s + 2) = true then 3 else 2) else 1 := ⟨_, rfl⟩
          have hN3 : N ≤ 3 := by
            rw [hN]
            split
            · split <;> omega
            · omega
          have hd : ∀ i, i < N → bkD n T (s + i) = true := by
            intro i hi
            by_cases z : i = 0
            · rw [z]; exact el
            · rw [hN] at hi
              by_cases y : bkD n T (s + 1) = true
              · rw [if_pos y] at hi
                by_cases z1 : i = 1
                · rw [z1]; exact y
                · by_cases y2 : bkD n T (s + 2) = true
                  · rw [if_pos y2] at hi
                    rw [show i = 2 by omega]
                    exact y2
                  · rw [if_neg y2] at hi
                    omega
              · rw [if_neg y] at hi
                omega
          refine Sat.lp (fun i z => ∃ v g', z = (v, g') ∧ Fr [38, 40, 41] [] w0 g3 g' ∧ g'.1 38 = nI (s + i) ∧ (i ≤ 2 → g'.1 40 = nI 0 ∧ g'.1 41 = m1 ∧ v = nI (dv T s i)) ∧ (2 < i → g'.1 40 = nI 1 ∧ g'.1 41 = nI (s + 2))) N (by omega) ⟨_, _, rfl, Fr.rf, a3, fun _ => ⟨q3, q4, rfl⟩, fun z => absurd z (by decide)⟩ ?_ ?_
          · rintro rec i _ hi ⟨v, g', rfl, F, k3, k4, k5⟩ hrec
            have F' : Fr bS [] w0 g g' := F3'.tr F (by decide) (by simp) (by simp)
            have T' := hT.fr F' (by decide) (by simp)
            have q := hd i hi
            obtain ⟨k6, k7, k8⟩ := k4 (by omega)
            have k9 : g'.1 39 = nI s := by rw [F.1 39 (by simp), s3]
            have gz : fB_M_goes g' = some 1 := by
              unfold fB_M_goes
              rw [k6, if_pos i00]
            dsimp only
            rw [k3, digitB hx T' (by omega), Option.bind_some, lj_eq, q, if_neg b1, gz, Option.bind_some, if_neg (by decide), lj_eq, k9, nI_sub (by omega), show s + i - s = i by omega, show (2 : Int32) = nI 2 from rfl, ite_eqn (by omega) (by decide)]
            by_cases i2 : i = 2
            · rw [if_pos i2]
              subst i2
              obtain ⟨g4, e4, F4, L4⟩ := failB (k := 1) (w := s + 2) T' k6 (by decide) (by decide)
              have F34 : Fr [38, 40, 41] [] w0 g3 g4 := F.tr F4 (by simp) (by simp) (by simp)
              have T4 := T3.fr F34 (by simp) (by simp)
              have k34 : g4.1 38 = nI (s + 2) := by rw [F4.1 38 (by simp), k3]
              rw [show (1 : Int32) = nI 1 from rfl, e4, Option.bind_some]
              dsimp only
              rw [k34, bytB hx T4 (by omega), Option.bind_some, bv_eq, bv_eq]
              refine hrec _ ⟨_, _, rfl, F34.sS (by simp), nI_add (s + 2) 1, fun z => absurd z (by decide), fun _ => ⟨?_, ?_⟩⟩
              · exact L4.2.1.2
              · exact L4.2.2.2 (by show ¬ (1 : Nat) = 0; decide)
            · rw [if_neg i2]
              dsimp only
              rw [k3, bytB hx T' (by omega), Option.bind_some, bv_eq, bv_eq, k8, show byt n T (s + i) = nI (T (s + i)) from if_pos (bkD_iff.mp q).1, dv_step q]
              refine hrec _ ⟨_, _, rfl, F.sS (by simp), nI_add (s + i) 1, fun _ => ⟨k6, k7, rfl⟩, fun z => absurd z (by omega)⟩
          · rintro rec _ ⟨v, g', rfl, F, k3, k4, k5⟩
            have F' : Fr bS [] w0 g g' := F3'.tr F (by decide) (by simp) (by simp)
            have T' := hT.fr F' (by decide) (by simp)
            have k9 : g'.1 39 = nI s := by rw [F.1 39 (by simp), s3]
            have sl : s + N ≤ n := by
              have : 1 ≤ N := by
                rw [hN]
                split
                · split <;> omega
                · omega
              have q := bkD_iff.mp (hd (N - 1) (by omega))
              omega
            by_cases n3 : N = 3
            · obtain ⟨k6, k7⟩ := k5 (by omega)
              have d1 : bkD n T (s + 1) = true := hd 1 (by omega)
              have d2 : bkD n T (s + 2) = true := hd 2 (by omega)
              have gz : fB_M_goes g' = some 0 := by
                unfold fB_M_goes
                rw [k6, if_neg i10]
              have ff : fB_M_fails 2 (nI s) g' = some g' := by
                unfold fB_M_fails
                rw [k6, if_neg i10]
              have done : Sat (some ((0 : Int32), g')) Q := by
                rw [hQ, xNu_1 h0 (by rw [← es]; exact et) (by rw [← es]; exact el) (by rw [← es]; exact d1) (by rw [← es]; exact d2), ← es]
                exact Sat.of ⟨F', ⟨T', ⟨by show 1 ≤ 6; decide, k6⟩, fun z => absurd z (by show ¬ (1 : Nat) = 0; decide), fun _ => k7⟩, rfl⟩
              have fin : Sat (Option.bind (fB_M_isIn v (nI lo) (nI hi) g') fun x12 => lj (α := G) (fun b13 => Option.bind (fB_M_goes b13) fun x14 => (if x14 = 0 then some (0, b13) else some (v, b13))) fun J13 => (if x12 = 0 then Option.bind (fB_M_fails 2 (nI s) g') fun x15 => J13 x15 else J13 g')) Q := by
                unfold fB_M_isIn
                have both : ∀ x : Int32, Sat (Option.bind (some x) fun x12 => lj (α := G) (fun b13 => Option.bind (fB_M_goes b13) fun x14 => (if x14 = 0 then some (0, b13) else some (v, b13))) fun J13 => (if x12 = 0 then Option.bind (fB_M_fails 2 (nI s) g') fun x15 => J13 x15 else J13 g')) Q := by
                  intro x
                  rw [Option.bind_some, lj_eq, ff, Option.bind_some]
                  dsimp only
                  rw [gz, Option.bind_some, if_pos rfl]
                  split
                  · exact done
                  · exact done
                split
                · exact both 0
                · split
                  · exact both 0
                  · exact both 1
              dsimp only
              rw [k3, digitB hx T' (by omega), Option.bind_some, lj_eq, k9, gz, Option.bind_some, if_pos rfl]
              split
              · exact fin
              · exact fin
            · obtain ⟨k6, k7, k8⟩ := k4 (by omega)
              have nN : nd' n T s = N := by
                rw [hN] at n3 ⊢
                unfold nd'
                by_cases y : bkD n T (s + 1) = true
                · rw [if_pos y] at n3 ⊢
                  by_cases y2 : bkD n T (s + 2) = true
                  · rw [if_pos y2] at n3
                    exact absurd rfl n3
                  · rw [if_neg y2, if_pos y]
                · rw [if_neg y, if_neg y]
              have nx : bkD n T (s + N) = false := by
                rw [hN]
                by_cases y : bkD n T (s + 1) = true
                · by_cases y2 : bkD n T (s + 2) = true
                  · rw [hN, if_pos y, if_pos y2] at n3
                    exact absurd rfl n3
                  · rw [if_pos y, if_neg y2]
                    simpa using y2
                · rw [if_neg y]
                  simpa using y
              have hn1 : ¬ (bkD n T (s + 1) && bkD n T (s + 2)) = true := by
                intro z
                rw [Bool.and_eq_true] at z
                rw [hN, if_pos z.1, if_pos z.2] at n3
                exact n3 rfl
              obtain ⟨u, eu⟩ : ∃ u, u = dv T s N := ⟨_, rfl⟩
              have ul : u ≤ 99 := by rw [eu, ← nN]; exact dl.1
              have ex : xNu n T lo hi X = if lo ≤ u ∧ u ≤ hi then (u, (0, 0, s + N, s)) else (0, fl 2 s) := by
                rw [xNu_2 h0 (by rw [← es]; exact et) (by rw [← es]; exact el) (by rw [← es]; exact hn1), ← es, nN, ← eu]
              have g1 : fB_M_goes g' = some 1 := by
                unfold fB_M_goes
                rw [k6, if_pos i00]
              have no : ¬ (lo ≤ u ∧ u ≤ hi) → Sat (Option.bind (some (0 : Int32)) fun x12 => lj (α := G) (fun b13 => Option.bind (fB_M_goes b13) fun x14 => (if x14 = 0 then some (0, b13) else some (nI u, b13))) fun J13 => (if x12 = 0 then Option.bind (fB_M_fails 2 (nI s) g') fun x15 => J13 x15 else J13 g')) Q := by
                intro z
                obtain ⟨g4, e4, F4, L4⟩ := failB (k := 2) (w := s) T' k6 (by decide) (by decide)
                rw [Option.bind_some, lj_eq, if_pos rfl, show (2 : Int32) = nI 2 from rfl, e4, Option.bind_some]
                dsimp only
                rw [goesB L4, Option.bind_some, if_pos (by show bI (decide ((2 : Nat) = 0)) = 0; rfl), hQ, ex, if_neg z]
                exact Sat.of ⟨F'.tr F4 (by decide) (by simp) (by simp), L4, rfl⟩
              dsimp only
              rw [k3, digitB hx T' (by omega), Option.bind_some, lj_eq, nx, if_pos b0, k9, k8, ← eu]
              unfold fB_M_isIn
              rw [ite_ltn (by omega) hlo, ite_ltn hhi (by omega)]
              by_cases l1 : u < lo
              · rw [if_pos l1]
                exact no (by omega)
              · rw [if_neg l1]
                by_cases l2 : hi < u
                · rw [if_pos l2]
                  exact no (by omega)
                · rw [if_neg l2, Option.bind_some, lj_eq, if_neg (by decide)]
                  dsimp only
                  rw [g1, Option.bind_some, if_neg (by decide), hQ, ex, if_pos ⟨by omega, by omega⟩]
                  exact Sat.of ⟨F', ⟨T', ⟨Nat.zero_le _, k6⟩, fun _ => ⟨k7, sl, k3, fun _ => k9⟩, fun z => absurd rfl z⟩, rfl⟩
        · rw [if_neg b1]
          have et : tch n T s = true := by
            unfold tch
            rw [Bool.and_or_distrib_left, e1, e2]
            rfl
          exact bad (by rw [et, Bool.true_or])
      · rw [if_neg b1]
        have et : tch n T s = true := by
          unfold tch
          rw [Bool.and_or_distrib_left, e1, Bool.true_or]
        exact bad (by rw [et, Bool.true_or])
  · rw [decide_eq_false h0, if_pos b0, xNu_dead h0]
    exact Sat.of ⟨Fr.rf, h, rfl⟩
theorem toldB {n : Nat} {T : Nat → Nat} {X : Xs} {g : G} {k lo hi : Nat} (hx : TX n T) (h : LQ n T X g) (hO : g.2.1 19 = gB0.2.1 19) (hk : k < 15) (hlo : lo < 2 ^ 31) (hhi : hi < 2 ^ 31) :
    Sat (fB_M_told (nI k) (nI lo) (nI hi) g) (fun r => Fr bS [] w0 g r.2 ∧ LQ n T (xNu n T lo hi (xM n T k X)).2 r.2 ∧ r.1 = nI (xNu n T lo hi (xM n T k X)).1) := by
  unfold fB_M_told
  refine (mustB hx h hO hk).bind ?_
  rintro g1 ⟨F1, L1⟩
  refine (numB hx L1 hlo hhi).bind ?_
  rintro ⟨v, g2⟩ ⟨F2, L2, e2⟩
  exact Sat.of ⟨F1.tr F2 (by decide) (by simp) (by simp), L2, e2⟩
