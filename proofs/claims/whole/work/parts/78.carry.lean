/-! THE CALLS: carry, holders, source, told -/
def sq (p : Pl) (f : Fl) (t s0 : Nat) : Nat → Nat × Nat
  | 0 => (1 <<< s0, 0)
  | n + 1 => (nS p f (t + n) (sq p f t s0 n).1 (sq p f t s0 n).2, nK p f (t + n) (sq p f t s0 n).1 (sq p f t s0 n).2)
theorem sq_ok {p : Pl} {f : Fl} {t s0 : Nat} (hs : s0 < 6) : ∀ n, (sq p f t s0 n).1 < 64 ∧ Sb p f (sq p f t s0 n).2
  | 0 => ⟨by
      show 1 <<< s0 < 2 ^ 6
      rw [Nat.one_shiftLeft]
      exact Nat.pow_lt_pow_right (by decide) hs, by
      show (0 : Nat) < 256
      decide, fun c hc => by
      have hc : (0 : Nat).testBit c = true := hc
      rw [Nat.zero_testBit] at hc
      exact absurd hc (by decide)⟩
  | n + 1 => ⟨show nS p f (t + n) (sq p f t s0 n).1 (sq p f t s0 n).2 < 2 ^ 6 from mk_lt _ 6, nK_sb (sq_ok hs n).2⟩
theorem startA {p : Pl} {f : Fl} {t s0 : Nat} (hs : s0 < 6) (g : G) : Sat (fA_Courier_start (nI s0) g) (fun g' => Fr [13700, 13701] [] w0 g g' ∧ g'.1 13700 = nI (sq p f t s0 0).1 ∧ g'.1 13701 = nI (sq p f t s0 0).2) := by
  unfold fA_Courier_start
  simp only [nl]
  rw [n_31 (by omega), n_shl _ (by omega), bv_eq, bv_eq]
  exact Sat.of ⟨(Fr.rf.sS (by simp)).sS (by simp), rfl, rfl⟩
theorem startB {p : Pl} {f : Fl} {t s0 : Nat} (hs : s0 < 6) (g : G) : Sat (fB_M_begins (nI s0) g) (fun g' => Fr [56, 57] [] w0 g g' ∧ g'.1 56 = nI (sq p f t s0 0).1 ∧ g'.1 57 = nI (sq p f t s0 0).2) := by
  unfold fB_M_begins
  simp only [nl]
  rw [n_31 (by omega), n_shl _ (by omega), bv_eq, bv_eq]
  exact Sat.of ⟨(Fr.rf.sS (by simp)).sS (by simp), rfl, rfl⟩
theorem reachedA {p : Pl} (hw : WP p) {f : Fl} {g : G} (hP : PA p g) (hV : VF p f g) (hu : g.1 2700 = nI (us p f)) {t s0 n : Nat} (ht : t ≤ 9999) (hs : s0 < pS p) (hn : n ≤ 480) :
    Sat (fA_D_sitesReached (nI t) (nI s0) (nI n) g) (fun r => Fr [13700, 13701] [] w0 g r.2 ∧ r.1 = nI (sq p f t s0 n).1) := by
  have h1 := hw.c
  unfold fA_D_sitesReached
  refine (startA (p := p) (f := f) (t := t) (s0 := s0) (by omega) g).bind ?_
  rintro g1 ⟨F1, a1, a2⟩
  refine Sat.lp (fun k s => ∃ g', s = (nI k, g') ∧ Fr [13700, 13701] [] w0 g g' ∧ g'.1 13700 = nI (sq p f t s0 k).1 ∧ g'.1 13701 = nI (sq p f t s0 k).2) n (by omega) ⟨g1, rfl, F1, a1, a2⟩ ?_ ?_
  · rintro rec k _ hk ⟨g2, rfl, F2, b1, b2⟩ hrec
    have P2 := hP.fr F2 (by simp) (by simp)
    have ok := sq_ok (p := p) (f := f) (t := t) (s0 := s0) (by omega) k
    simp only []
    rw [if_neg (nI_ge hk (by omega)), nI_add, inCycleA hw P2 (by omega), Option.bind_some, (F2.1 2700 (by simp)).trans hu]
    refine (stepA hw P2 (hV.fr F2 (by simp)) (Nat.mod_lt _ (by omega)) ok.1 ok.2 b1 b2).bind ?_
    rintro g3 ⟨F3, c1, c2⟩
    rw [nS_per hw] at c1
    rw [nK_per hw] at c2
    rw [nl, nI_add]
    exact hrec _ ⟨g3, rfl, F2.tr F3 (by simp) (by simp) (by simp), c1, c2⟩
  · rintro rec _ ⟨g2, rfl, F2, b1, b2⟩
    simp only []
    rw [if_pos (nI_le (Nat.le_refl _) (by omega))]
    exact Sat.of ⟨F2, b1⟩
theorem reachedB {p : Pl} (hw : WP p) {f : Fl} {g : G} (hP : PB p g) (hF : FB p f g) (hW : WF p f) {t s0 n : Nat} (ht : t ≤ 9999) (hs : s0 < pS p) (hn : n ≤ 480) :
    Sat (fB_M_holdersOf (nI t) (nI s0) (nI n) g) (fun r => Fr [56, 57] [] w0 g r.2 ∧ r.1 = nI (sq p f t s0 n).1) := by
  have h1 := hw.c
  unfold fB_M_holdersOf
  refine (startB (p := p) (f := f) (t := t) (s0 := s0) (by omega) g).bind ?_
  rintro g1 ⟨F1, a1, a2⟩
  refine Sat.lp (fun k s => ∃ g', s = (nI k, g') ∧ Fr [56, 57] [] w0 g g' ∧ g'.1 56 = nI (sq p f t s0 k).1 ∧ g'.1 57 = nI (sq p f t s0 k).2) n (by omega) ⟨g1, rfl, F1, a1, a2⟩ ?_ ?_
  · rintro rec k _ hk ⟨g2, rfl, F2, b1, b2⟩ hrec
    have ok := sq_ok (p := p) (f := f) (t := t) (s0 := s0) (by omega) k
    simp only []
    rw [if_neg (nI_ge hk (by omega)), nI_add]
    refine (carriesB hw (hP.fr F2 (by simp) (by simp)) (hF.fr F2 (by simp)) hW (by omega) ok.1 ok.2 b1 b2).bind ?_
    rintro g3 ⟨F3, c1, c2⟩
    rw [nl, nI_add]
    exact hrec _ ⟨g3, rfl, F2.tr F3 (by simp) (by simp) (by simp), c1, c2⟩
  · rintro rec _ ⟨g2, rfl, F2, b1, b2⟩
    simp only []
    rw [if_pos (nI_le (Nat.le_refl _) (by omega))]
    exact Sat.of ⟨F2, b1⟩
/-- the tick, at least where sites are -/
theorem tick3 {p : Pl} {f : Fl} {gA gB : G} (h : RS p f gA gB) (a : Int32) : (WP p ∧ ∃ t, t ≤ 9999 ∧ a = nI t ∧ fA_D_isTick a gA = some (nI 1) ∧ fB_M_isTick a gB = some (nI 1)) ∨
    (fA_D_isTick a gA = some (nI 0) ∧ (fB_M_isTick a gB = some (nI 0) ∨ (fB_M_isTick a gB = some (nI 1) ∧ pS p = 0))) := by
  by_cases ht : rg 10000 a
  · obtain ⟨t, ht, rfl⟩ := ht
    rcases h.1 with ⟨w, e⟩ | ⟨z, e⟩
    · exact Or.inl ⟨w, t, by omega, rfl, tickA_t h w (by omega), tickB_t (by omega) _⟩
    · have : ¬ WP p := fun w => by
        have := w.c
        unfold ZP at z
        omega
      refine Or.inr ⟨tick_z h this _, Or.inr ⟨tickB_t (by omega) _, ?_⟩⟩
      unfold ZP at z
      omega
  · exact Or.inr ⟨(tick_f h ht).1, Or.inl ((tick_f h ht).2 _)⟩
theorem rg0 (x : Int32) : ¬ rg 0 x := fun ⟨j, hj, _⟩ => by omega
theorem c_holders {p : Pl} {f : Fl} {gA gB : G} (h : RS p f gA gB) (hA : CA p f gA) (hB : CB p f gB) (a b c : Int32) : Eq2 (fA_D_holders a b c gA) (fB_M_holders a b c gB) := by
  have hl := h.lt
  have no : ∃ z gA' gB', some ((-1 : Int32), gA) = some (z, gA') ∧ some ((-1 : Int32), gB) = some (z, gB') ∧ Rel gA' gB' := ⟨_, _, _, rfl, rfl, p, f, h, hA, hB⟩
  unfold fA_D_holders fB_M_holders
  rcases tick3 h a with ⟨hw, t, ht, rfl, t1, t2⟩ | ⟨t1, t2 | ⟨t2, t3⟩⟩
  · rw [t1, t2, Option.bind_some, Option.bind_some, if_neg i10, if_neg i10]
    by_cases hb : rg (pS p) b
    · obtain ⟨s, hs, rfl⟩ := hb
      rw [siteA_t h.2.2.1 hs (by omega), siteB_t h.2.2.2.1 hs (by omega), Option.bind_some, Option.bind_some, if_neg i10, if_neg i10, show (480 : Int32) = nI 480 from rfl]
      by_cases hc : rg 481 c
      · obtain ⟨n, hn, rfl⟩ := hc
        obtain ⟨g1, e1, F1, R1, C1, L1, P1, U1⟩ := look2 h hw hA
        obtain ⟨⟨r2, g2⟩, e2, F2, er2⟩ := reachedA hw P1 L1.2.1 U1 ht hs (show n ≤ 480 by omega)
        have er2 : r2 = nI (sq p f t s n).1 := er2
        obtain ⟨⟨r3, g3⟩, e3, F3, er3⟩ := reachedB hw h.2.2.2.1 h.2.2.2.2.2.1 h.2.2.2.2.2.2.1 ht hs (show n ≤ 480 by omega)
        have er3 : r3 = nI (sq p f t s n).1 := er3
        rw [three_t (by omega) (by decide), inB_t hn (by decide) (by decide), Option.bind_some, if_neg i10, e1, Option.bind_some, e2, Option.bind_some, e3, Option.bind_some]
        exact ⟨_, _, _, rfl, congrArg (fun z => some (z, g3)) (er3.trans er2.symm), Rel.mk2 h (F1.tr F2 (by decide) (by decide) (by decide)) (F3.wd (by decide) (by decide) (by decide)) (C1.fr F2 (by simp) (by simp)) (hB.fr F3 (by simp) (by simp))⟩
      · rw [three_f hc (by decide), inB_f hc (by decide) (by decide), Option.bind_some, if_pos i00]
        exact no
    · rw [siteA_f h.2.2.1 hb, siteB_f h.2.2.2.1 hb (by omega), Option.bind_some, Option.bind_some, if_pos i00, if_pos i00]
      exact no
  · rw [t1, t2, Option.bind_some, Option.bind_some, if_pos i00, if_pos i00]
    exact no
  · rw [t1, t2, Option.bind_some, Option.bind_some, if_pos i00, if_neg i10, siteB_f h.2.2.2.1 (by rw [t3]; exact rg0 b) (by omega), Option.bind_some, if_pos i00]
    exact no
theorem c_carry {p : Pl} {f : Fl} {gA gB : G} (h : RS p f gA gB) (hA : CA p f gA) (hB : CB p f gB) (a b c : Int32) : Eq2 (fA_D_carry a b c gA) (fB_M_carry a b c gB) := by
  have hl := h.lt
  have no : ∃ z gA' gB', some ((-1 : Int32), gA) = some (z, gA') ∧ some ((-1 : Int32), gB) = some (z, gB') ∧ Rel gA' gB' := ⟨_, _, _, rfl, rfl, p, f, h, hA, hB⟩
  unfold fA_D_carry fB_M_carry
  rcases tick3 h a with ⟨hw, t, ht, rfl, t1, t2⟩ | ⟨t1, t2 | ⟨t2, t3⟩⟩
  · have h1 := hw.c
    rw [t1, t2, Option.bind_some, Option.bind_some, if_neg i10, if_neg i10]
    by_cases hb : rg (pS p) b
    · obtain ⟨s, hs, rfl⟩ := hb
      rw [siteA_t h.2.2.1 hs (by omega), siteB_t h.2.2.2.1 hs (by omega), Option.bind_some, Option.bind_some, if_neg i10, if_neg i10]
      by_cases hc : rg (pS p) c
      · obtain ⟨d, hd, rfl⟩ := hc
        obtain ⟨g1, e1, F1, R1, C1, L1, P1, U1⟩ := look2 h hw hA
        rw [siteA_t h.2.2.1 hd (by omega), siteB_t h.2.2.2.1 hd (by omega), Option.bind_some, Option.bind_some, if_neg i10, if_neg i10, e1, Option.bind_some]
        obtain ⟨q, hq⟩ : ∃ q : Nat → Bool, q = fun n => (sq p f t s n).1.testBit d := ⟨_, rfl⟩
        obtain ⟨ans, hans⟩ : ∃ ans : Int32, ans = if fi q (2 * pY p + 1) < 2 * pY p + 1 then nI (fi q (2 * pY p + 1)) else m1 := ⟨_, rfl⟩
        have stop : ∀ n, n < 2 * pY p + 1 → (∀ k, k < n → q k = false) → q n = true → ans = nI n := by
          intro n hn h2 h3
          rw [hans, fi_eq (by omega) h2 (fun _ => h3), if_pos hn]
        have stopE : (∀ k, k < 2 * pY p + 1 → q k = false) → ans = m1 := by
          intro h2
          rw [hans, fi_eq (Nat.le_refl _) h2 (fun z => absurd z (Nat.lt_irrefl _)), if_neg (Nat.lt_irrefl _)]
        have eA : Sat (Option.bind (fA_Courier_start (nI s) g1) fun x5 => Lp (α := Int32 × G) (fun rec6 s6 => (if (2 * (s6.2.1 303)) < s6.1 then some ((-1), s6.2) else Option.bind (fA_Courier_hasReached (nI d) s6.2) fun x7 => (if x7 = 0 then Option.bind (fA_D_inCycle (nI t + s6.1) s6.2) fun x8 => Option.bind (fA_Courier_step (s6.2.1 2700) x8 s6.2) fun x9 => rec6 (s6.1 + 1, x9) else some (s6.1, s6.2)))) FU (0, x5)) (fun r => Fr [13700, 13701] [] w0 g1 r.2 ∧ r.1 = ans) := by
          refine (startA (p := p) (f := f) (t := t) (s0 := s) (by omega) g1).bind ?_
          rintro g2 ⟨F2, a1, a2⟩
          refine Sat.lp (fun k s1 => ∃ g', s1 = (nI k, g') ∧ Fr [13700, 13701] [] w0 g1 g' ∧ g'.1 13700 = nI (sq p f t s k).1 ∧ g'.1 13701 = nI (sq p f t s k).2 ∧ ∀ j, j < k → q j = false) (2 * pY p + 1) (by omega) ⟨g2, rfl, F2, a1, a2, fun j hj => by omega⟩ ?_ ?_
          · rintro rec k _ hk ⟨g3, rfl, F3, b1, b2, b3⟩ hrec
            have P3 := P1.fr F3 (by simp) (by simp)
            have ok := sq_ok (p := p) (f := f) (t := t) (s0 := s) (by omega) k
            unfold fA_Courier_hasReached
            simp only []
            simp only [nl]
            rw [P3.1.2.2.2.1, nI_mul, if_neg (nI_nlt (by omega) (by omega)), b1, n_31 (k := d) (by omega), n_shr (by omega) (by omega), n_and, ite_b0]
            cases hb : (sq p f t s k).1.testBit d
            · rw [if_neg (by decide), Option.bind_some, if_pos rfl, nI_add, inCycleA hw P3 (by omega), Option.bind_some, (F3.1 2700 (by simp)).trans U1]
              refine (stepA hw P3 (L1.2.1.fr F3 (by simp)) (Nat.mod_lt _ (by omega)) ok.1 ok.2 b1 b2).bind ?_
              rintro g4 ⟨F4, c1, c2⟩
              rw [nS_per hw] at c1
              rw [nK_per hw] at c2
              rw [nI_add]
              refine hrec _ ⟨g4, rfl, F3.tr F4 (by simp) (by simp) (by simp), c1, c2, fun j hj => ?_⟩
              by_cases e : j = k
              · rw [e, hq]; exact hb
              · exact b3 j (by omega)
            · rw [if_pos rfl, Option.bind_some, if_neg (by decide)]
              exact Sat.of ⟨F3, (stop k (by omega) b3 (by rw [hq]; exact hb)).symm⟩
          · rintro rec _ ⟨g3, rfl, F3, b1, b2, b3⟩
            have P3 := P1.fr F3 (by simp) (by simp)
            simp only []
            rw [P3.1.2.2.2.1, nl, nI_mul, if_pos (nI_lt (by omega) (by omega))]
            exact Sat.of ⟨F3, (stopE b3).symm⟩
        have eB : Sat (Option.bind (fB_M_begins (nI s) gB) fun x4 => Lp (α := Int32 × G) (fun rec5 s5 => (if (2 * (s5.2.1 7)) < s5.1 then some ((-1), s5.2) else (if (((s5.2.1 56) >>> (nI d &&& 31)) &&& 1) = 1 then some (s5.1, s5.2) else Option.bind (fB_M_carries (nI t + s5.1) s5.2) fun x6 => rec5 (s5.1 + 1, x6)))) FU (0, x4)) (fun r => Fr [56, 57] [] w0 gB r.2 ∧ r.1 = ans) := by
          refine (startB (p := p) (f := f) (t := t) (s0 := s) (by omega) gB).bind ?_
          rintro g2 ⟨F2, a1, a2⟩
          refine Sat.lp (fun k s1 => ∃ g', s1 = (nI k, g') ∧ Fr [56, 57] [] w0 gB g' ∧ g'.1 56 = nI (sq p f t s k).1 ∧ g'.1 57 = nI (sq p f t s k).2 ∧ ∀ j, j < k → q j = false) (2 * pY p + 1) (by omega) ⟨g2, rfl, F2, a1, a2, fun j hj => by omega⟩ ?_ ?_
          · rintro rec k _ hk ⟨g3, rfl, F3, b1, b2, b3⟩ hrec
            have P3 := h.2.2.2.1.fr F3 (by simp) (by simp)
            have ok := sq_ok (p := p) (f := f) (t := t) (s0 := s) (by omega) k
            simp only []
            simp only [nl]
            rw [P3.1.2.2.2.2.2.2.1, nI_mul, if_neg (nI_nlt (by omega) (by omega)), b1, n_31 (k := d) (by omega), n_shr (by omega) (by omega), n_and, ite_b1]
            cases hb : (sq p f t s k).1.testBit d
            · rw [if_neg (by decide), nI_add]
              refine (carriesB hw P3 (h.2.2.2.2.2.1.fr F3 (by simp)) h.2.2.2.2.2.2.1 (by omega) ok.1 ok.2 b1 b2).bind ?_
              rintro g4 ⟨F4, c1, c2⟩
              rw [nI_add]
              refine hrec _ ⟨g4, rfl, F3.tr F4 (by simp) (by simp) (by simp), c1, c2, fun j hj => ?_⟩
              by_cases e : j = k
              · rw [e, hq]; exact hb
              · exact b3 j (by omega)
            · rw [if_pos rfl]
              exact Sat.of ⟨F3, (stop k (by omega) b3 (by rw [hq]; exact hb)).symm⟩
          · rintro rec _ ⟨g3, rfl, F3, b1, b2, b3⟩
            have P3 := h.2.2.2.1.fr F3 (by simp) (by simp)
            simp only []
            rw [P3.1.2.2.2.2.2.2.1, nl, nI_mul, if_pos (nI_lt (by omega) (by omega))]
            exact Sat.of ⟨F3, (stopE b3).symm⟩
        obtain ⟨⟨r2, g2⟩, e2, F2, er2⟩ := eA
        obtain ⟨⟨r3, g3⟩, e3, F3, er3⟩ := eB
        have er2 : r2 = ans := er2
        have er3 : r3 = ans := er3
        rw [e2, e3]
        exact ⟨_, _, _, rfl, congrArg (fun z => some (z, g3)) (er3.trans er2.symm), Rel.mk2 h (F1.tr F2 (by decide) (by decide) (by decide)) (F3.wd (by decide) (by decide) (by decide)) (C1.fr F2 (by simp) (by simp)) (hB.fr F3 (by simp) (by simp))⟩
      · rw [siteA_f h.2.2.1 hc, siteB_f h.2.2.2.1 hc (by omega), Option.bind_some, Option.bind_some, if_pos i00, if_pos i00]
        exact no
    · rw [siteA_f h.2.2.1 hb, siteB_f h.2.2.2.1 hb (by omega), Option.bind_some, Option.bind_some, if_pos i00, if_pos i00]
      exact no
  · rw [t1, t2, Option.bind_some, Option.bind_some, if_pos i00, if_pos i00]
    exact no
  · rw [t1, t2, Option.bind_some, Option.bind_some, if_pos i00, if_neg i10, siteB_f h.2.2.2.1 (by rw [t3]; exact rg0 b) (by omega), Option.bind_some, if_pos i00]
    exact no
theorem c_source {p : Pl} {f : Fl} {gA gB : G} (h : RS p f gA gB) (hA : CA p f gA) (hB : CB p f gB) (a b c : Int32) : Eq2 (fA_D_source a b c gA) (fB_M_source a b c gB) := by
  have hl := h.lt
  have no : ∃ z gA' gB', some ((-1 : Int32), gA) = some (z, gA') ∧ some ((-1 : Int32), gB) = some (z, gB') ∧ Rel gA' gB' := ⟨_, _, _, rfl, rfl, p, f, h, hA, hB⟩
  unfold fA_D_source fB_M_source
  rw [h.2.2.1.1.2.2.2.2.2.2.2, h.2.2.2.1.1.2.2.2.2.2.1]
  by_cases s0 : pS p = 0
  · rw [s0, if_pos i00]
    rcases tick3 h a with ⟨_, t, _, rfl, t1, _⟩ | ⟨t1, _⟩
    · rw [t1, Option.bind_some, if_neg i10, if_pos i00]
      exact no
    · rw [t1, Option.bind_some, if_pos i00]
      exact no
  · have sn : ¬ nI (pS p) = (0 : Int32) := nI_ne0 (by omega) (by omega)
    rw [if_neg sn, if_neg sn]
    rcases tick3 h a with ⟨hw, t, ht, rfl, t1, t2⟩ | ⟨t1, t2 | ⟨t2, t3⟩⟩
    · have h1 := hw.c
      rw [t1, t2, Option.bind_some, Option.bind_some, if_neg i10, if_neg i10]
      by_cases hb : rg 481 b
      · obtain ⟨n, hn, rfl⟩ := hb
        rw [if_neg (nI_pos (by omega)), show (480 : Int32) = nI 480 from rfl, if_neg (nI_nlt (by omega) (by decide)), inB_t hn (by decide) (by decide), Option.bind_some, if_neg i10]
        by_cases hc : rg 2 c
        · obtain ⟨w, hw2, rfl⟩ := hc
          obtain ⟨g1, e1, F1, R1, C1, L1, P1, U1⟩ := look2 h hw hA
          obtain ⟨d, hd⟩ : ∃ d : Nat → Nat, d = fun s => pc (sq p f t s n).1 := ⟨_, rfl⟩
          have dl : ∀ s, s < pS p → d s ≤ 6 := fun s hs => by rw [hd]; exact pc_le (n := 6) (sq_ok (by omega) n).1 (by decide)
          obtain ⟨bs', hbs⟩ : ∃ bs' : Nat → Int32 × Nat, bs' = fun k => ((if mx d k = 0 then m1 else nI (fi (fun i => decide (d i = mx d k)) k)), mx d k) := ⟨_, rfl⟩
          have step : ∀ k, k < pS p → (if d k ≤ mx d k then bs' k else (nI k, d k)) = bs' (k + 1) := by
            intro k hk
            have em : mx d (k + 1) = if mx d k < d k then d k else mx d k := rfl
            rw [hbs]
            dsimp only
            by_cases l : d k ≤ mx d k
            · have em1 : mx d (k + 1) = mx d k := by rw [em, if_neg (show ¬ mx d k < d k by omega)]
              rw [if_pos l, em1]
              by_cases z : mx d k = 0
              · rw [if_pos z, if_pos z]
              · rw [if_neg z, if_neg z]
                rcases mx_is (f := d) (n := k) with e | ⟨i, hi, e⟩
                · exact absurd e z
                · obtain ⟨j, j1, j2, j3, j4⟩ := first_of (n := k) (q := d) (v := mx d k) ⟨i, hi, e.symm⟩
                  have : fi (fun i => decide (d i = mx d k)) (k + 1) = j := fi_eq (by omega) (fun m hm => decide_eq_false (j3 m hm)) (fun _ => decide_eq_true j2)
                  rw [this, j4]
            · have em2 : mx d (k + 1) = d k := by rw [em, if_pos (show mx d k < d k by omega)]
              rw [if_neg l, em2, if_neg (show ¬ d k = 0 by omega)]
              have : fi (fun i => decide (d i = d k)) (k + 1) = k := fi_eq (by omega) (fun m hm => decide_eq_false (fun e => by
                have := mx_ge (f := d) hm
                omega)) (fun _ => decide_eq_true rfl)
              rw [this]
          have ml : ∀ k, k ≤ pS p → mx d k ≤ 6 := fun k hk => mx_le (fun i hi => dl i (by omega))
          have eA : Sat (Lp (α := Int32 × Int32 × Int32 × G) (fun rec3 s3 => (if (s3.2.2.2.1 307) ≤ s3.2.2.1 then (if nI w = 0 then some (s3.1, s3.2.2.2) else some (s3.2.1, s3.2.2.2)) else Option.bind (fA_D_sitesReached (nI t) s3.2.2.1 (nI n) s3.2.2.2) fun x4 => Option.bind (fA_Integer_bitCount x4.1 x4.2) fun x5 => lj (α := Int32 × Int32) (fun b6 => rec3 (b6.1, b6.2, s3.2.2.1 + 1, x4.2)) fun J6 => (if x5 ≤ s3.2.1 then J6 (s3.1, s3.2.1) else J6 (s3.2.2.1, x5)))) FU ((-1), 0, 0, g1)) (fun r => Fr [13700, 13701] [] w0 g1 r.2 ∧ r.1 = if w = 0 then (bs' (pS p)).1 else nI (bs' (pS p)).2) := by
            refine Sat.lp (fun k s => ∃ g', s = ((bs' k).1, nI (bs' k).2, nI k, g') ∧ Fr [13700, 13701] [] w0 g1 g') (pS p) (by omega) ⟨g1, by rw [hbs]; rfl, Fr.rf⟩ ?_ ?_
            · rintro rec k _ hk ⟨g2, rfl, F2⟩ hrec
              have P2 := P1.fr F2 (by simp) (by simp)
              have m2 : (bs' k).2 = mx d k := by rw [hbs]
              have := ml k (by omega)
              have := dl k hk
              simp only []
              rw [P2.1.2.2.2.2.2.2.2, if_neg (nI_ge hk (by omega))]
              refine (reachedA hw P2 (L1.2.1.fr F2 (by simp)) ((F2.1 2700 (by simp)).trans U1) ht hk (show n ≤ 480 by omega)).bind ?_
              rintro ⟨r3, g3⟩ ⟨F3, er3⟩
              have er3 : r3 = nI (sq p f t k n).1 := er3
              have ok := (sq_ok (p := p) (f := f) (t := t) (s0 := k) (by omega) n).1
              dsimp only
              rw [er3, bitCount_eq (Nat.lt_trans ok (by decide)), Option.bind_some, lj_eq, m2]
              have hd2 : pc (sq p f t k n).1 = d k := by rw [hd]
              rw [hd2, ite_len (by omega) (by omega)]
              dsimp only
              rw [nl, nI_add]
              have st := step k hk
              by_cases l : d k ≤ mx d k
              · rw [if_pos l] at st ⊢
                exact hrec _ ⟨g3, by rw [← st, m2], F2.tr F3 (by simp) (by simp) (by simp)⟩
              · rw [if_neg l] at st ⊢
                exact hrec _ ⟨g3, by rw [← st], F2.tr F3 (by simp) (by simp) (by simp)⟩
            · rintro rec _ ⟨g2, rfl, F2⟩
              have P2 := P1.fr F2 (by simp) (by simp)
              simp only []
              rw [P2.1.2.2.2.2.2.2.2, if_pos (nI_le (Nat.le_refl _) (by omega))]
              by_cases z : w = 0
              · subst z
                rw [if_pos i00]
                exact Sat.of ⟨F2, rfl⟩
              · rw [if_neg (show ¬ nI w = 0 from nI_ne0 (by omega) (by omega))]
                exact Sat.of ⟨F2, by rw [if_neg z]⟩
          have eB : Sat (Lp (α := Int32 × Int32 × Int32 × G) (fun rec4 s4 => (if (s4.2.2.2.1 6) ≤ s4.2.2.1 then (if nI w = 0 then some (s4.1, s4.2.2.2) else some (s4.2.1, s4.2.2.2)) else Option.bind (fB_M_holdersOf (nI t) s4.2.2.1 (nI n) s4.2.2.2) fun x5 => Option.bind (fB_M_manyIn x5.1 x5.2) fun x6 => lj (α := Int32 × Int32) (fun b7 => rec4 (b7.1, b7.2, s4.2.2.1 + 1, x5.2)) fun J7 => (if s4.2.1 < x6 then J7 (s4.2.2.1, x6) else J7 (s4.1, s4.2.1)))) FU ((-1), 0, 0, gB)) (fun r => Fr [56, 57] [] w0 gB r.2 ∧ r.1 = if w = 0 then (bs' (pS p)).1 else nI (bs' (pS p)).2) := by
            refine Sat.lp (fun k s => ∃ g', s = ((bs' k).1, nI (bs' k).2, nI k, g') ∧ Fr [56, 57] [] w0 gB g') (pS p) (by omega) ⟨gB, by rw [hbs]; rfl, Fr.rf⟩ ?_ ?_
            · rintro rec k _ hk ⟨g2, rfl, F2⟩ hrec
              have P2 := h.2.2.2.1.fr F2 (by simp) (by simp)
              have m2 : (bs' k).2 = mx d k := by rw [hbs]
              have := ml k (by omega)
              have := dl k hk
              simp only []
              rw [P2.1.2.2.2.2.2.1, if_neg (nI_ge hk (by omega))]
              refine (reachedB hw P2 (h.2.2.2.2.2.1.fr F2 (by simp)) h.2.2.2.2.2.2.1 ht hk (show n ≤ 480 by omega)).bind ?_
              rintro ⟨r3, g3⟩ ⟨F3, er3⟩
              have er3 : r3 = nI (sq p f t k n).1 := er3
              have ok := (sq_ok (p := p) (f := f) (t := t) (s0 := k) (by omega) n).1
              have hd2 : pc (sq p f t k n).1 = d k := by rw [hd]
              dsimp only
              rw [er3, manyB (Nat.lt_trans ok (by decide)), Option.bind_some, lj_eq, m2, hd2, ite_ltn (by omega) (by omega)]
              dsimp only
              rw [nl, nI_add]
              have st := step k hk
              by_cases l : mx d k < d k
              · rw [if_neg (by omega)] at st
                rw [if_pos l]
                exact hrec _ ⟨g3, by rw [← st], F2.tr F3 (by simp) (by simp) (by simp)⟩
              · rw [if_pos (by omega)] at st
                rw [if_neg l]
                exact hrec _ ⟨g3, by rw [← st, m2], F2.tr F3 (by simp) (by simp) (by simp)⟩
            · rintro rec _ ⟨g2, rfl, F2⟩
              have P2 := h.2.2.2.1.fr F2 (by simp) (by simp)
              simp only []
              rw [P2.1.2.2.2.2.2.1, if_pos (nI_le (Nat.le_refl _) (by omega))]
              by_cases z : w = 0
              · subst z
                rw [if_pos i00]
                exact Sat.of ⟨F2, rfl⟩
              · rw [if_neg (show ¬ nI w = 0 from nI_ne0 (by omega) (by omega))]
                exact Sat.of ⟨F2, by rw [if_neg z]⟩
          obtain ⟨⟨r2, g2⟩, e2, F2, er2⟩ := eA
          obtain ⟨⟨r3, g3⟩, e3, F3, er3⟩ := eB
          have er2 : r2 = if w = 0 then (bs' (pS p)).1 else nI (bs' (pS p)).2 := er2
          have er3 : r3 = if w = 0 then (bs' (pS p)).1 else nI (bs' (pS p)).2 := er3
          rw [show (1 : Int32) = nI 1 from rfl, three_t (n := 1) (show w ≤ 1 by omega) (by decide), e1, Option.bind_some, inB_t hw2 (by decide) (by decide), Option.bind_some, if_neg (show ¬ nI 1 = 0 by decide)]
          have e2' := e2
          have e3' := e3
          refine ⟨_, _, _, e2, ?_, Rel.mk2 h (F1.tr F2 (by decide) (by decide) (by decide)) (F3.wd (by decide) (by decide) (by decide)) (C1.fr F2 (by simp) (by simp)) (hB.fr F3 (by simp) (by simp))⟩
          rw [er2, ← er3]
          exact e3
        · rw [show (1 : Int32) = nI 1 from rfl, three_f (n := 1) hc (by decide), inB_f hc (by decide) (by decide), Option.bind_some, if_pos i00]
          exact no
      · have eb : fB_M_isIn b 0 480 gB = some (nI 0) := inB_f hb (by decide) (by decide) _
        rw [eb, Option.bind_some, if_pos i00]
        by_cases l : b < 0
        · rw [if_pos l]
          exact no
        · rw [if_neg l]
          obtain ⟨j, hj, rfl⟩ := nI_of l
          have : 480 < j := by
            apply Classical.byContradiction
            intro hl
            exact hb ⟨j, by omega, rfl⟩
          rw [show (480 : Int32) = nI 480 from rfl, if_pos (nI_lt this hj)]
          exact no
    · rw [t1, t2, Option.bind_some, Option.bind_some, if_pos i00, if_pos i00]
      exact no
    · exact absurd t3 s0
