/-! THE CALLS: carry, holders, source -/
theorem ite_b1 {α : Type} {m k : Nat} {x y : α} : (if nI ((m >>> k) &&& 1) = nI 1 then x else y) = if m.testBit k = true then x else y := by
  rw [n_bit]
  cases m.testBit k <;> rfl
theorem ite_b0 {α : Type} {m k : Nat} {x y : α} : (if nI ((m >>> k) &&& 1) = nI 0 then x else y) = if m.testBit k = true then y else x := by
  rw [n_bit]
  cases m.testBit k <;> rfl
/-- one that is up sees a site -/
def vb (p : Pl) (f : Fl) (t s c : Nat) : Bool := (who p f t (sx p s) (sy p s) &&& us p f).testBit c
theorem vb_per {p : Pl} (hw : WP p) (f : Fl) (t s c : Nat) : vb p f (t % pY p) s c = vb p f t s c := by
  unfold vb
  rw [who_per hw]
/-- who has it next -/
def nK (p : Pl) (f : Fl) (t S K : Nat) : Nat := mk (fun c => K.testBit c || decide (∃ s, s < pS p ∧ S.testBit s = true ∧ vb p f t s c = true)) 8
def nS (p : Pl) (f : Fl) (t S K : Nat) : Nat := mk (fun s => S.testBit s || decide (s < pS p ∧ ∃ c, c < pK p ∧ (nK p f t S K).testBit c = true ∧ vb p f t s c = true)) 6
theorem nK_per {p : Pl} (hw : WP p) (f : Fl) (t S K : Nat) : nK p f (t % pY p) S K = nK p f t S K := by
  unfold nK
  simp only [vb_per hw]
theorem nS_per {p : Pl} (hw : WP p) (f : Fl) (t S K : Nat) : nS p f (t % pY p) S K = nS p f t S K := by
  unfold nS
  simp only [vb_per hw, nK_per hw]
def Sb (p : Pl) (f : Fl) (K : Nat) : Prop := K < 256 ∧ ∀ c, K.testBit c = true → (us p f).testBit c = true
theorem nK_sb {p : Pl} {f : Fl} {t S K : Nat} (h : Sb p f K) : Sb p f (nK p f t S K) := by
  refine ⟨mk_lt _ 8, fun c hc => ?_⟩
  unfold nK at hc
  rw [mk_bit, Bool.and_eq_true, Bool.or_eq_true] at hc
  rcases hc.2 with z | z
  · exact h.2 c z
  · obtain ⟨s, _, _, hv⟩ := of_decide_eq_true z
    unfold vb at hv
    rw [Nat.testBit_and, Bool.and_eq_true] at hv
    exact hv.2
theorem us_K {p : Pl} {f : Fl} {c : Nat} (h : (us p f).testBit c = true) : c < pK p := by
  unfold us at h
  rw [mk_bit] at h
  simp at h
  exact h.2.1
set_option maxHeartbeats 1000000 in
theorem stepA {p : Pl} (hw : WP p) {f : Fl} {g : G} (hP : PA p g) (hV : VF p f g) {t S K : Nat} (ht : t < pY p) (hS : S < 64) (hK : Sb p f K) (eS : g.1 13700 = nI S) (eK : g.1 13701 = nI K) :
    Sat (fA_Courier_step (nI (us p f)) (nI t) g) (fun g' => Fr [13700, 13701] [] w0 g g' ∧ g'.1 13700 = nI (nS p f t S K) ∧ g'.1 13701 = nI (nK p f t S K)) := by
  have h1 := hw.c
  have ul := us_lt p f
  unfold fA_Courier_step
  refine Sat.lp (fun s s1 => ∃ g', s1 = (nI s, g') ∧ Fr [13700, 13701] [] w0 g g' ∧ g'.1 13700 = nI S ∧ g'.1 13701 = nI (mk (fun c => K.testBit c || decide (∃ s', s' < s ∧ S.testBit s' = true ∧ vb p f t s' c = true)) 8)) (pS p) (by omega) ⟨g, rfl, Fr.rf, eS, ?_⟩ ?_ ?_
  · rw [eK]
    congr 1
    apply mk_ext (n := 8) hK.1
    intro i _
    rw [decide_eq_false (by rintro ⟨s', hl, _⟩; omega), Bool.or_false]
  · rintro rec s _ hs ⟨g1, rfl, F1, a1, a2⟩ hrec
    have P1 := hP.fr F1 (by simp) (by simp)
    have V1 := hV.fr F1 (by simp)
    have q := P1.2.2.2.1 s hs
    have hq := hw.s hs
    have wl := ws_lt p f (us p f) t (sx p s) (sy p s)
    unfold fA_Courier_hasReached
    simp only []
    simp only [nl, lj_eq]
    rw [P1.1.2.2.2.2.2.2.2, if_neg (nI_ge hs (by omega)), a1, n_31 (k := s) (by omega), n_shr (a := S) (by omega) (by omega), n_and, ite_b0]
    have fin : ∀ v g', Fr [13700, 13701] [] w0 g g' → g'.1 13700 = nI S → v = mk (fun c => K.testBit c || decide (∃ s', s' < s + 1 ∧ S.testBit s' = true ∧ vb p f t s' c = true)) 8 → g'.1 13701 = nI v → Sat (rec (nI s + nI 1, g')) (fun g' => Fr [13700, 13701] [] w0 g g' ∧ g'.1 13700 = nI (nS p f t S K) ∧ g'.1 13701 = nI (nK p f t S K)) := by
      intro v g' Fg b1 ev b2
      rw [nI_add]
      exact hrec _ ⟨g', rfl, Fg, b1, by rw [b2, ev]⟩
    have ex : ∀ c, (∃ s', s' < s + 1 ∧ S.testBit s' = true ∧ vb p f t s' c = true) ↔ ((∃ s', s' < s ∧ S.testBit s' = true ∧ vb p f t s' c = true) ∨ (S.testBit s = true ∧ vb p f t s c = true)) := by
      intro c
      constructor
      · rintro ⟨s', hl, b1, b2⟩
        by_cases e : s' = s
        · subst e
          exact Or.inr ⟨b1, b2⟩
        · exact Or.inl ⟨s', by omega, b1, b2⟩
      · rintro (⟨s', hl, b1, b2⟩ | ⟨b1, b2⟩)
        · exact ⟨s', by omega, b1, b2⟩
        · exact ⟨s, by omega, b1, b2⟩
    cases hb : S.testBit s
    · rw [if_neg (by decide), Option.bind_some, if_pos rfl]
      refine fin _ g1 F1 a1 ?_ a2
      apply mk_cong
      intro c _
      congr 1
      apply decide_eq_decide.mpr
      rw [ex c, hb]
      simp
    · rw [if_pos rfl, Option.bind_some, if_neg (by decide), ag_nI (by omega) (by decide), q.1, ag_nI (by omega) (by decide), q.2.1, whoA hw P1 V1 ht hq.1 hq.2.1, Option.bind_some, a2, ← mk_self (n := 8) wl, mk_or, bv_eq]
      refine fin _ _ (F1.sS (by simp)) a1 ?_ rfl
      apply mk_cong
      intro c _
      apply Bool.eq_iff_iff.mpr
      rw [Bool.or_eq_true, Bool.or_eq_true, Bool.or_eq_true, decide_eq_true_iff, decide_eq_true_iff, ex c, hb]
      show _ ∨ vb p f t s c = true ↔ _
      constructor
      · rintro ((a | b) | c)
        · exact Or.inl a
        · exact Or.inr (Or.inl b)
        · exact Or.inr (Or.inr ⟨rfl, c⟩)
      · rintro (a | b | ⟨_, c⟩)
        · exact Or.inl (Or.inl a)
        · exact Or.inl (Or.inr b)
        · exact Or.inr c
  · rintro rec _ ⟨g1, rfl, F1, a1, a2⟩
    have P1 := hP.fr F1 (by simp) (by simp)
    have a2 : g1.1 13701 = nI (nK p f t S K) := a2
    have sbK := nK_sb (t := t) (S := S) hK
    simp only []
    rw [P1.1.2.2.2.2.2.2.2, if_pos (nI_le (Nat.le_refl _) (by omega))]
    refine Sat.lp (fun s s1 => ∃ g', s1 = (nI s, g') ∧ Fr [13700, 13701] [] w0 g g' ∧ g'.1 13701 = nI (nK p f t S K) ∧ g'.1 13700 = nI (mk (fun i => S.testBit i || decide (i < s ∧ ∃ c, c < pK p ∧ (nK p f t S K).testBit c = true ∧ vb p f t i c = true)) 6)) (pS p) (by omega) ⟨g1, rfl, F1, a2, ?_⟩ ?_ ?_
    · rw [a1]
      congr 1
      apply mk_ext (n := 6) hS
      intro i _
      rw [decide_eq_false (by rintro ⟨hl, _⟩; omega), Bool.or_false]
    · rintro rec2 s _ hs ⟨g2, rfl, F2, c2, c1⟩ hrec2
      have P2 := hP.fr F2 (by simp) (by simp)
      have V2 := hV.fr F2 (by simp)
      have q := P2.2.2.2.1 s hs
      have hq := hw.s hs
      have wl := ws_lt p f (nK p f t S K) t (sx p s) (sy p s)
      simp only []
      simp only [nl, lj_eq]
      rw [P2.1.2.2.2.2.2.2.2, if_neg (nI_ge hs (by omega)), ag_nI (by omega) (by decide), q.1, ag_nI (by omega) (by decide), q.2.1, c2, whoA hw P2 V2 ht hq.1 hq.2.1, Option.bind_some, ite_eqn (by omega) (by decide), c1, n_31 (k := s) (by omega), n_shl _ (by omega), n_or, bv_eq, nI_add]
      have key : who p f t (sx p s) (sy p s) &&& nK p f t S K ≠ 0 ↔ ∃ c, c < pK p ∧ (nK p f t S K).testBit c = true ∧ vb p f t s c = true := by
        rw [and_ne0 (n := 8) (who_lt p f t _ _)]
        constructor
        · rintro ⟨c, _, d1, d2⟩
          have d3 := sbK.2 c d2
          exact ⟨c, us_K d3, d2, by unfold vb; rw [Nat.testBit_and, d1, d3]; rfl⟩
        · rintro ⟨c, hc, d1, d2⟩
          unfold vb at d2
          rw [Nat.testBit_and, Bool.and_eq_true] at d2
          exact ⟨c, by omega, d2.1, d1⟩
      have es := mkp_succ (fun _ => true) (c := s) (n := 6) (by omega)
      by_cases z : who p f t (sx p s) (sy p s) &&& nK p f t S K = 0
      · rw [if_pos z]
        refine hrec2 _ ⟨g2, rfl, F2, c2, ?_⟩
        rw [c1]
        congr 1
        apply mk_cong
        intro i _
        congr 1
        apply decide_eq_decide.mpr
        constructor
        · rintro ⟨hl, hx⟩
          exact ⟨by omega, hx⟩
        · rintro ⟨hl, hx⟩
          refine ⟨?_, hx⟩
          by_cases e : i = s
          · subst e
            exact absurd (key.mpr hx) (fun q => q z)
          · omega
      · rw [if_neg z]
        refine hrec2 _ ⟨_, rfl, F2.sS (by simp), c2, ?_⟩
        show nI _ = nI _
        congr 1
        apply Nat.eq_of_testBit_eq
        intro i
        rw [Nat.testBit_or, mk_bit, mk_bit, one_bit (by omega)]
        by_cases e : i = s
        · subst e
          have : i < 6 := by omega
          have h3 : decide (i < i + 1 ∧ ∃ c, c < pK p ∧ (nK p f t S K).testBit c = true ∧ vb p f t i c = true) = true := decide_eq_true ⟨by omega, key.mp z⟩
          rw [h3]
          simp [this]
        · have h3 : decide (i < s + 1 ∧ ∃ c, c < pK p ∧ (nK p f t S K).testBit c = true ∧ vb p f t i c = true) = decide (i < s ∧ ∃ c, c < pK p ∧ (nK p f t S K).testBit c = true ∧ vb p f t i c = true) := decide_eq_decide.mpr (by constructor <;> (rintro ⟨hl, hx⟩; exact ⟨by omega, hx⟩))
          rw [h3]
          simp [e]
    · rintro rec2 _ ⟨g2, rfl, F2, c2, c1⟩
      have P2 := hP.fr F2 (by simp) (by simp)
      simp only []
      rw [P2.1.2.2.2.2.2.2.2, if_pos (nI_le (Nat.le_refl _) (by omega))]
      exact Sat.of ⟨F2, c1, c2⟩
theorem aboveB {p : Pl} (hw : WP p) {f : Fl} {g : G} (hP : PB p g) (hF : FB p f g) (hW : WF p f) {c t s : Nat} (hc : c < pK p) (ht : t < 2 ^ 20) (hs : s < pS p) : fB_M_isAbove (nI c) (nI t) (nI s) g = some (bI (vb p f t s c)) := by
  have h1 := hw.c
  have q := hP.2.2.2.1 s hs
  have hq := hw.s hs
  unfold fB_M_isAbove
  simp only [nl]
  rw [nI_mul, ag_nI (by omega) (by decide), q.1, nI_add, ag_nI (by omega) (by decide), q.2.1, seesB hw hP hF hW hc ht hq.1 hq.2.1, Option.bind_some]
  have e : vb p f t s c = (decide (fup f c = 1) && see p f c t (sx p s) (sy p s)) := by
    unfold vb
    rw [who_us hc (by omega), Bool.and_comm]
  rw [e]
  cases (decide (fup f c = 1) && see p f c t (sx p s) (sy p s)) <;> rfl
set_option maxHeartbeats 1000000 in
theorem carriesB {p : Pl} (hw : WP p) {f : Fl} {g : G} (hP : PB p g) (hF : FB p f g) (hW : WF p f) {t S K : Nat} (ht : t < 2 ^ 20) (hS : S < 64) (hK : Sb p f K) (eS : g.1 56 = nI S) (eK : g.1 57 = nI K) :
    Sat (fB_M_carries (nI t) g) (fun g' => Fr [56, 57] [] w0 g g' ∧ g'.1 56 = nI (nS p f t S K) ∧ g'.1 57 = nI (nK p f t S K)) := by
  have h1 := hw.c
  obtain ⟨I1, hI1⟩ : ∃ I1 : Nat → Nat → Nat, I1 = fun c s => mk (fun i => K.testBit i || decide (∃ s', s' < pS p ∧ (i < c ∨ (i = c ∧ s' < s)) ∧ S.testBit s' = true ∧ vb p f t s' i = true)) 8 := ⟨_, rfl⟩
  obtain ⟨I2, hI2⟩ : ∃ I2 : Nat → Nat → Nat, I2 = fun c s => mk (fun j => S.testBit j || decide (j < pS p ∧ ∃ i, i < pK p ∧ (i < c ∨ (i = c ∧ j < s)) ∧ (nK p f t S K).testBit i = true ∧ vb p f t j i = true)) 6 := ⟨_, rfl⟩
  have sbK := nK_sb (t := t) (S := S) hK
  unfold fB_M_carries
  refine Sat.lp (fun c s1 => ∃ g', s1 = (nI c, g') ∧ Fr [56, 57] [] w0 g g' ∧ g'.1 56 = nI S ∧ g'.1 57 = nI (I1 c 0)) (pK p) (by omega) ⟨g, rfl, Fr.rf, eS, ?_⟩ ?_ ?_
  · rw [eK, hI1]
    congr 1
    apply mk_ext (n := 8) hK.1
    intro i _
    rw [decide_eq_false (by rintro ⟨s', _, hl, _⟩; omega), Bool.or_false]
  · rintro rec c _ hc ⟨g1, rfl, F1, a1, a2⟩ hrec
    have P1 := hP.fr F1 (by simp) (by simp)
    simp only []
    rw [P1.1.2.2.2.2.1, if_neg (nI_ge hc (by omega))]
    refine Sat.lp (fun s s1 => ∃ g', s1 = (nI s, g') ∧ Fr [56, 57] [] w0 g g' ∧ g'.1 56 = nI S ∧ g'.1 57 = nI (I1 c s)) (pS p) (by omega) ⟨g1, rfl, F1, a1, a2⟩ ?_ ?_
    · rintro rec2 s _ hs ⟨g2, rfl, F2, b1, b2⟩ hrec2
      have P2 := hP.fr F2 (by simp) (by simp)
      have N2 := hF.fr F2 (by simp)
      simp only []
      simp only [nl, lj_eq]
      rw [P2.1.2.2.2.2.2.1, if_neg (nI_ge hs (by omega)), b1, n_31 (k := s) (by omega), n_shr (a := S) (by omega) (by omega), n_and, ite_b1, aboveB hw P2 N2 hW hc ht hs, Option.bind_some, b2, n_31 (k := c) (by omega), n_shl _ (by omega), n_or, bv_eq, nI_add]
      have same : ¬ (S.testBit s = true ∧ vb p f t s c = true) → I1 c (s + 1) = I1 c s := by
        intro hn
        rw [hI1]
        apply mk_cong
        intro i _
        congr 1
        apply decide_eq_decide.mpr
        constructor
        · rintro ⟨s', h2, h3, h4, h5⟩
          refine ⟨s', h2, ?_, h4, h5⟩
          rcases h3 with h3 | ⟨h3, h6⟩
          · exact Or.inl h3
          · refine Or.inr ⟨h3, ?_⟩
            by_cases e : s' = s
            · subst e h3
              exact absurd ⟨h4, h5⟩ hn
            · omega
        · rintro ⟨s', h2, h3, h4, h5⟩
          exact ⟨s', h2, by omega, h4, h5⟩
      cases hb : S.testBit s
      · rw [if_neg (by decide)]
        exact hrec2 _ ⟨g2, rfl, F2, b1, by rw [b2, same (by rw [hb]; simp)]⟩
      · rw [if_pos rfl]
        cases hv : vb p f t s c
        · rw [if_pos z0]
          exact hrec2 _ ⟨g2, rfl, F2, b1, by rw [b2, same (by rw [hv]; simp)]⟩
        · rw [if_neg z1]
          refine hrec2 _ ⟨_, rfl, F2.sS (by simp), b1, ?_⟩
          show nI _ = nI _
          congr 1
          rw [hI1]
          apply Nat.eq_of_testBit_eq
          intro i
          rw [Nat.testBit_or, mk_bit, mk_bit, one_bit (by omega)]
          by_cases e : i = c
          · subst e
            have : i < 8 := by omega
            rw [decide_eq_true (p := ∃ s', s' < pS p ∧ (i < i ∨ (i = i ∧ s' < s + 1)) ∧ S.testBit s' = true ∧ vb p f t s' i = true) ⟨s, hs, Or.inr ⟨rfl, by omega⟩, hb, hv⟩]
            simp [this]
          · have h3 : decide (∃ s', s' < pS p ∧ (i < c ∨ (i = c ∧ s' < s + 1)) ∧ S.testBit s' = true ∧ vb p f t s' i = true) = decide (∃ s', s' < pS p ∧ (i < c ∨ (i = c ∧ s' < s)) ∧ S.testBit s' = true ∧ vb p f t s' i = true) := decide_eq_decide.mpr (by constructor <;> (rintro ⟨s', h2, h3, h4⟩; exact ⟨s', h2, by omega, h4⟩))
            rw [h3]
            simp [e]
    · rintro rec2 _ ⟨g2, rfl, F2, b1, b2⟩
      have P2 := hP.fr F2 (by simp) (by simp)
      simp only []
      rw [P2.1.2.2.2.2.2.1, if_pos (nI_le (Nat.le_refl _) (by omega)), nl, nI_add]
      refine hrec _ ⟨g2, rfl, F2, b1, ?_⟩
      rw [b2, hI1]
      congr 1
      apply mk_cong
      intro i _
      congr 1
      apply decide_eq_decide.mpr
      constructor <;> (rintro ⟨s', h2, h3, h4⟩; exact ⟨s', h2, by omega, h4⟩)
  · rintro rec _ ⟨g1, rfl, F1, a1, a2⟩
    have P1 := hP.fr F1 (by simp) (by simp)
    have eK2 : I1 (pK p) 0 = nK p f t S K := by
      rw [hI1]
      unfold nK
      apply mk_cong
      intro i _
      congr 1
      apply decide_eq_decide.mpr
      constructor
      · rintro ⟨s', h2, _, h4⟩
        exact ⟨s', h2, h4⟩
      · rintro ⟨s', h2, h4, h5⟩
        refine ⟨s', h2, Or.inl ?_, h4, h5⟩
        unfold vb at h5
        rw [Nat.testBit_and, Bool.and_eq_true] at h5
        exact us_K h5.2
    rw [eK2] at a2
    simp only []
    rw [P1.1.2.2.2.2.1, if_pos (nI_le (Nat.le_refl _) (by omega))]
    refine Sat.lp (fun c s1 => ∃ g', s1 = (nI c, g') ∧ Fr [56, 57] [] w0 g g' ∧ g'.1 57 = nI (nK p f t S K) ∧ g'.1 56 = nI (I2 c 0)) (pK p) (by omega) ⟨g1, rfl, F1, a2, ?_⟩ ?_ ?_
    · rw [a1, hI2]
      congr 1
      apply mk_ext (n := 6) hS
      intro i _
      rw [decide_eq_false (by rintro ⟨_, s', _, hl, _⟩; omega), Bool.or_false]
    · rintro rec2 c _ hc ⟨g2, rfl, F2, b2, b1⟩ hrec2
      have P2 := hP.fr F2 (by simp) (by simp)
      simp only []
      rw [P2.1.2.2.2.2.1, if_neg (nI_ge hc (by omega))]
      refine Sat.lp (fun s s1 => ∃ g', s1 = (nI s, g') ∧ Fr [56, 57] [] w0 g g' ∧ g'.1 57 = nI (nK p f t S K) ∧ g'.1 56 = nI (I2 c s)) (pS p) (by omega) ⟨g2, rfl, F2, b2, b1⟩ ?_ ?_
      · rintro rec3 s _ hs ⟨g3, rfl, F3, c2, c1⟩ hrec3
        have P3 := hP.fr F3 (by simp) (by simp)
        have N3 := hF.fr F3 (by simp)
        have kl := sbK.1
        simp only []
        simp only [nl, lj_eq]
        rw [P3.1.2.2.2.2.2.1, if_neg (nI_ge hs (by omega)), c2, n_31 (k := c) (by omega), n_shr (a := nK p f t S K) (by omega) (by omega), n_and, ite_b1, aboveB hw P3 N3 hW hc ht hs, Option.bind_some, c1, n_31 (k := s) (by omega), n_shl _ (by omega), n_or, bv_eq, nI_add]
        have same : ¬ ((nK p f t S K).testBit c = true ∧ vb p f t s c = true) → I2 c (s + 1) = I2 c s := by
          intro hn
          rw [hI2]
          apply mk_cong
          intro j _
          congr 1
          apply decide_eq_decide.mpr
          constructor
          · rintro ⟨h2, i, h3, h4, h5, h6⟩
            refine ⟨h2, i, h3, ?_, h5, h6⟩
            rcases h4 with h4 | ⟨h4, h7⟩
            · exact Or.inl h4
            · refine Or.inr ⟨h4, ?_⟩
              by_cases e : j = s
              · subst e h4
                exact absurd ⟨h5, h6⟩ hn
              · omega
          · rintro ⟨h2, i, h3, h4, h5, h6⟩
            exact ⟨h2, i, h3, by omega, h5, h6⟩
        cases hb : (nK p f t S K).testBit c
        · rw [if_neg (by decide)]
          exact hrec3 _ ⟨g3, rfl, F3, c2, by rw [c1, same (by rw [hb]; simp)]⟩
        · rw [if_pos rfl]
          cases hv : vb p f t s c
          · rw [if_pos z0]
            exact hrec3 _ ⟨g3, rfl, F3, c2, by rw [c1, same (by rw [hv]; simp)]⟩
          · rw [if_neg z1]
            refine hrec3 _ ⟨_, rfl, F3.sS (by simp), c2, ?_⟩
            show nI _ = nI _
            congr 1
            rw [hI2]
            apply Nat.eq_of_testBit_eq
            intro j
            rw [Nat.testBit_or, mk_bit, mk_bit, one_bit (by omega)]
            by_cases e : j = s
            · subst e
              have : j < 6 := by omega
              rw [decide_eq_true (p := j < pS p ∧ ∃ i, i < pK p ∧ (i < c ∨ (i = c ∧ j < j + 1)) ∧ (nK p f t S K).testBit i = true ∧ vb p f t j i = true) ⟨hs, c, hc, Or.inr ⟨rfl, by omega⟩, hb, hv⟩]
              simp [this]
            · have h3 : decide (j < pS p ∧ ∃ i, i < pK p ∧ (i < c ∨ (i = c ∧ j < s + 1)) ∧ (nK p f t S K).testBit i = true ∧ vb p f t j i = true) = decide (j < pS p ∧ ∃ i, i < pK p ∧ (i < c ∨ (i = c ∧ j < s)) ∧ (nK p f t S K).testBit i = true ∧ vb p f t j i = true) := decide_eq_decide.mpr (by constructor <;> (rintro ⟨h2, i, h3, h4, h5⟩; exact ⟨h2, i, h3, by omega, h5⟩))
              rw [h3]
              simp [e]
      · rintro rec3 _ ⟨g3, rfl, F3, c2, c1⟩
        have P3 := hP.fr F3 (by simp) (by simp)
        simp only []
        rw [P3.1.2.2.2.2.2.1, if_pos (nI_le (Nat.le_refl _) (by omega)), nl, nI_add]
        refine hrec2 _ ⟨g3, rfl, F3, c2, ?_⟩
        rw [c1, hI2]
        congr 1
        apply mk_cong
        intro j _
        congr 1
        apply decide_eq_decide.mpr
        constructor <;> (rintro ⟨h2, i, h3, h4, h5⟩; exact ⟨h2, i, h3, by omega, h5⟩)
    · rintro rec2 _ ⟨g2, rfl, F2, b2, b1⟩
      have P2 := hP.fr F2 (by simp) (by simp)
      simp only []
      rw [P2.1.2.2.2.2.1, if_pos (nI_le (Nat.le_refl _) (by omega))]
      refine Sat.of ⟨F2, ?_, b2⟩
      rw [b1, hI2]
      congr 1
      unfold nS
      apply mk_cong
      intro j _
      congr 1
      apply decide_eq_decide.mpr
      constructor
      · rintro ⟨h2, i, h3, _, h5⟩
        exact ⟨h2, i, h3, h5⟩
      · rintro ⟨h2, i, h3, h5⟩
        exact ⟨h2, i, h3, Or.inl h3, h5⟩
