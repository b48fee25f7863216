/-! THE CALLS: image -/
def ov (p : Pl) (f : Fl) (j : Nat) : Nat :=
  if j < pP p then fnd f j else if (j - pP p) % 3 = 0 then fup f ((j - pP p) / 3) else if (j - pP p) % 3 = 1 then fph f ((j - pP p) / 3) else frc f ((j - pP p) / 3)
def ckN (v : Nat → Nat) : Nat → Nat
  | 0 => 167
  | k + 1 => (3 * ckN v k + v k) % 251
theorem ckN_lt (v : Nat → Nat) : ∀ k, ckN v k < 251
  | 0 => by show 167 < 251; decide
  | k + 1 => Nat.mod_lt _ (by decide)
theorem ckN_cong {v v' : Nat → Nat} : ∀ {k : Nat}, (∀ i, i < k → v i = v' i) → ckN v k = ckN v' k
  | 0, _ => rfl
  | k + 1, h => by rw [ckN, ckN, h k (Nat.lt_succ_self k), ckN_cong (fun i hi => h i (by omega))]
theorem checkA {a b : Nat} (ha : a < 251) (hb : b < 2 ^ 20) (g : G) : fA_Fleet_checkWith (nI a) (nI b) g = some (nI ((3 * a + b) % 251)) := by
  unfold fA_Fleet_checkWith
  simp only [nl]
  rw [n_dz (by decide) (by decide), nI_mul, nI_add, n_div (by omega) (by decide), nI_mul, n_rem]
theorem ov_0 {p : Pl} {f : Fl} {q : Nat} (h : q < pP p) : ov p f q = fnd f q := by unfold ov; rw [if_pos h]
theorem ov_1 {p : Pl} {f : Fl} {c : Nat} : ov p f (pP p + 3 * c) = fup f c := by
  unfold ov
  rw [if_neg (by omega), if_pos (by omega), show (pP p + 3 * c - pP p) / 3 = c by omega]
theorem ov_2 {p : Pl} {f : Fl} {c : Nat} : ov p f (pP p + 3 * c + 1) = fph f c := by
  unfold ov
  rw [if_neg (by omega), if_neg (by omega), if_pos (by omega), show (pP p + 3 * c + 1 - pP p) / 3 = c by omega]
theorem ov_3 {p : Pl} {f : Fl} {c : Nat} : ov p f (pP p + 3 * c + 2) = frc f c := by
  unfold ov
  rw [if_neg (by omega), if_neg (by omega), if_neg (by omega), show (pP p + 3 * c + 2 - pP p) / 3 = c by omega]
theorem ov_lt {p : Pl} {f : Fl} {gA gB : G} (h : RS p f gA gB) {j : Nat} (hj : j < pP p + 3 * pK p) : ov p f j < 2 ^ 20 := by
  have hl := h.lt
  have w := h.2.2.2.2.2.2.1
  unfold ov
  split
  · have := w.1 j (by omega)
    omega
  · have hc : (j - pP p) / 3 < pK p := by omega
    have := w.2 _ hc
    have hw := h.wp (by omega)
    have := hw.q (hw.h hc)
    split
    · omega
    · split <;> omega
theorem writeA {p : Pl} {f : Fl} {gA gB : G} (h : RS p f gA gB) : Sat (fA_Fleet_write gA) (fun r => Fr [] [144] w0 gA r.2 ∧ r.1 = nI (pP p + 3 * pK p + 1) ∧ (∀ j, j < pP p + 3 * pK p → r.2.2.1 144 j = nI (ov p f j)) ∧ r.2.2.1 144 (pP p + 3 * pK p) = nI (ckN (ov p f) (pP p + 3 * pK p))) := by
  have hl := h.lt
  have hP := h.2.2.1
  have hF := h.2.2.2.2.1
  have hW := h.2.2.2.2.2.2.1
  unfold fA_Fleet_write
  refine Sat.lp (fun q s => ∃ g', s = (nI q, nI q, g') ∧ Fr [] [144] w0 gA g' ∧ ∀ j, j < q → g'.2.1 144 j = nI (ov p f j)) (pP p) (by omega) ⟨gA, rfl, Fr.rf, fun j hj => by omega⟩ ?_ ?_
  · rintro rec q _ hq ⟨g1, rfl, F1, a1⟩ hrec
    have P1 := hP.fr F1 (by simp) (by simp)
    have N1 : FA p f 2700 27 g1 := hF.fr F1 (by simp) (by simp)
    have e28 : g1.2.1 28 q = nI (fnd f q) := N1.2.1 q hq
    simp only []
    rw [P1.1.2.2.2.2.2.1, if_neg (nI_ge hq (by omega)), ag_nI (by omega) (by decide), e28, ck_nI (by omega) (by decide), nI_clamp (by omega), bv_eq, nl, nI_add]
    refine hrec _ ⟨_, rfl, F1.sA (by simp), fun j hj => ?_⟩
    rw [sA_21, if_pos rfl]
    by_cases e : j = q
    · subst e
      rw [upd_self, ov_0 hq]
    · rw [upd_ne _ _ e]
      exact a1 j (by omega)
  · rintro rec _ ⟨g1, rfl, F1, a1⟩
    have P1 := hP.fr F1 (by simp) (by simp)
    simp only []
    rw [P1.1.2.2.2.2.2.1, if_pos (nI_le (Nat.le_refl _) (by omega))]
    refine Sat.lp (fun c s => ∃ g', s = (nI (pP p + 3 * c), nI c, g') ∧ Fr [] [144] w0 gA g' ∧ ∀ j, j < pP p + 3 * c → g'.2.1 144 j = nI (ov p f j)) (pK p) (by omega) ⟨g1, rfl, F1, a1⟩ ?_ ?_
    · rintro rec2 c _ hc ⟨g2, rfl, F2, a2⟩ hrec2
      have P2 := hP.fr F2 (by simp) (by simp)
      have N2 : FA p f 2700 27 g2 := hF.fr F2 (by simp) (by simp)
      have w := hW.2 c hc
      have e29 : ∀ v, (sA g2 144 (pP p + 3 * c) v).2.1 29 c = nI (fph f c) := fun v => (N2.2.2 c hc).1
      have e30 : ∀ v u, (sA (sA g2 144 (pP p + 3 * c) v) 144 (pP p + 3 * c + 1) u).2.1 30 c = nI (frc f c) := fun v u => (N2.2.2 c hc).2
      simp only []
      rw [P2.1.2.2.2.2.2.2.1, if_neg (nI_ge hc (by omega)), isUpA (u := 0) (n := 0) N2.1 hc (by omega), Option.bind_some, lj_eq]
      have go : ∀ b8 : Int32, b8 = nI (fup f c) → Sat (ck 29 (nI (pP p + 3 * c)) (bv (sA g2 144 (nI (pP p + 3 * c) : Int32).toNatClampNeg b8) fun g9 => ag 8 (g9.2.1 29) (nI c) fun x10 => ck 29 (nI (pP p + 3 * c) + 1) (bv (sA g9 144 (nI (pP p + 3 * c) + 1 : Int32).toNatClampNeg x10) fun g11 => ag 8 (g11.2.1 30) (nI c) fun x12 => ck 29 (nI (pP p + 3 * c) + 2) (bv (sA g11 144 (nI (pP p + 3 * c) + 2 : Int32).toNatClampNeg x12) fun g13 => rec2 (nI (pP p + 3 * c) + 3, nI c + 1, g13))))) (fun r => Fr [] [144] w0 gA r.2 ∧ r.1 = nI (pP p + 3 * pK p + 1) ∧ (∀ j, j < pP p + 3 * pK p → r.2.2.1 144 j = nI (ov p f j)) ∧ r.2.2.1 144 (pP p + 3 * pK p) = nI (ckN (ov p f) (pP p + 3 * pK p))) := by
        intro b8 eb
        simp only [nl]
        simp only [nI_add]
        rw [ck_nI (by omega) (by decide), nI_clamp (by omega), bv_eq, ag_nI (by omega) (by decide), e29, ck_nI (by omega) (by decide), nI_clamp (by omega), bv_eq, ag_nI (by omega) (by decide), e30, ck_nI (by omega) (by decide), nI_clamp (by omega), bv_eq]
        refine hrec2 _ ⟨sA (sA (sA g2 144 (pP p + 3 * c) b8) 144 (pP p + 3 * c + 1) (nI (fph f c))) 144 (pP p + 3 * c + 2) (nI (frc f c)), by rw [show pP p + 3 * (c + 1) = pP p + 3 * c + 3 by omega], ((F2.sA (by simp)).sA (by simp)).sA (by simp), fun j hj => ?_⟩
        show upd (upd (upd (g2.2.1 144) (pP p + 3 * c) b8) (pP p + 3 * c + 1) (nI (fph f c))) (pP p + 3 * c + 2) (nI (frc f c)) j = _
        by_cases e1 : j = pP p + 3 * c + 2
        · subst e1
          rw [upd_self, ov_3]
        · rw [upd_ne _ _ e1]
          by_cases e2 : j = pP p + 3 * c + 1
          · subst e2
            rw [upd_self, ov_2]
          · rw [upd_ne _ _ e2]
            by_cases e3 : j = pP p + 3 * c
            · subst e3
              rw [upd_self, ov_1, eb]
            · rw [upd_ne _ _ e3]
              exact a2 j (by omega)
      by_cases hu : fup f c = 1
      · rw [if_neg (show ¬ bI (decide (fup f c = 1)) = (0 : Int32) by rw [decide_eq_true hu]; exact z1)]
        exact go 1 (by rw [hu]; rfl)
      · rw [if_pos (show bI (decide (fup f c = 1)) = (0 : Int32) by rw [decide_eq_false hu]; rfl)]
        exact go 0 (by rw [show fup f c = 0 by omega]; rfl)
    · rintro rec2 _ ⟨g2, rfl, F2, a2⟩
      have P2 := hP.fr F2 (by simp) (by simp)
      simp only []
      rw [P2.1.2.2.2.2.2.2.1, if_pos (nI_le (Nat.le_refl _) (by omega))]
      refine Sat.lp (fun k s => s = (nI (ckN (ov p f) k), nI k)) (pP p + 3 * pK p) (by omega) rfl ?_ ?_
      · rintro rec3 k _ hk rfl hrec3
        have cl := ckN_lt (ov p f) k
        simp only []
        rw [if_neg (nI_ge hk (by omega)), ag_nI (by omega) (by decide), a2 k hk, checkA cl (ov_lt h hk), Option.bind_some, nl, nI_add]
        exact hrec3 _ rfl
      · rintro rec3 _ rfl
        simp only []
        rw [if_pos (nI_le (Nat.le_refl _) (by omega)), ck_nI (by omega) (by decide), nI_clamp (by omega), bv_eq, nl, nI_add]
        refine Sat.of ⟨F2.sA (by simp), rfl, fun j hj => ?_, ?_⟩
        · show upd (g2.2.1 144) _ _ j = _
          rw [upd_ne _ _ (by omega)]
          exact a2 j hj
        · show upd (g2.2.1 144) _ _ _ = _
          rw [upd_self]
theorem saysB {g : G} {n : Nat} (hn : n < 29) (e : g.1 64 = nI n) (v : Int32) : fB_M_says v g = some (sS (sA g 29 n v) 64 (nI (n + 1))) := by
  unfold fB_M_says
  rw [e, ck_nI hn (by decide), nI_clamp (by omega), bv_eq, bv_eq, sA_1, e, nl, nI_add]
theorem imageB {p : Pl} {f : Fl} {gA gB : G} (h : RS p f gA gB) : Sat (fB_M_image gB) (fun r => Fr [64] [29] w0 gB r.2 ∧ r.1 = nI (pP p + 3 * pK p + 1) ∧ r.2.1 64 = nI (pP p + 3 * pK p + 1) ∧ (∀ j, j < pP p + 3 * pK p → r.2.2.1 29 j = nI (ov p f j)) ∧ r.2.2.1 29 (pP p + 3 * pK p) = nI (ckN (ov p f) (pP p + 3 * pK p))) := by
  have hl := h.lt
  have hP := h.2.2.2.1
  have hF := h.2.2.2.2.2.1
  unfold fB_M_image
  rw [bv_eq]
  refine Sat.lp (fun q s => ∃ g', s = (nI q, g') ∧ Fr [64] [29] w0 gB g' ∧ g'.1 64 = nI q ∧ ∀ j, j < q → g'.2.1 29 j = nI (ov p f j)) (pP p) (by omega) ⟨_, rfl, Fr.rf.sS (by simp), rfl, fun j hj => by omega⟩ ?_ ?_
  · rintro rec q _ hq ⟨g1, rfl, F1, o1, a1⟩ hrec
    have P1 := hP.fr F1 (by simp) (by simp)
    have N1 := hF.fr F1 (by simp)
    simp only []
    simp only [nl]
    rw [P1.1.2.2.2.1, if_neg (nI_ge hq (by omega)), nI_add, Nat.zero_add, ag_nI (by omega) (by decide), N1.1 q hq, saysB (by omega) o1, Option.bind_some, nI_add]
    refine hrec _ ⟨_, rfl, (F1.sA (by simp)).sS (by simp), rfl, fun j hj => ?_⟩
    show upd (g1.2.1 29) q (nI (fnd f q)) j = _
    by_cases e : j = q
    · subst e
      rw [upd_self, ov_0 hq]
    · rw [upd_ne _ _ e]
      exact a1 j (by omega)
  · rintro rec _ ⟨g1, rfl, F1, o1, a1⟩
    have P1 := hP.fr F1 (by simp) (by simp)
    simp only []
    rw [P1.1.2.2.2.1, if_pos (nI_le (Nat.le_refl _) (by omega))]
    refine Sat.lp (fun c s => ∃ g', s = (nI c, g') ∧ Fr [64] [29] w0 gB g' ∧ g'.1 64 = nI (pP p + 3 * c) ∧ ∀ j, j < pP p + 3 * c → g'.2.1 29 j = nI (ov p f j)) (pK p) (by omega) ⟨g1, rfl, F1, o1, a1⟩ ?_ ?_
    · rintro rec2 c _ hc ⟨g2, rfl, F2, o2, a2⟩ hrec2
      have P2 := hP.fr F2 (by simp) (by simp)
      have N2 := hF.fr F2 (by simp)
      have n2 := N2.2 c hc
      obtain ⟨g3, hg3⟩ : ∃ g3, g3 = sS (sA g2 29 (pP p + 3 * c) (nI (fup f c))) 64 (nI (pP p + 3 * c + 1)) := ⟨_, rfl⟩
      obtain ⟨g4, hg4⟩ : ∃ g4, g4 = sS (sA g3 29 (pP p + 3 * c + 1) (nI (fph f c))) 64 (nI (pP p + 3 * c + 1 + 1)) := ⟨_, rfl⟩
      have o3 : g3.1 64 = nI (pP p + 3 * c + 1) := by rw [hg3]; rfl
      have o4 : g4.1 64 = nI (pP p + 3 * c + 1 + 1) := by rw [hg4]; rfl
      have b3 : g3.2.1 20 = g2.2.1 20 := by rw [hg3]; rfl
      have b4 : g4.2.1 20 = g2.2.1 20 := by rw [hg4]; exact b3
      simp only []
      simp only [nl]
      rw [P2.1.2.2.2.2.1, if_neg (nI_ge hc (by omega)), nI_add, ag_nI (by omega) (by decide), n2.1, saysB (by omega) o2, Option.bind_some, ← hg3, nI_add, ag_nI (by omega) (by decide), b3, n2.2.1, saysB (by omega) o3, Option.bind_some, ← hg4, nI_add, ag_nI (by omega) (by decide), b4, n2.2.2, saysB (by omega) o4, Option.bind_some, nI_add]
      refine hrec2 _ ⟨_, rfl, ?_, by rw [show pP p + 3 * (c + 1) = pP p + 3 * c + 1 + 1 + 1 by omega]; rfl, fun j hj => ?_⟩
      · have F3 : Fr [64] [29] w0 gB g3 := by rw [hg3]; exact (F2.sA (by simp)).sS (by simp)
        have F4 : Fr [64] [29] w0 gB g4 := by rw [hg4]; exact (F3.sA (by simp)).sS (by simp)
        exact (F4.sA (by simp)).sS (by simp)
      · show upd (g4.2.1 29) (pP p + 3 * c + 1 + 1) (nI (frc f c)) j = _
        by_cases e1 : j = pP p + 3 * c + 1 + 1
        · subst e1
          rw [upd_self]
          exact congrArg nI ov_3.symm
        · rw [upd_ne _ _ e1, hg4]
          show upd (g3.2.1 29) (pP p + 3 * c + 1) (nI (fph f c)) j = _
          by_cases e2 : j = pP p + 3 * c + 1
          · subst e2
            rw [upd_self, ov_2]
          · rw [upd_ne _ _ e2, hg3]
            show upd (g2.2.1 29) (pP p + 3 * c) (nI (fup f c)) j = _
            by_cases e3 : j = pP p + 3 * c
            · subst e3
              rw [upd_self, ov_1]
            · rw [upd_ne _ _ e3]
              exact a2 j (by omega)
    · rintro rec2 _ ⟨g2, rfl, F2, o2, a2⟩
      have P2 := hP.fr F2 (by simp) (by simp)
      simp only []
      rw [P2.1.2.2.2.2.1, if_pos (nI_le (Nat.le_refl _) (by omega))]
      refine Sat.lp (fun k s => s = (nI (ckN (ov p f) k), nI k)) (pP p + 3 * pK p) (by omega) rfl ?_ ?_
      · rintro rec3 k _ hk rfl hrec3
        have cl := ckN_lt (ov p f) k
        have ol := ov_lt h hk
        simp only []
        simp only [nl]
        rw [o2, if_neg (nI_ge hk (by omega)), ag_nI (by omega) (by decide), a2 k hk, n_dz (by decide) (by decide), nI_mul, nI_add, n_div (by omega) (by decide), nI_mul, n_rem, bv_eq, nI_add]
        exact hrec3 _ rfl
      · rintro rec3 _ rfl
        simp only []
        rw [o2, if_pos (nI_le (Nat.le_refl _) (by omega)), saysB (by omega) o2, Option.bind_some]
        refine Sat.of ⟨(F2.sA (by simp)).sS (by simp), rfl, rfl, fun j hj => ?_, ?_⟩
        · show upd (g2.2.1 29) _ _ j = _
          rw [upd_ne _ _ (by omega)]
          exact a2 j hj
        · show upd (g2.2.1 29) _ _ _ = _
          rw [upd_self]
theorem c_image {p : Pl} {f : Fl} {gA gB : G} (h : RS p f gA gB) (hA : CA p f gA) (hB : CB p f gB) : Eq2 (fA_D_image gA) (fB_M_image gB) := by
  have hl := h.lt
  obtain ⟨⟨r1, g1⟩, e1, F1, a1, a2, a3⟩ := writeA h
  obtain ⟨⟨r2, g2⟩, e2, F2, b1, b2, b3, b4⟩ := imageB h
  have a1 : r1 = nI (pP p + 3 * pK p + 1) := a1
  have b1 : r2 = nI (pP p + 3 * pK p + 1) := b1
  unfold fA_D_image
  rw [e1, Option.bind_some, e2]
  dsimp only
  rw [bv_eq, a1, b1]
  have FA' : Fr [14] [144] w0 gA (sS g1 14 (nI (pP p + 3 * pK p + 1))) := (F1.wd (by simp) (by simp) (by simp)).sS (by simp)
  refine ⟨_, _, _, rfl, rfl, p, f, ?_, hA.fr FA' (by simp) (by simp), hB.fr F2 (by simp) (by simp)⟩
  obtain ⟨r1, r2, r3, r4, r5, r6, r7, r8, r9, r10, r11, r12, r13, r14, r15, r16⟩ := h
  refine ⟨by rw [F2.1 0 (by simp)]; exact r1, r2, r3.fr FA' (by simp) (by simp), r4.fr F2 (by simp) (by simp), r5.fr FA' (by simp) (by simp), r6.fr F2 (by simp), r7, r8.fr FA' F2 (by simp), by rw [FA'.2.1 145 (by simp), F2.2.1 18 (by simp)]; exact r9, by rw [FA'.1 15 (by simp), FA'.1 16 (by simp), F2.1 35 (by simp), F2.1 36 (by simp)]; exact r10, ⟨pP p + 3 * pK p + 1, by omega, rfl, b2, fun i hi => ?_⟩, r12.fr FA' F2 ⟨rfl, by simp⟩, r13.fr FA' F2 (by simp) (by simp) (by simp), r14.fr FA' F2 (by simp) (by simp) (by simp), r15.fr FA' rfl, by rw [F2.2.1 19 (by simp)]; exact r16⟩
  by_cases e : i = pP p + 3 * pK p
  · subst e
    exact a3.trans b4.symm
  · exact (a2 i (by omega)).trans (b3 i (by omega)).symm
