/-! THE CALLS: undo, spread, chance -/
theorem take4 {p : Pl} {f : Fl} {g : G} (hl : pP p ≤ 4 ∧ pK p ≤ 8) {i : Nat} (hi : i < 20) (hF : KA p f i g) : Sat (fA_Fleet_take_4 i g) (fun g' => Fr [2700] [28, 29, 30] w0 g g' ∧ FA p f 2700 27 g') := by
  unfold fA_Fleet_take_4
  simp only [nl]
  rw [bv_eq, cp_nI (by omega) (by omega) (by decide) (by decide), bv_eq, cp_nI (by omega) (by omega) (by decide) (by decide), bv_eq, cp_nI (by omega) (by omega) (by decide) (by decide), bv_eq, nI_clamp (by decide), nI_clamp (by decide), nI_clamp (by decide)]
  refine Sat.of ⟨(((Fr.rf.sS (by simp)).sC (by simp)).sC (by simp)).sC (by simp), hF.1, fun q hq => ?_, fun c hc => ⟨?_, ?_⟩⟩
  · show va_cpy (g.2.1 (38 + 4 * i + 1)) (g.2.1 28) 0 0 4 q = _
    rw [cpy0 (by omega)]
    exact hF.2.1 q hq
  · simp only [sC_21, sS_2]
    rw [if_neg (by decide), if_pos trivial, cpy0 (by omega), if_neg (by omega)]
    exact (hF.2.2 c hc).1
  · simp only [sC_21, sS_2]
    rw [if_pos trivial, cpy0 (by omega), if_neg (by omega), if_neg (by omega)]
    exact (hF.2.2 c hc).2
theorem c_undo {p : Pl} {f : Fl} {gA gB : G} (h : RS p f gA gB) (hA : CA p f gA) (hB : CB p f gB) : Eq2 (fA_D_undo gA) (fB_M_undo gB) := by
  have hl := h.lt
  have no := no2 h hA hB (k := 4) (by decide)
  obtain ⟨r1, r2, r3, r4, r5, r6, r7, r8, r9, r10, r11, r12, ⟨n, t, hn, ht, n1, n2, n3, n4⟩, r14, r15, r16⟩ := h
  unfold fA_D_undo fB_M_undo
  rw [n1, n3]
  by_cases z : n = 0
  · subst z
    rw [if_pos i00, if_pos i00]
    exact no
  · have nz : ¬ nI n = (0 : Int32) := nI_ne0 (by omega) (by omega)
    obtain ⟨hh, w1, w2, w3⟩ := n4 (n - 1) (by omega)
    have ep : (t + 20 - n + (n - 1)) % 20 = (t + 19) % 20 := by omega
    rw [ep] at w2
    have lt20 : (t + 19) % 20 < 20 := Nat.mod_lt _ (by decide)
    -- the class
    have eA : Sat (fA_History_restore gA) (fun g' => Fr [2700, 3601, 3600] [28, 29, 30] w0 gA g' ∧ FA p hh 2700 27 g' ∧ g'.1 3601 = nI ((t + 19) % 20) ∧ g'.1 3600 = nI (n - 1)) := by
      unfold fA_History_restore
      simp only [nl]
      rw [n_dz (by decide) (by decide), n2, nI_add, nI_sub (by omega), n_div (by omega) (by decide), nI_mul, n_rem, bv_eq, show (sS gA 3601 (nI ((t + 20 - 1) % 20))).1 3601 = nI ((t + 20 - 1) % 20) from rfl, show t + 20 - 1 = t + 19 by omega, kg_nI lt20 (by decide)]
      have F1 : Fr [3601] [] w0 gA (sS gA 3601 (nI ((t + 19) % 20))) := Fr.rf.sS (by simp)
      refine (take4 ⟨by omega, by omega⟩ lt20 (FA.fr w2 F1 (by simp; omega) (by simp))).bind ?_
      rintro g2 ⟨F2, K2⟩
      have e36 : g2.1 3600 = nI n := (F2.1 3600 (by simp)).trans ((F1.1 3600 (by simp)).trans n1)
      have e37 : g2.1 3601 = nI ((t + 19) % 20) := F2.1 3601 (by simp)
      rw [bv_eq, e36, nI_sub (by omega)]
      have F3 : Fr [3600] [] w0 g2 (sS g2 3600 (nI (n - 1))) := Fr.rf.sS (by simp)
      exact Sat.of ⟨((F1.wd (by simp) (by simp) (by simp)).tr F2 (by simp) (by simp) (by simp)).sS (by simp), FA.fr K2 F3 (by simp) (by simp), e37, rfl⟩
    obtain ⟨gA', ea, FA1, ka, kt, kn⟩ := eA
    -- the model
    have eB : Sat (Lp (α := Int32 × G) (fun rec2 s2 => (if 28 ≤ s2.1 then bv (sS s2.2 47 0) fun g3 => some ((1 : Int32), g3) else ag 560 (s2.2.2.1 21) ((28 * (s2.2.1 45)) + s2.1) fun x4 => ck 28 s2.1 (bv (sA s2.2 20 (s2.1 : Int32).toNatClampNeg x4) fun g5 => rec2 (s2.1 + 1, g5)))) FU (0, sS gB 45 (nI (n - 1)))) (fun r => r.1 = 1 ∧ Fr [45, 47] [20] w0 gB r.2 ∧ r.2.1 45 = nI (n - 1) ∧ r.2.1 47 = nI 0 ∧ FB p hh r.2) := by
      refine Sat.lp (fun k s => ∃ g', s = (nI k, g') ∧ Fr [45, 47] [20] w0 gB g' ∧ g'.1 45 = nI (n - 1) ∧ ∀ j, j < k → g'.2.1 20 j = gB.2.1 21 (28 * (n - 1) + j)) 28 (by decide) ⟨_, rfl, Fr.rf.sS (by simp), rfl, fun j hj => by omega⟩ ?_ ?_
      · rintro rec k _ hk ⟨g1, rfl, F1, a1, a2⟩ hrec
        simp only []
        simp only [nl]
        rw [if_neg (nI_ge hk (by decide)), a1, nI_mul, nI_add, ag_nI (by omega) (by decide), ck_nI (by omega) (by decide), nI_clamp (by omega), bv_eq, nI_add, F1.2.1 21 (by simp)]
        refine hrec _ ⟨_, rfl, F1.sA (by simp), a1, fun j hj => ?_⟩
        rw [sA_21, if_pos rfl]
        by_cases e : j = k
        · subst e
          rw [upd_self]
        · rw [upd_ne _ _ e]
          exact a2 j (by omega)
      · rintro rec _ ⟨g1, rfl, F1, a1, a2⟩
        simp only []
        rw [show (28 : Int32) = nI 28 from rfl, if_pos (nI_le (Nat.le_refl _) (by decide)), bv_eq]
        refine Sat.of ⟨rfl, F1.sS (by simp), a1, rfl, fun q hq => (a2 q (by omega)).trans (w3.1 q hq), fun c hc => ⟨(a2 _ (by omega)).trans (w3.2 c hc).1, (a2 _ (by omega)).trans (w3.2 c hc).2.1, (a2 _ (by omega)).trans (w3.2 c hc).2.2⟩⟩
    obtain ⟨⟨rb, gB'⟩, eb, x0, FB1, kb, kb7, kbf⟩ := eB
    have x0 : rb = 1 := x0
    subst x0
    rw [if_neg nz, if_neg nz, ea, Option.bind_some, bv_eq, bv_eq, show (nI n - 1 : Int32) = nI (n - 1) from nI_sub (b := 1) (by omega), eb]
    have FA2 : Fr [2700, 3601, 3600, 18] [28, 29, 30] w0 gA (sS gA' 18 0) := (FA1.wd (by simp) (by simp) (by simp)).sS (by simp)
    have F18 : Fr [18] [] w0 gA' (sS gA' 18 0) := Fr.rf.sS (by simp)
    refine ⟨_, _, _, rfl, rfl, p, hh, ⟨by rw [FB1.1 0 (by simp)]; exact r1, r2, r3.fr FA2 (by simp) (by simp), r4.fr FB1 (by simp) (by simp), FA.fr ka F18 (by simp) (by simp), kbf, w1, r8.fr FA2 FB1 (by simp), by rw [FA2.2.1 145 (by simp), FB1.2.1 18 (by simp)]; exact r9, by rw [FA2.1 15 (by simp), FA2.1 16 (by simp), FB1.1 35 (by simp), FB1.1 36 (by simp)]; exact r10, r11.fr FA2 FB1 (by simp), r12.fr FA2 FB1 ⟨rfl, by simp⟩, ?_, r14.fr FA2 FB1 (by simp) (by simp) (by simp), r15.fr FA2 rfl, by rw [FB1.2.1 19 (by simp)]; exact r16⟩, fun hw => ⟨(hA hw).1.fr FA2 (by simp) (by simp), Or.inl rfl⟩, fun _ => Or.inl kb7⟩
    refine ⟨n - 1, (t + 19) % 20, ⟨by omega, fun z => by have := hn.2 z; omega⟩, lt20, kn, kt, kb, fun k hk => ?_⟩
    obtain ⟨h2, v1, v2, v3⟩ := n4 k (by omega)
    have ep2 : ((t + 19) % 20 + 20 - (n - 1) + k) % 20 = (t + 20 - n + k) % 20 := by omega
    have l2 : (t + 20 - n + k) % 20 < 20 := Nat.mod_lt _ (by decide)
    refine ⟨h2, v1, ?_, ?_⟩
    · rw [ep2]
      exact FA.fr v2 FA2 (by simp; omega) (by simp; omega)
    · unfold KB
      rw [FB1.2.1 21 (by simp)]
      exact v3
/-- a plane's craft that are up -/
def mt (p : Pl) (f : Fl) (q c : Nat) : Bool := decide (hm p c = q) && decide (fup f c = 1)
/-- a plane, spread -/
def sp (p : Pl) (f : Fl) (q φ : Nat) : Fl := fun b j => if b = 1 ∧ j < pK p ∧ mt p f q j = true then (φ + cn (mt p f q) j * tu p q / cn (mt p f q) (pK p)) % tu p q else f b j
theorem sp_ph {p : Pl} {f : Fl} {q φ c : Nat} (hc : c < pK p) : fph (sp p f q φ) c = if mt p f q c = true then (φ + cn (mt p f q) c * tu p q / cn (mt p f q) (pK p)) % tu p q else fph f c := by
  unfold fph sp
  by_cases h : mt p f q c = true
  · rw [if_pos ⟨rfl, hc, h⟩, if_pos h]
  · rw [if_neg (fun z => h z.2.2), if_neg h]
theorem sp_nd {p : Pl} {f : Fl} {q φ c : Nat} : fnd (sp p f q φ) c = fnd f c := by
  unfold fnd sp
  rw [if_neg (by omega)]
theorem sp_rc {p : Pl} {f : Fl} {q φ c : Nat} : frc (sp p f q φ) c = frc f c := by
  unfold frc sp
  rw [if_neg (by omega)]
theorem sp_up {p : Pl} {f : Fl} {q φ c : Nat} : fup (sp p f q φ) c = fup f c := by
  unfold fup sp
  rw [if_neg (by omega)]
theorem sp_us {p : Pl} {f : Fl} {q φ : Nat} : us p (sp p f q φ) = us p f := by
  unfold us
  simp only [sp_up]
theorem sp_wf {p : Pl} (hw : WP p) {f : Fl} {q φ : Nat} (hq : q < pP p) (h : WF p f) : WF p (sp p f q φ) := by
  refine ⟨fun d hd => by rw [sp_nd]; exact h.1 d hd, fun c hc => ⟨?_, by rw [sp_rc]; exact (h.2 c hc).2.1, by rw [sp_up]; exact (h.2 c hc).2.2⟩⟩
  rw [sp_ph hc]
  by_cases hm1 : mt p f q c = true
  · rw [if_pos hm1]
    have e : hm p c = q := by
      unfold mt at hm1
      simp at hm1
      exact hm1.1
    rw [e]
    have := hw.q hq
    exact Nat.mod_lt _ (by omega)
  · rw [if_neg hm1]
    exact (h.2 c hc).1
theorem pc_mt {p : Pl} (hK : pK p ≤ 8) (f : Fl) (q : Nat) : pc (ci p q &&& us p f) = cn (mt p f q) (pK p) := pc_ci hK f q
theorem mt_bit {p : Pl} (hK : pK p ≤ 8) {f : Fl} {q c : Nat} (hc : c < pK p) : (ci p q &&& us p f).testBit c = mt p f q c := by
  unfold ci us mt
  rw [Nat.testBit_and, mk_bit, mk_bit]
  have : c < 8 := by omega
  simp [hc, this]
theorem mt_small {p : Pl} (hw : WP p) {f : Fl} {q k : Nat} (hq : q < pP p) (hk : k ≤ 8) : k * tu p q ≤ 768 := by
  have := hw.q hq
  calc k * tu p q ≤ 8 * 96 := Nat.mul_le_mul hk (by omega)
    _ = 768 := rfl
theorem spreadA {p : Pl} (hw : WP p) {f : Fl} {g : G} (hP : PA p g) (hF : FA p f 2700 27 g) {q φ : Nat} (hq : q < pP p) (hφ : φ < 2 ^ 20) (hn : 0 < cn (mt p f q) (pK p)) :
    Sat (fA_Fleet_spreadOut_2 (nI q) (nI φ) g) (fun g' => Fr [] [29] w0 g g' ∧ FA p (sp p f q φ) 2700 27 g') := by
  have h1 := hw.c
  have tq := hw.q hq
  have cl8 := cn_le (mt p f q) (pK p)
  have ml : ci p q &&& us p f < 256 := Nat.lt_of_le_of_lt Nat.and_le_left (ci_lt p q)
  unfold fA_Fleet_spreadOut_2
  rw [craftInA (by omega) (fun c hc => by have := hw.h hc; omega) hP (by omega), Option.bind_some, hF.1, n_and, bv_eq, bitCount_eq (by omega), Option.bind_some, ag_nI (by omega) (by decide), (hP.2.1 q hq).2.1, pc_mt (by omega)]
  refine Sat.lp (fun c s => ∃ g', s = (nI (cn (mt p f q) c), nI c, g') ∧ Fr [] [29] w0 g g' ∧ (∀ d, d < pK p → g'.2.1 29 d = if d < c ∧ mt p f q d = true then nI ((φ + cn (mt p f q) d * tu p q / cn (mt p f q) (pK p)) % tu p q) else nI (fph f d))) (pK p) (by omega) ⟨g, rfl, Fr.rf, fun d hd => by rw [if_neg (by omega)]; exact (hF.2.2 d hd).1⟩ ?_ ?_
  · rintro rec c _ hc ⟨g1, rfl, F1, a1⟩ hrec
    have P1 := hP.fr F1 (by simp) (by simp)
    have cl2 := cn_le (mt p f q) c
    have sm1 := mt_small hw (f := f) hq (show cn (mt p f q) c ≤ 8 by omega)
    have dl : cn (mt p f q) c * tu p q / cn (mt p f q) (pK p) ≤ 768 := Nat.le_trans (Nat.div_le_self _ _) sm1
    simp only []
    simp only [nl, lj_eq]
    rw [P1.1.2.2.2.2.2.2.1, if_neg (nI_ge hc (by omega)), n_31 (k := c) (by omega), n_shr (a := ci p q &&& us p f) (by omega) (by omega), n_and, ite_b0, mt_bit (by omega) hc, nI_mul, cutA hn (by omega) (by omega), Option.bind_some, nI_add, restA (by omega) (by omega) (by omega), Option.bind_some, ck_nI (by omega) (by decide), nI_clamp (by omega), bv_eq, nI_add, nI_add]
    cases hb : mt p f q c
    · rw [if_neg (by decide)]
      refine hrec _ ⟨g1, by rw [cn_f hb], F1, fun d hd => ?_⟩
      rw [a1 d hd]
      by_cases e : d = c
      · subst e
        rw [if_neg (by omega), if_neg (by rw [hb]; simp)]
      · by_cases l : d < c
        · have l2 : d < c + 1 := by omega
          simp only [l, l2, true_and]
        · have l2 : ¬ d < c + 1 := by omega
          simp only [l, l2, false_and]
    · rw [if_pos rfl]
      refine hrec _ ⟨sA g1 29 c (nI ((φ + cn (mt p f q) c * tu p q / cn (mt p f q) (pK p)) % tu p q)), by rw [cn_t hb], F1.sA (by simp), fun d hd => ?_⟩
      rw [sA_21, if_pos rfl]
      by_cases e : d = c
      · subst e
        rw [upd_self, if_pos ⟨by omega, hb⟩]
      · rw [upd_ne _ _ e, a1 d hd]
        by_cases l : d < c
        · have l2 : d < c + 1 := by omega
          simp only [l, l2, true_and]
        · have l2 : ¬ d < c + 1 := by omega
          simp only [l, l2, false_and]
  · rintro rec _ ⟨g1, rfl, F1, a1⟩
    have P1 := hP.fr F1 (by simp) (by simp)
    simp only []
    rw [P1.1.2.2.2.2.2.2.1, if_pos (nI_le (Nat.le_refl _) (by omega))]
    refine Sat.of ⟨F1, ?_, fun d hd => ?_, fun d hd => ⟨?_, ?_⟩⟩
    · rw [sp_us]
      exact (F1.1 2700 (by simp)).trans hF.1
    · rw [sp_nd, F1.2.1 (27 + 1) (by simp)]
      exact hF.2.1 d hd
    · rw [sp_ph hd]
      have := a1 d hd
      simp only [hd, true_and] at this
      refine Eq.trans this ?_
      split <;> rfl
    · rw [sp_rc, F1.2.1 (27 + 3) (by simp)]
      exact (hF.2.2 d hd).2
theorem spreadT {p : Pl} (hw : WP p) {f : Fl} {g : G} (hP : PA p g) (hF : FA p f 13300 133 g) {q φ : Nat} (hq : q < pP p) (hφ : φ < 2 ^ 20) (hn : 0 < cn (mt p f q) (pK p)) :
    Sat (fA_Fleet_spreadOut (nI q) (nI φ) g) (fun g' => Fr [] [135] w0 g g' ∧ FA p (sp p f q φ) 13300 133 g') := by
  have h1 := hw.c
  have tq := hw.q hq
  have cl8 := cn_le (mt p f q) (pK p)
  have ml : ci p q &&& us p f < 256 := Nat.lt_of_le_of_lt Nat.and_le_left (ci_lt p q)
  unfold fA_Fleet_spreadOut
  rw [craftInA (by omega) (fun c hc => by have := hw.h hc; omega) hP (by omega), Option.bind_some, hF.1, n_and, bv_eq, bitCount_eq (by omega), Option.bind_some, ag_nI (by omega) (by decide), (hP.2.1 q hq).2.1, pc_mt (by omega)]
  refine Sat.lp (fun c s => ∃ g', s = (nI (cn (mt p f q) c), nI c, g') ∧ Fr [] [135] w0 g g' ∧ (∀ d, d < pK p → g'.2.1 135 d = if d < c ∧ mt p f q d = true then nI ((φ + cn (mt p f q) d * tu p q / cn (mt p f q) (pK p)) % tu p q) else nI (fph f d))) (pK p) (by omega) ⟨g, rfl, Fr.rf, fun d hd => by rw [if_neg (by omega)]; exact (hF.2.2 d hd).1⟩ ?_ ?_
  · rintro rec c _ hc ⟨g1, rfl, F1, a1⟩ hrec
    have P1 := hP.fr F1 (by simp) (by simp)
    have cl2 := cn_le (mt p f q) c
    have sm1 := mt_small hw (f := f) hq (show cn (mt p f q) c ≤ 8 by omega)
    have dl : cn (mt p f q) c * tu p q / cn (mt p f q) (pK p) ≤ 768 := Nat.le_trans (Nat.div_le_self _ _) sm1
    simp only []
    simp only [nl, lj_eq]
    rw [P1.1.2.2.2.2.2.2.1, if_neg (nI_ge hc (by omega)), n_31 (k := c) (by omega), n_shr (a := ci p q &&& us p f) (by omega) (by omega), n_and, ite_b0, mt_bit (by omega) hc, nI_mul, cutA hn (by omega) (by omega), Option.bind_some, nI_add, restA (by omega) (by omega) (by omega), Option.bind_some, ck_nI (by omega) (by decide), nI_clamp (by omega), bv_eq, nI_add, nI_add]
    cases hb : mt p f q c
    · rw [if_neg (by decide)]
      refine hrec _ ⟨g1, by rw [cn_f hb], F1, fun d hd => ?_⟩
      rw [a1 d hd]
      by_cases e : d = c
      · subst e
        rw [if_neg (by omega), if_neg (by rw [hb]; simp)]
      · by_cases l : d < c
        · have l2 : d < c + 1 := by omega
          simp only [l, l2, true_and]
        · have l2 : ¬ d < c + 1 := by omega
          simp only [l, l2, false_and]
    · rw [if_pos rfl]
      refine hrec _ ⟨sA g1 135 c (nI ((φ + cn (mt p f q) c * tu p q / cn (mt p f q) (pK p)) % tu p q)), by rw [cn_t hb], F1.sA (by simp), fun d hd => ?_⟩
      rw [sA_21, if_pos rfl]
      by_cases e : d = c
      · subst e
        rw [upd_self, if_pos ⟨by omega, hb⟩]
      · rw [upd_ne _ _ e, a1 d hd]
        by_cases l : d < c
        · have l2 : d < c + 1 := by omega
          simp only [l, l2, true_and]
        · have l2 : ¬ d < c + 1 := by omega
          simp only [l, l2, false_and]
  · rintro rec _ ⟨g1, rfl, F1, a1⟩
    have P1 := hP.fr F1 (by simp) (by simp)
    simp only []
    rw [P1.1.2.2.2.2.2.2.1, if_pos (nI_le (Nat.le_refl _) (by omega))]
    refine Sat.of ⟨F1, ?_, fun d hd => ?_, fun d hd => ⟨?_, ?_⟩⟩
    · rw [sp_us]
      exact (F1.1 13300 (by simp)).trans hF.1
    · rw [sp_nd, F1.2.1 (133 + 1) (by simp)]
      exact hF.2.1 d hd
    · rw [sp_ph hd]
      have := a1 d hd
      simp only [hd, true_and] at this
      refine Eq.trans this ?_
      split <;> rfl
    · rw [sp_rc, F1.2.1 (133 + 3) (by simp)]
      exact (hF.2.2 d hd).2
theorem spreadB {p : Pl} (hw : WP p) {f : Fl} {g : G} (hP : PB p g) (hF : FB p f g) (hW : WF p f) {q φ : Nat} (hq : q < pP p) (hφ : φ < 2 ^ 20) (hn : 0 < cn (mt p f q) (pK p)) :
    Sat (fB_M_spreads (nI q) (nI φ) g) (fun g' => Fr [] [20] w0 g g' ∧ FB p (sp p f q φ) g' ∧ ∀ j, (j < 12 ∨ 12 + pK p ≤ j) → g'.2.1 20 j = g.2.1 20 j) := by
  have h1 := hw.c
  have tq := hw.q hq
  have cl8 := cn_le (mt p f q) (pK p)
  unfold fB_M_spreads
  rw [upInB hw hP hF hW (by omega), Option.bind_some, pc_mt (by omega)]
  refine Sat.lp (fun c s => ∃ g', s = (nI (cn (mt p f q) c), nI c, g') ∧ Fr [] [20] w0 g g' ∧ (∀ d, d < pK p → g'.2.1 20 (12 + d) = if d < c ∧ mt p f q d = true then nI ((φ + cn (mt p f q) d * tu p q / cn (mt p f q) (pK p)) % tu p q) else nI (fph f d)) ∧ ∀ j, (j < 12 ∨ 12 + pK p ≤ j) → g'.2.1 20 j = g.2.1 20 j) (pK p) (by omega) ⟨g, rfl, Fr.rf, fun d hd => by rw [if_neg (by omega)]; exact (hF.2 d hd).2.1, fun _ _ => rfl⟩ ?_ ?_
  · rintro rec c _ hc ⟨g1, rfl, F1, a1, a2⟩ hrec
    have P1 := hP.fr F1 (by simp) (by simp)
    have cl2 := cn_le (mt p f q) c
    have hh := hw.h hc
    have wc := hW.2 c hc
    have sm1 := mt_small hw (f := f) hq (show cn (mt p f q) c ≤ 8 by omega)
    have dl : cn (mt p f q) c * tu p q / cn (mt p f q) (pK p) ≤ 768 := Nat.le_trans (Nat.div_le_self _ _) sm1
    have eup : g1.2.1 20 (4 + c) = nI (fup f c) := (a2 (4 + c) (by omega)).trans (hF.2 c hc).1
    simp only []
    simp only [nl, lj_eq]
    rw [P1.1.2.2.2.2.1, if_neg (nI_ge hc (by omega)), ag_nI (by omega) (by decide), P1.2.2.1 c hc, ite_eqn (by omega) (by omega), nI_add, ag_nI (by omega) (by decide), eup, ite_eqn (by omega) (by decide), ag_nI (by omega) (by decide), (P1.2.1 q hq).2, n_dz (by omega) (by omega), ag_nI (by omega) (by decide), (P1.2.1 q hq).2, n_dz (by omega) (by omega), nI_mul, n_div (by omega) (by omega)]
    simp only [nI_add]
    rw [n_div (by omega) (by omega), nI_mul, n_rem, ck_nI (by omega) (by decide), nI_clamp (by omega), bv_eq]
    have skip : mt p f q c = false → Sat (rec (nI (cn (mt p f q) c), nI (c + 1), g1)) (fun g' => Fr [] [20] w0 g g' ∧ FB p (sp p f q φ) g' ∧ ∀ j, (j < 12 ∨ 12 + pK p ≤ j) → g'.2.1 20 j = g.2.1 20 j) := by
      intro hb
      refine hrec _ ⟨g1, by rw [cn_f hb], F1, fun d hd => ?_, a2⟩
      rw [a1 d hd]
      by_cases e : d = c
      · subst e
        rw [if_neg (by omega), if_neg (by rw [hb]; simp)]
      · by_cases l : d < c
        · have l2 : d < c + 1 := by omega
          simp only [l, l2, true_and]
        · have l2 : ¬ d < c + 1 := by omega
          simp only [l, l2, false_and]
    by_cases m1' : hm p c = q
    · rw [if_pos m1']
      by_cases m2 : fup f c = 0
      · rw [if_pos m2]
        exact skip (by unfold mt; simp [m2])
      · rw [if_neg m2]
        have hb : mt p f q c = true := by
          unfold mt
          simp [m1']
          omega
        refine hrec _ ⟨sA g1 20 (12 + c) (nI ((φ + cn (mt p f q) c * tu p q / cn (mt p f q) (pK p)) % tu p q)), by rw [cn_t hb], F1.sA (by simp), fun d hd => ?_, fun j hj => ?_⟩
        · rw [sA_21, if_pos rfl]
          by_cases e : d = c
          · subst e
            rw [upd_self, if_pos ⟨by omega, hb⟩]
          · rw [upd_ne _ _ (by omega), a1 d hd]
            by_cases l : d < c
            · have l2 : d < c + 1 := by omega
              simp only [l, l2, true_and]
            · have l2 : ¬ d < c + 1 := by omega
              simp only [l, l2, false_and]
        · rw [sA_21, if_pos rfl, upd_ne _ _ (by omega)]
          exact a2 j hj
    · rw [if_neg m1']
      exact skip (by unfold mt; simp [m1'])
  · rintro rec _ ⟨g1, rfl, F1, a1, a2⟩
    have P1 := hP.fr F1 (by simp) (by simp)
    simp only []
    rw [P1.1.2.2.2.2.1, if_pos (nI_le (Nat.le_refl _) (by omega))]
    refine Sat.of ⟨F1, ⟨fun d hd => ?_, fun d hd => ⟨?_, ?_, ?_⟩⟩, a2⟩
    · rw [sp_nd]
      exact (a2 d (by omega)).trans (hF.1 d hd)
    · rw [sp_up]
      exact (a2 (4 + d) (by omega)).trans (hF.2 d hd).1
    · rw [sp_ph hd]
      have := a1 d hd
      simp only [hd, true_and] at this
      refine Eq.trans this ?_
      split <;> rfl
    · rw [sp_rc]
      exact (a2 (20 + d) (by omega)).trans (hF.2 d hd).2.2
theorem c_spread {p : Pl} {f : Fl} {gA gB : G} (h : RS p f gA gB) (hA : CA p f gA) (hB : CB p f gB) (a b : Int32) : Eq2 (fA_D_spread a b gA) (fB_M_spread a b gB) := by
  have hl := h.lt
  have no := no3 h hA hB (k := 3) (by decide)
  unfold fA_D_spread fB_M_spread
  by_cases ha : rg (pP p) a
  · obtain ⟨q, hq, rfl⟩ := ha
    have hw := h.wp (by omega)
    have h1 := hw.c
    have tq := hw.q hq
    rw [planeA_t h.2.2.1 hq (by omega), planeB_t h.2.2.2.1 hq (by omega), Option.bind_some, Option.bind_some, lj_eq, lj_eq, if_neg i10, if_neg i10, ag_nI (by omega) (by decide), (h.2.2.1.2.1 q hq).2.1, ag_nI (by omega) (by decide), (h.2.2.2.1.2.1 q hq).2]
    by_cases hb : rg (tu p q) b
    · obtain ⟨φ, hφ, rfl⟩ := hb
      have ml : ci p q &&& us p f < 256 := Nat.lt_of_le_of_lt Nat.and_le_left (ci_lt p q)
      have cl8 := cn_le (mt p f q) (pK p)
      rw [if_neg (nI_pos (by omega)), if_pos (nI_lt hφ (by omega)), craftInA (by omega) h.hm4 h.2.2.1 (by omega), Option.bind_some, h.2.2.2.2.1.1, n_and, bv_eq, inB_t hφ (by omega) rfl, Option.bind_some, if_neg i10, upInB hw h.2.2.2.1 h.2.2.2.2.2.1 h.2.2.2.2.2.2.1 (by omega), Option.bind_some, pc_mt (by omega)]
      by_cases z : cn (mt p f q) (pK p) = 0
      · have mz : ci p q &&& us p f = 0 := pc_zero (Nat.lt_trans ml (by decide)) (by rw [pc_mt (by omega)]; exact z)
        rw [z, mz, if_pos i00, if_pos i00]
        exact no
      · have mz : ¬ ci p q &&& us p f = 0 := fun e => z (by rw [← pc_mt (by omega), e, pc_0])
        obtain ⟨gA', gB', ea, eb, R', S', x1, x2⟩ := begin2 h hw hA
        obtain ⟨gA2, ea2, FA2, ka⟩ := spreadA hw R'.2.2.1 R'.2.2.2.2.1 hq (φ := φ) (by omega) (by omega)
        obtain ⟨gB2, eb2, FB2, kb, kb2⟩ := spreadB hw R'.2.2.2.1 R'.2.2.2.2.2.1 R'.2.2.2.2.2.2.1 hq (φ := φ) (by omega) (by omega)
        have wf := sp_wf hw (φ := φ) hq h.2.2.2.2.2.2.1
        have PB2 := R'.2.2.2.1.fr FB2 (by simp) (by simp)
        rw [if_neg (show ¬ nI (ci p q &&& us p f) = 0 from nI_ne0 (by omega) (by omega)), if_neg (show ¬ nI (cn (mt p f q) (pK p)) = 0 from nI_ne0 (by omega) (by omega)), ea, Option.bind_some, eb, Option.bind_some, ea2, Option.bind_some, eb2, Option.bind_some, bitCount_eq (Nat.lt_trans ml (by decide)), Option.bind_some, upInB hw PB2 kb wf (by omega), Option.bind_some, sp_us]
        exact ⟨_, _, _, rfl, rfl, (Ch.act R' S' x1 x2 wf ka kb (FA2.wd (by simp) (by simp) (by simp)) FB2).rel⟩
    · rw [inB_f hb (by omega) rfl, Option.bind_some, if_pos i00]
      by_cases l : b < 0
      · rw [if_pos l]
        exact no
      · rw [if_neg l]
        obtain ⟨j, hj, rfl⟩ := nI_of l
        have : tu p q ≤ j := by
          apply Classical.byContradiction
          intro hl
          exact hb ⟨j, by omega, rfl⟩
        rw [if_neg (nI_nlt this hj)]
        exact no
  · rw [planeA_f h.2.2.1 ha, planeB_f h.2.2.2.1 ha (by omega), Option.bind_some, Option.bind_some, lj_eq, lj_eq, if_pos i00, if_pos i00]
    exact no
