/-! ACTS: what is kept -/
theorem TP.fr {SA TA SB TB : List Nat} {wA wB : Bool × Bool × Bool} {gA gB gA' gB' : G} (h : TP gA gB) (fA : Fr SA TA wA gA gA') (fB : Fr SB TB wB gB gB') (c : 101 ∉ SA ∧ 2 ∉ TA ∧ 33 ∉ SB ∧ 17 ∉ TB) : TP gA' gB' := by
  unfold TP
  rw [fA.1 _ c.1, fA.2.1 _ c.2.1, fB.1 _ c.2.2.1, fB.2.1 _ c.2.2.2]
  exact h
theorem OC.fr {SA TA SB TB : List Nat} {wA wB : Bool × Bool × Bool} {gA gB gA' gB' : G} (h : OC gA gB) (fA : Fr SA TA wA gA gA') (fB : Fr SB TB wB gB gB') (c : 14 ∉ SA ∧ 144 ∉ TA ∧ 64 ∉ SB ∧ 29 ∉ TB) : OC gA' gB' := by
  unfold OC
  rw [fA.1 _ c.1, fA.2.1 _ c.2.1, fB.1 _ c.2.2.1, fB.2.1 _ c.2.2.2]
  exact h
theorem SD.fr {SA TA SB TB : List Nat} {wA wB : Bool × Bool × Bool} {gA gB gA' gB' : G} (h : SD gA gB) (fA : Fr SA TA wA gA gA') (fB : Fr SB TB wB gB gB') (c : wA.1 = false ∧ 62 ∉ SB) : SD gA' gB' := by
  unfold SD
  rw [fA.2.2.1 c.1, fB.1 _ c.2]
  exact h
theorem HI.fr {SA TA SB TB : List Nat} {wA wB : Bool × Bool × Bool} {p : Pl} {gA gB gA' gB' : G} (h : HI p gA gB) (fA : Fr SA TA wA gA gA') (fB : Fr SB TB wB gB gB') (c1 : ∀ k ∈ SA, k < 3600 ∨ 11400 < k) (c2 : ∀ k ∈ TA, k < 38 ∨ 117 < k) (c3 : 45 ∉ SB ∧ 21 ∉ TB) : HI p gA' gB' := by
  obtain ⟨n, t, h1, h2, h3, h4, h5, h6⟩ := h
  refine ⟨n, t, h1, h2, (fA.1 _ (fun m => by have := c1 _ m; omega)).trans h3, (fA.1 _ (fun m => by have := c1 _ m; omega)).trans h4, (fB.1 _ c3.1).trans h5, fun k hk => ?_⟩
  obtain ⟨hh, e1, e2, e3⟩ := h6 k hk
  have l : (t + 20 - n + k) % 20 < 20 := Nat.mod_lt _ (by decide)
  refine ⟨hh, e1, FA.fr e2 fA (fun m => by have := c1 _ m; omega) (fun j m => by have := c2 j m; omega), ?_⟩
  unfold KB
  rw [fB.2.1 _ c3.2]
  exact e3
theorem NT.fr {SA TA SB TB : List Nat} {wA wB : Bool × Bool × Bool} {p : Pl} {gA gB gA' gB' : G} (h : NT p gA gB) (fA : Fr SA TA wA gA gA') (fB : Fr SB TB wB gB gB') (c1 : 13800 ∉ SA) (c2 : ∀ k ∈ TA, k < 139 ∨ 142 < k) (c3 : 58 ∉ SB ∧ 26 ∉ TB) : NT p gA' gB' := by
  unfold NT
  rw [fA.1 _ c1, fA.2.1 139 (fun m => by have := c2 _ m; omega), fA.2.1 140 (fun m => by have := c2 _ m; omega), fA.2.1 141 (fun m => by have := c2 _ m; omega), fA.2.1 142 (fun m => by have := c2 _ m; omega), fB.1 _ c3.1, fB.2.1 _ c3.2]
  exact h
theorem SH.fr {SA TA : List Nat} {wA : Bool × Bool × Bool} {p : Pl} {gA gA' : G} (h : SH p gA) (fA : Fr SA TA wA gA gA') (c : wA.2.2 = false) : SH p gA' := by
  unfold SH
  rw [fA.2.2.2.2 c]
  exact h
/-- the fleet is another one -/
theorem RS.fleet {p : Pl} {f f' : Fl} {gA gB gA' gB' : G} (h : RS p f gA gB) (hw : WF p f') (a : FA p f' 2700 27 gA') (b : FB p f' gB') (fA : Fr [2700, 18] [28, 29, 30] w0 gA gA') (fB : Fr [47] [20] w0 gB gB') : RS p f' gA' gB' := by
  obtain ⟨r1, r2, r3, r4, r5, r6, r7, r8, r9, r10, r11, r12, r13, r14, r15, r16⟩ := h
  refine ⟨?_, r2, r3.fr fA (by simp) (by simp), r4.fr fB (by simp) (by simp), a, b, hw, r8.fr fA fB (by simp), ?_, ?_, r11.fr fA fB (by simp), r12.fr fA fB ⟨rfl, by simp⟩, r13.fr fA fB (by simp) (by simp) (by simp), r14.fr fA fB (by simp) (by simp) (by simp), r15.fr fA rfl, ?_⟩
  · rw [fB.1 0 (by simp)]
    exact r1
  · rw [fA.2.1 145 (by simp), fB.2.1 18 (by simp)]
    exact r9
  · rw [fA.1 15 (by simp), fA.1 16 (by simp), fB.1 35 (by simp), fB.1 36 (by simp)]
    exact r10
  · rw [fB.2.1 19 (by simp)]
    exact r16
theorem cpy0 {f g : Nat → Int32} {n j : Nat} (h : j < n) : va_cpy f g 0 0 n j = f j := by
  rw [pk_cpy_in (by omega) (by omega)]
  congr 1
  omega
theorem take3 {p : Pl} {f : Fl} {g : G} (hl : pP p ≤ 4 ∧ pK p ≤ 8) (hF : FA p f 2700 27 g) {i : Nat} (hi : i < 20) : Sat (fA_Fleet_take_3 i g) (fun g' => Fr [100 * (38 + 4 * i)] [38 + 4 * i + 1, 38 + 4 * i + 2, 38 + 4 * i + 3] w0 g g' ∧ KA p f i g') := by
  unfold fA_Fleet_take_3
  simp only [nl]
  rw [bv_eq, cp_nI (by omega) (by omega) (by decide) (by decide), bv_eq, cp_nI (by omega) (by omega) (by decide) (by decide), bv_eq, cp_nI (by omega) (by omega) (by decide) (by decide), bv_eq, nI_clamp (by decide), nI_clamp (by decide), nI_clamp (by decide)]
  refine Sat.of ⟨(((Fr.rf.sS (by simp)).sC (by simp)).sC (by simp)).sC (by simp), ?_, fun q hq => ?_, fun c hc => ⟨?_, ?_⟩⟩
  · show (if 100 * (38 + 4 * i) = 100 * (38 + 4 * i) then g.1 2700 else _) = _
    rw [if_pos rfl]
    exact hF.1
  · simp only [sC_21, sS_2]
    rw [if_neg (by omega), if_neg (by omega), if_pos trivial, cpy0 (by omega)]
    exact hF.2.1 q hq
  · simp only [sC_21, sS_2]
    rw [if_neg (by omega), if_pos trivial, cpy0 (by omega), if_neg (by omega)]
    exact (hF.2.2 c hc).1
  · simp only [sC_21, sS_2]
    rw [if_pos trivial, cpy0 (by omega), if_neg (by omega), if_neg (by omega)]
    exact (hF.2.2 c hc).2
theorem kg_nI {β : Type} {n i : Nat} {k : Nat → Option β} (h : i < n) (hn : n < 2 ^ 31) : kg n (nI i) k = k i := by
  rw [kg, if_neg (nI_in h hn), nI_clamp (by omega)]
theorem keepA {p : Pl} {f : Fl} {g : G} (hl : pP p ≤ 4 ∧ pK p ≤ 8) (hF : FA p f 2700 27 g) {t n : Nat} (ht : t < 20) (hn : n ≤ 20) (e1 : g.1 3601 = nI t) (e2 : g.1 3600 = nI n) :
    Sat (fA_D_beginAct g) (fun g' => Fr [100 * (38 + 4 * t), 3601, 3600, 18] [38 + 4 * t + 1, 38 + 4 * t + 2, 38 + 4 * t + 3] w0 g g' ∧ KA p f t g' ∧ g'.1 3601 = nI ((t + 1) % 20) ∧ g'.1 3600 = nI (if 20 < n + 1 then 20 else n + 1) ∧ g'.1 18 = nI 0) := by
  unfold fA_D_beginAct fA_History_keep
  rw [e1, kg_nI ht (by decide)]
  obtain ⟨g1, q1, F1, K1⟩ := take3 hl hF ht
  have e1' : g1.1 3601 = nI t := (F1.1 3601 (by simp; omega)).trans e1
  have e2' : g1.1 3600 = nI n := (F1.1 3600 (by simp; omega)).trans e2
  simp only [nl]
  rw [q1, Option.bind_some, n_dz (by decide) (by decide), e1', nI_add, n_div (by omega) (by decide), nI_mul, n_rem, bv_eq, bv_eq, bv_eq, Option.bind_some, bv_eq]
  have e3 : (sS g1 3601 (nI ((t + 1) % 20))).1 3600 = nI n := e2'
  rw [e3, nI_add, ite_ltn (by decide) (by omega)]
  have e4 : (if 20 < n + 1 then nI 20 else nI (n + 1)) = nI (if 20 < n + 1 then 20 else n + 1) := by split <;> rfl
  rw [e4]
  have F2 : Fr [100 * (38 + 4 * t), 3601, 3600, 18] [38 + 4 * t + 1, 38 + 4 * t + 2, 38 + 4 * t + 3] w0 g (sS (sS (sS g1 3601 (nI ((t + 1) % 20))) 3600 (nI (if 20 < n + 1 then 20 else n + 1))) 18 (nI 0)) :=
    (((F1.wd (by simp) (by simp) (by simp)).sS (by simp)).sS (by simp)).sS (by simp)
  have F3 : Fr [3601, 3600, 18] [] w0 g1 (sS (sS (sS g1 3601 (nI ((t + 1) % 20))) 3600 (nI (if 20 < n + 1 then 20 else n + 1))) 18 (nI 0)) :=
    ((Fr.rf.sS (by simp)).sS (by simp)).sS (by simp)
  exact Sat.of ⟨F2, FA.fr K1 F3 (by simp; omega) (by simp), rfl, rfl, rfl⟩
/-- the model's rows, moved -/
theorem remembersB {p : Pl} {f : Fl} {g : G} (hl : pP p ≤ 4 ∧ pK p ≤ 8) (hF : FB p f g) {n : Nat} (hn : n ≤ 20) (e : g.1 45 = nI n) :
    Sat (fB_M_remembers g) (fun g' => Fr [45, 47] [21] w0 g g' ∧ g'.1 45 = nI (if 20 < n + 1 then 20 else n + 1) ∧ g'.1 47 = nI 0 ∧ KB p f (if 20 < n + 1 then 19 else n) g' ∧ ∀ k h, k < (if 20 < n + 1 then 19 else n) → KB p h (if 20 < n + 1 then k + 1 else k) g → KB p h k g') := by
  have put : ∀ (m : Nat) (g0 : G), m < 20 → Fr [45, 47] [21] w0 g g0 → g0.1 45 = nI m → Sat (Lp (α := Int32 × G) (fun rec2 s2 => (if 28 ≤ s2.1 then bv (sS s2.2 45 ((s2.2.1 45) + 1)) fun g3 => bv (sS g3 47 0) fun g4 => some g4 else ag 28 (s2.2.2.1 20) s2.1 fun x5 => ck 560 ((28 * (s2.2.1 45)) + s2.1) (bv (sA s2.2 21 ((28 * (s2.2.1 45)) + s2.1 : Int32).toNatClampNeg x5) fun g6 => rec2 (s2.1 + 1, g6)))) FU (0, g0))
      (fun g' => Fr [45, 47] [21] w0 g g' ∧ g'.1 45 = nI (m + 1) ∧ g'.1 47 = nI 0 ∧ KB p f m g' ∧ ∀ j, (j < 28 * m ∨ 28 * m + 28 ≤ j) → g'.2.1 21 j = g0.2.1 21 j) := by
    intro m g0 hm F0 e0
    refine Sat.lp (fun k s => ∃ g', s = (nI k, g') ∧ Fr [45, 47] [21] w0 g g' ∧ g'.1 45 = nI m ∧ (∀ j, j < k → g'.2.1 21 (28 * m + j) = g.2.1 20 j) ∧ ∀ j, (j < 28 * m ∨ 28 * m + 28 ≤ j) → g'.2.1 21 j = g0.2.1 21 j) 28 (by decide) ⟨g0, rfl, F0, e0, fun j hj => by omega, fun _ _ => rfl⟩ ?_ ?_
    · rintro rec k _ hk ⟨g1, rfl, F1, a1, a2, a3⟩ hrec
      simp only []
      simp only [nl]
      rw [if_neg (nI_ge hk (by decide)), ag_nI (by omega) (by decide), a1, nI_mul, nI_add, ck_nI (by omega) (by decide), nI_clamp (by omega), bv_eq, nI_add, F1.2.1 20 (by simp)]
      refine hrec _ ⟨_, rfl, F1.sA (by simp), a1, fun j hj => ?_, fun j hj => ?_⟩
      · rw [sA_21, if_pos rfl]
        by_cases e : j = k
        · subst e
          rw [upd_self]
        · rw [upd_ne _ _ (by omega)]
          exact a2 j (by omega)
      · rw [sA_21, if_pos rfl, upd_ne _ _ (by omega)]
        exact a3 j hj
    · rintro rec _ ⟨g1, rfl, F1, a1, a2, a3⟩
      simp only []
      simp only [nl]
      rw [if_pos (nI_le (Nat.le_refl _) (by decide)), a1, nI_add, bv_eq, bv_eq]
      refine Sat.of ⟨(F1.sS (by simp)).sS (by simp), rfl, rfl, ⟨fun q hq => ?_, fun c hc => ⟨?_, ?_, ?_⟩⟩, a3⟩
      · exact (a2 q (by omega)).trans (hF.1 q hq)
      · exact (a2 (4 + c) (by omega)).trans (hF.2 c hc).1
      · exact (a2 (12 + c) (by omega)).trans (hF.2 c hc).2.1
      · exact (a2 (20 + c) (by omega)).trans (hF.2 c hc).2.2
  unfold fB_M_remembers
  rw [lj_eq, e]
  by_cases c : n = 20
  · subst c
    rw [if_pos (show nI 20 = 20 from rfl)]
    refine Sat.lp (fun k s => ∃ g', s = (nI k, g') ∧ Fr [45, 47] [21] w0 g g' ∧ g'.1 45 = nI 20 ∧ (∀ j, j < k → g'.2.1 21 j = g.2.1 21 (j + 28)) ∧ ∀ j, k ≤ j → g'.2.1 21 j = g.2.1 21 j) 532 (by decide) ⟨g, rfl, Fr.rf, e, fun j hj => by omega, fun _ _ => rfl⟩ ?_ ?_
    · rintro rec k _ hk ⟨g1, rfl, F1, a1, a2, a3⟩ hrec
      simp only []
      simp only [nl]
      rw [if_neg (nI_ge hk (by decide)), nI_add, ag_nI (by omega) (by decide), ck_nI (by omega) (by decide), nI_clamp (by omega), bv_eq, nI_add]
      refine hrec _ ⟨_, rfl, F1.sA (by simp), a1, fun j hj => ?_, fun j hj => ?_⟩
      · rw [sA_21, if_pos rfl]
        by_cases e : j = k
        · subst e
          rw [upd_self]
          exact a3 _ (by omega)
        · rw [upd_ne _ _ e]
          exact a2 j (by omega)
      · rw [sA_21, if_pos rfl, upd_ne _ _ (by omega)]
        exact a3 j (by omega)
    · rintro rec _ ⟨g1, rfl, F1, a1, a2, a3⟩
      simp only []
      rw [show (532 : Int32) = nI 532 from rfl, if_pos (nI_le (Nat.le_refl _) (by decide)), a1, show (nI 20 - 1 : Int32) = nI 19 from by decide, bv_eq]
      refine (put 19 _ (by decide) (F1.sS (by simp)) rfl).mono ?_
      rintro g2 ⟨F2, b1, b2, b3, b4⟩
      refine ⟨F2, b1, b2, b3, fun k h hk hK => ?_⟩
      have hk : k < 19 := hk
      have hK : KB p h (k + 1) g := hK
      have mv : ∀ j, j < 28 → g2.2.1 21 (28 * k + j) = g.2.1 21 (28 * (k + 1) + j) := by
        intro j hj
        rw [b4 _ (by omega)]
        show g1.2.1 21 _ = _
        rw [a2 _ (by omega), show 28 * k + j + 28 = 28 * (k + 1) + j by omega]
      exact ⟨fun q hq => (mv q (by omega)).trans (hK.1 q hq), fun c hc => ⟨(mv (4 + c) (by omega)).trans (hK.2 c hc).1, (mv (12 + c) (by omega)).trans (hK.2 c hc).2.1, (mv (20 + c) (by omega)).trans (hK.2 c hc).2.2⟩⟩
  · rw [if_neg (show ¬ nI n = 20 from fun z => c ((nI_eq (b := 20) (by omega) (by decide)).mp z))]
    refine (put n g (by omega) Fr.rf e).mono ?_
    rintro g2 ⟨F2, b1, b2, b3, b4⟩
    rw [if_neg (show ¬ 20 < n + 1 by omega), if_neg (show ¬ 20 < n + 1 by omega)]
    refine ⟨F2, b1, b2, b3, fun k h hk hK => ?_⟩
    rw [if_neg (show ¬ 20 < n + 1 by omega)] at hK
    have mv : ∀ j, j < 28 → g2.2.1 21 (28 * k + j) = g.2.1 21 (28 * k + j) := fun j hj => b4 _ (by omega)
    exact ⟨fun q hq => (mv q (by omega)).trans (hK.1 q hq), fun c hc => ⟨(mv (4 + c) (by omega)).trans (hK.2 c hc).1, (mv (12 + c) (by omega)).trans (hK.2 c hc).2.1, (mv (20 + c) (by omega)).trans (hK.2 c hc).2.2⟩⟩
/-- both keep what is -/
theorem begin2 {p : Pl} {f : Fl} {gA gB : G} (h : RS p f gA gB) (hw : WP p) (hA : CA p f gA) :
    ∃ gA' gB', fA_D_beginAct gA = some gA' ∧ fB_M_remembers gB = some gB' ∧ RS p f gA' gB' ∧ SK p gA' ∧ gA'.1 18 = nI 0 ∧ gB'.1 47 = nI 0 := by
  have hl := h.lt
  have hS := (hA hw).1
  have hcw := hw.c
  obtain ⟨r1, r2, r3, r4, r5, r6, r7, r8, r9, r10, r11, r12, ⟨n, t, hn, ht, n1, n2, n3, n4⟩, r14, r15, r16⟩ := h
  obtain ⟨gA', ea, FA', ka, ka1, ka2, ka3⟩ := keepA (p := p) (f := f) ⟨by omega, by omega⟩ r5 ht hn.1 n2 n1
  obtain ⟨gB', eb, FB', kb1, kb2, kb3, kb4⟩ := remembersB (p := p) (f := f) ⟨by omega, by omega⟩ r6 hn.1 n3
  have cA : ∀ k ∈ [100 * (38 + 4 * t), 3601, 3600, 18], (3800 ≤ k ∧ k ≤ 11400) ∨ k = 3601 ∨ k = 3600 ∨ k = 18 := by
    intro k hk
    simp at hk
    omega
  have cT : ∀ k ∈ [38 + 4 * t + 1, 38 + 4 * t + 2, 38 + 4 * t + 3], 38 < k ∧ k < 118 := by
    intro k hk
    simp at hk
    omega
  refine ⟨gA', gB', ea, eb, ⟨?_, r2, r3.fr FA' (fun k m => by have := cA k m; omega) (fun k m => by have := cT k m; omega), r4.fr FB' (by simp) (by simp), r5.fr FA' (fun m => by have := cA _ m; omega) (fun k m => by have := cT k m; omega), r6.fr FB' (by simp), r7,
    r8.fr FA' FB' ⟨fun m => by have := cA _ m; omega, fun m => by have := cT _ m; omega, by simp, by simp⟩, ?_, ?_, r11.fr FA' FB' ⟨fun m => by have := cA _ m; omega, fun m => by have := cT _ m; omega, by simp, by simp⟩, r12.fr FA' FB' ⟨rfl, by simp⟩, ?_,
    r14.fr FA' FB' (fun m => by have := cA _ m; omega) (fun k m => by have := cT k m; omega) (by simp), r15.fr FA' rfl, ?_⟩, hS.fr FA' ⟨fun m => by have := cA _ m; omega, fun m => by have := cA _ m; omega⟩ (fun k m => by have := cT k m; omega), ka3, kb2⟩
  · rw [FB'.1 0 (by simp)]
    exact r1
  · rw [FA'.2.1 145 (fun m => by have := cT _ m; omega), FB'.2.1 18 (by simp)]
    exact r9
  · rw [FA'.1 15 (fun m => by have := cA _ m; omega), FA'.1 16 (fun m => by have := cA _ m; omega), FB'.1 35 (by simp), FB'.1 36 (by simp)]
    exact r10
  · refine ⟨if 20 < n + 1 then 20 else n + 1, (t + 1) % 20, ⟨by split <;> omega, fun z => by omega⟩, Nat.mod_lt _ (by decide), ka2, ka1, kb1, fun k hk => ?_⟩
    by_cases c : 20 < n + 1
    · rw [if_pos c] at hk kb3 ⊢
      have n20 : n = 20 := by omega
      subst n20
      by_cases k19 : k = 19
      · subst k19
        refine ⟨f, r7, ?_, kb3⟩
        have : ((t + 1) % 20 + 20 - 20 + 19) % 20 = t := by omega
        rw [this]
        exact ka
      · obtain ⟨hh, e1, e2, e3⟩ := n4 (k + 1) (by omega)
        have pos : ((t + 1) % 20 + 20 - 20 + k) % 20 = (t + 20 - 20 + (k + 1)) % 20 := by omega
        have l1 : (t + 20 - 20 + (k + 1)) % 20 < 20 := Nat.mod_lt _ (by decide)
        have l2 : (t + 20 - 20 + (k + 1)) % 20 ≠ t := by omega
        refine ⟨hh, e1, ?_, kb4 k hh (by rw [if_pos c]; omega) (by rw [if_pos c]; exact e3)⟩
        rw [pos]
        exact FA.fr e2 FA' (by simp; omega) (by simp; omega)
    · rw [if_neg c] at hk kb3 ⊢
      by_cases kn : k = n
      · subst kn
        refine ⟨f, r7, ?_, kb3⟩
        have : ((t + 1) % 20 + 20 - (k + 1) + k) % 20 = t := by omega
        rw [this]
        exact ka
      · obtain ⟨hh, e1, e2, e3⟩ := n4 k (by omega)
        have pos : ((t + 1) % 20 + 20 - (n + 1) + k) % 20 = (t + 20 - n + k) % 20 := by omega
        have l1 : (t + 20 - n + k) % 20 < 20 := Nat.mod_lt _ (by decide)
        have l2 : (t + 20 - n + k) % 20 ≠ t := by omega
        refine ⟨hh, e1, ?_, kb4 k hh (by rw [if_neg c]; omega) (by rw [if_neg c]; exact e3)⟩
        rw [pos]
        exact FA.fr e2 FA' (by simp; omega) (by simp; omega)
  · rw [FB'.2.1 19 (by simp)]
    exact r16
