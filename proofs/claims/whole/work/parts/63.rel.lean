/-! HOW THE TWO STAND TO EACH OTHER -/
def ZP (p : Pl) : Prop := pC p = 0 ∧ pR p = 0 ∧ pD p = 0 ∧ pY p = 0 ∧ pP p = 0 ∧ pK p = 0 ∧ pS p = 0
/-- names are five bits a letter -/
def NM (p : Pl) : Prop := ∀ w i, (w < pP p ∨ 4 ≤ w ∧ w < 4 + pK p ∨ 12 ≤ w ∧ w < 12 + pS p) → i < 6 → nm p w i < 32
def TP (gA gB : G) : Prop := ∃ n, n ≤ 1600 ∧ gA.1 101 = nI n ∧ gB.1 33 = nI n ∧ ∀ i, i < n → gA.2.1 2 i = gB.2.1 17 i ∧ ∃ v, v < 256 ∧ gB.2.1 17 i = nI v
def OC (gA gB : G) : Prop := ∃ n, n ≤ 29 ∧ gA.1 14 = nI n ∧ gB.1 64 = nI n ∧ ∀ i, i < n → gA.2.1 144 i = gB.2.1 29 i
def SD (gA gB : G) : Prop := ∃ s, s < 2 ^ 31 ∧ gA.2.2.1 = (nI s).toInt64 ∧ gB.1 62 = nI s
/-- what was kept: the k-th of n, the oldest first -/
def KA (p : Pl) (h : Fl) (i : Nat) (g : G) : Prop := FA p h (100 * (38 + 4 * i)) (38 + 4 * i) g
def KB (p : Pl) (h : Fl) (k : Nat) (g : G) : Prop :=
  (∀ q, q < pP p → g.2.1 21 (28 * k + q) = nI (fnd h q)) ∧ ∀ c, c < pK p → g.2.1 21 (28 * k + (4 + c)) = nI (fup h c) ∧ g.2.1 21 (28 * k + (12 + c)) = nI (fph h c) ∧ g.2.1 21 (28 * k + (20 + c)) = nI (frc h c)
def HI (p : Pl) (gA gB : G) : Prop := ∃ n t, (n ≤ 20 ∧ (pC p = 0 → n = 0)) ∧ t < 20 ∧ gA.1 3600 = nI n ∧ gA.1 3601 = nI t ∧ gB.1 45 = nI n ∧ ∀ k, k < n → ∃ h, WF p h ∧ KA p h ((t + 20 - n + k) % 20) gA ∧ KB p h k gB
def NT (p : Pl) (gA gB : G) : Prop := ∃ n, n ≤ 16 ∧ gA.1 13800 = nI n ∧ gB.1 58 = nI n ∧ ∀ k, k < n → ∃ t x y s, t < pY p ∧ x < pC p ∧ y < pR p ∧ s ≤ 1 ∧
  gA.2.1 139 k = nI t ∧ gA.2.1 140 k = nI x ∧ gA.2.1 141 k = nI y ∧ gA.2.1 142 k = nI s ∧ gB.2.1 26 (4 * k) = nI t ∧ gB.2.1 26 (4 * k + 1) = nI x ∧ gB.2.1 26 (4 * k + 2) = nI y ∧ gB.2.1 26 (4 * k + 3) = nI s
def SH (p : Pl) (g : G) : Prop := ∀ y, y < pR p → g.2.2.2.2 y = FP.fdiv (FP.i2f (nI (wd p y))) (FP.i2f (nI (al p)))
/-- all but the sky and the sets -/
def RS (p : Pl) (f : Fl) (gA gB : G) : Prop :=
  ((WP p ∧ gB.1 0 = nI 1) ∨ (ZP p ∧ gB.1 0 = nI 0)) ∧ NM p ∧ PA p gA ∧ PB p gB ∧ FA p f 2700 27 gA ∧ FB p f gB ∧ WF p f ∧ TP gA gB ∧ (∀ i, i < 6 → gA.2.1 145 i = gB.2.1 18 i) ∧ (gA.1 15 = gB.1 35 ∧ gA.1 16 = gB.1 36) ∧ OC gA gB ∧ SD gA gB ∧ HI p gA gB ∧ NT p gA gB ∧ SH p gA ∧ gB.2.1 19 = gB0.2.1 19
def CA (p : Pl) (f : Fl) (g : G) : Prop := WP p → SK p g ∧ (g.1 18 = nI 0 ∨ g.1 18 = nI 1 ∧ LK p f g)
def CB (p : Pl) (f : Fl) (g : G) : Prop := WP p → g.1 47 = nI 0 ∨ g.1 47 = nI 1 ∧ LB p f g
def Rel (gA gB : G) : Prop := ∃ p f, RS p f gA gB ∧ CA p f gA ∧ CB p f gB
/-- what questions may change -/
def qA : List Nat := [18, 11802, 13000, 13001, 13002, 13003, 13200, 13201, 13202, 13300, 13700, 13701, 13801, 13802]
def tA : List Nat := [119, 121, 122, 123, 124, 125, 126, 127, 128, 129, 131, 134, 135, 136, 143]
def qB : List Nat := [47, 50, 51, 52, 53, 56, 57]
def tB : List Nat := [22, 23, 24, 25, 27, 28]
abbrev w1 : Bool × Bool × Bool := (false, true, false)
theorem q_lt : ∀ k ∈ qA, k = 18 ∨ (11801 < k ∧ k < 13800) ∨ k = 13801 ∨ k = 13802 := by decide
theorem t_lt : ∀ k ∈ tA, 118 < k ∧ k < 137 ∨ k = 143 := by decide
theorem RS.frA {p : Pl} {f : Fl} {gA gB gA' : G} (h : RS p f gA gB) (hf : Fr qA tA w1 gA gA') : RS p f gA' gB := by
  obtain ⟨r1, r2, r3, r4, r5, r6, r7, r8, r9, r10, r11, r12, r13, r14, r15, r16⟩ := h
  have s : ∀ k, k ∉ qA → gA'.1 k = gA.1 k := hf.1
  have a : ∀ k, k ∉ tA → gA'.2.1 k = gA.2.1 k := hf.2.1
  refine ⟨r1, r2, r3.fr hf (fun k m => by have := q_lt k m; omega) (fun k m => by have := t_lt k m; omega), r4, r5.fr hf (by decide) (fun k m => by have := t_lt k m; omega), r6, r7, ?_, ?_, ?_, ?_, ?_, ?_, ?_, ?_, r16⟩
  · unfold TP
    rw [s 101 (by decide), a 2 (by decide)]
    exact r8
  · rw [a 145 (by decide)]
    exact r9
  · rw [s 15 (by decide), s 16 (by decide)]
    exact r10
  · unfold OC
    rw [s 14 (by decide), a 144 (by decide)]
    exact r11
  · unfold SD
    rw [hf.2.2.1 rfl]
    exact r12
  · obtain ⟨n, t, h1, h2, h3, h4, h5, h6⟩ := r13
    refine ⟨n, t, h1, h2, by rw [s 3600 (by decide)]; exact h3, by rw [s 3601 (by decide)]; exact h4, h5, fun k hk => ?_⟩
    obtain ⟨hh, e1, e2, e3⟩ := h6 k hk
    have l : (t + 20 - n + k) % 20 < 20 := Nat.mod_lt _ (by decide)
    exact ⟨hh, e1, FA.fr e2 hf (fun m => by have := q_lt _ m; omega) (fun k m => by have := t_lt k m; omega), e3⟩
  · unfold NT
    rw [s 13800 (by decide), a 139 (by decide), a 140 (by decide), a 141 (by decide), a 142 (by decide)]
    exact r14
  · unfold SH
    rw [hf.2.2.2.2 rfl]
    exact r15
theorem RS.frB {p : Pl} {f : Fl} {gA gB gB' : G} (h : RS p f gA gB) (hf : Fr qB tB w1 gB gB') : RS p f gA gB' := by
  obtain ⟨r1, r2, r3, r4, r5, r6, r7, r8, r9, r10, r11, r12, r13, r14, r15, r16⟩ := h
  have s : ∀ k, k ∉ qB → gB'.1 k = gB.1 k := hf.1
  have a : ∀ k, k ∉ tB → gB'.2.1 k = gB.2.1 k := hf.2.1
  refine ⟨?_, r2, r3, r4.fr hf (by decide) (by decide), r5, r6.fr hf (by decide), r7, ?_, ?_, ?_, ?_, ?_, ?_, ?_, r15, ?_⟩
  · rw [s 0 (by decide)]
    exact r1
  · unfold TP
    rw [s 33 (by decide), a 17 (by decide)]
    exact r8
  · rw [a 18 (by decide)]
    exact r9
  · rw [s 35 (by decide), s 36 (by decide)]
    exact r10
  · unfold OC
    rw [s 64 (by decide), a 29 (by decide)]
    exact r11
  · unfold SD
    rw [s 62 (by decide)]
    exact r12
  · unfold HI KB
    rw [s 45 (by decide), a 21 (by decide)]
    exact r13
  · unfold NT
    rw [s 58 (by decide), a 26 (by decide)]
    exact r14
  · rw [a 19 (by decide)]
    exact r16
/-- an int within a range -/
def rg (n : Nat) (x : Int32) : Prop := ∃ a, a < n ∧ x = nI a
theorem inB_t {a n : Nat} {hi : Int32} (h : a < n) (hn : n < 2 ^ 31) (e : hi = nI n - 1) (g : G) : fB_M_isIn (nI a) 0 hi g = some (nI 1) := by
  unfold fB_M_isIn
  rw [e, nl, nl, nI_sub (by omega), if_neg (nI_nlt (by omega) (by omega)), if_neg (nI_nlt (by omega) (by omega))]
theorem inB_f {x : Int32} {n : Nat} {hi : Int32} (h : ¬ rg n x) (hn : n < 2 ^ 31) (e : hi = nI n - 1) (g : G) : fB_M_isIn x 0 hi g = some (nI 0) := by
  unfold fB_M_isIn
  by_cases hx : x < 0
  · rw [if_pos hx]
    rfl
  · rw [if_neg hx]
    obtain ⟨j, hj, rfl⟩ := nI_of hx
    have hl : n ≤ j := by
      apply Classical.byContradiction
      intro hl
      exact h ⟨j, by omega, rfl⟩
    have : hi < nI j := by
      rw [e]
      by_cases z : n = 0
      · subst z
        have : nI 0 - 1 = m1 := by decide
        rw [this, m1_lt hj]
        trivial
      · rw [nl, nI_sub (by omega)]
        exact nI_lt (by omega) hj
    rw [if_pos this]
    rfl
theorem A_t {α : Type} {a n : Nat} (h : a < n) (hn : n < 2 ^ 31) {u v w : α} : (if nI a < 0 then u else if nI n ≤ nI a then v else w) = w := by
  rw [if_neg (nI_pos (by omega)), if_neg (nI_ge h hn)]
theorem A_f {α : Type} {x : Int32} {n : Nat} (h : ¬ rg n x) {u w : α} : (if x < 0 then u else if nI n ≤ x then u else w) = u := by
  by_cases hx : x < 0
  · rw [if_pos hx]
  · rw [if_neg hx]
    obtain ⟨j, hj, rfl⟩ := nI_of hx
    have hl : n ≤ j := by
      apply Classical.byContradiction
      intro hl
      exact h ⟨j, by omega, rfl⟩
    rw [if_pos (nI_le hl hj)]
theorem planeA_t {p : Pl} {g : G} (hP : PA p g) {a : Nat} (h : a < pP p) (hn : pP p < 2 ^ 31) : fA_Plan_hasPlane (nI a) g = some (nI 1) := by
  unfold fA_Plan_hasPlane
  rw [hP.1.2.2.2.2.2.1, A_t h hn]
  rfl
theorem planeA_f {p : Pl} {g : G} (hP : PA p g) {x : Int32} (h : ¬ rg (pP p) x) : fA_Plan_hasPlane x g = some (nI 0) := by
  unfold fA_Plan_hasPlane
  rw [hP.1.2.2.2.2.2.1, A_f h]
  rfl
theorem craftA_t {p : Pl} {g : G} (hP : PA p g) {a : Nat} (h : a < pK p) (hn : pK p < 2 ^ 31) : fA_Plan_hasCraft (nI a) g = some (nI 1) := by
  unfold fA_Plan_hasCraft
  rw [hP.1.2.2.2.2.2.2.1, A_t h hn]
  rfl
theorem craftA_f {p : Pl} {g : G} (hP : PA p g) {x : Int32} (h : ¬ rg (pK p) x) : fA_Plan_hasCraft x g = some (nI 0) := by
  unfold fA_Plan_hasCraft
  rw [hP.1.2.2.2.2.2.2.1, A_f h]
  rfl
theorem siteA_t {p : Pl} {g : G} (hP : PA p g) {a : Nat} (h : a < pS p) (hn : pS p < 2 ^ 31) : fA_Plan_hasSite (nI a) g = some (nI 1) := by
  unfold fA_Plan_hasSite
  rw [hP.1.2.2.2.2.2.2.2, A_t h hn]
  rfl
theorem siteA_f {p : Pl} {g : G} (hP : PA p g) {x : Int32} (h : ¬ rg (pS p) x) : fA_Plan_hasSite x g = some (nI 0) := by
  unfold fA_Plan_hasSite
  rw [hP.1.2.2.2.2.2.2.2, A_f h]
  rfl
theorem planeB_t {p : Pl} {g : G} (hP : PB p g) {a : Nat} (h : a < pP p) (hn : pP p < 2 ^ 31) : fB_M_isPlane (nI a) g = some (nI 1) := by
  unfold fB_M_isPlane
  rw [hP.1.2.2.2.1, inB_t h hn rfl, Option.bind_some]
  rfl
theorem planeB_f {p : Pl} {g : G} (hP : PB p g) {x : Int32} (h : ¬ rg (pP p) x) (hn : pP p < 2 ^ 31) : fB_M_isPlane x g = some (nI 0) := by
  unfold fB_M_isPlane
  rw [hP.1.2.2.2.1, inB_f h hn rfl, Option.bind_some]
  rfl
theorem craftB_t {p : Pl} {g : G} (hP : PB p g) {a : Nat} (h : a < pK p) (hn : pK p < 2 ^ 31) : fB_M_isCraft (nI a) g = some (nI 1) := by
  unfold fB_M_isCraft
  rw [hP.1.2.2.2.2.1, inB_t h hn rfl, Option.bind_some]
  rfl
theorem craftB_f {p : Pl} {g : G} (hP : PB p g) {x : Int32} (h : ¬ rg (pK p) x) (hn : pK p < 2 ^ 31) : fB_M_isCraft x g = some (nI 0) := by
  unfold fB_M_isCraft
  rw [hP.1.2.2.2.2.1, inB_f h hn rfl, Option.bind_some]
  rfl
theorem siteB_t {p : Pl} {g : G} (hP : PB p g) {a : Nat} (h : a < pS p) (hn : pS p < 2 ^ 31) : fB_M_isSite (nI a) g = some (nI 1) := by
  unfold fB_M_isSite
  rw [hP.1.2.2.2.2.2.1, inB_t h hn rfl, Option.bind_some]
  rfl
theorem siteB_f {p : Pl} {g : G} (hP : PB p g) {x : Int32} (h : ¬ rg (pS p) x) (hn : pS p < 2 ^ 31) : fB_M_isSite x g = some (nI 0) := by
  unfold fB_M_isSite
  rw [hP.1.2.2.2.2.2.1, inB_f h hn rfl, Option.bind_some]
  rfl
theorem cellA_t {p : Pl} {g : G} (hP : PA p g) {a b : Nat} (h : a < pC p) (h2 : b < pR p) (hn : pC p < 2 ^ 31 ∧ pR p < 2 ^ 31) : fA_Plan_hasCell (nI a) (nI b) g = some (nI 1) := by
  unfold fA_Plan_hasCell
  rw [hP.1.1, hP.1.2.1, A_t h hn.1, A_t h2 hn.2]
  rfl
theorem cellA_f {p : Pl} {g : G} (hP : PA p g) {x y : Int32} (h : ¬ (rg (pC p) x ∧ rg (pR p) y)) : fA_Plan_hasCell x y g = some (nI 0) := by
  unfold fA_Plan_hasCell
  rw [hP.1.1, hP.1.2.1]
  by_cases hx : rg (pC p) x
  · rw [A_f (x := y) (fun hy => h ⟨hx, hy⟩)]
    split
    · rfl
    · split <;> rfl
  · exact A_f hx
theorem cellB_t {p : Pl} {g : G} (hP : PB p g) {a b : Nat} (h : a < pC p) (h2 : b < pR p) (hn : pC p < 2 ^ 31 ∧ pR p < 2 ^ 31) : fB_M_isCell (nI a) (nI b) g = some (nI 1) := by
  unfold fB_M_isCell
  rw [hP.1.1, hP.1.2.1, inB_t h hn.1 rfl, Option.bind_some, inB_t h2 hn.2 rfl, Option.bind_some]
  rfl
theorem cellB_f {p : Pl} {g : G} (hP : PB p g) {x y : Int32} (h : ¬ (rg (pC p) x ∧ rg (pR p) y)) (hn : pC p < 2 ^ 31 ∧ pR p < 2 ^ 31) : fB_M_isCell x y g = some (nI 0) := by
  unfold fB_M_isCell
  rw [hP.1.1, hP.1.2.1]
  by_cases hx : rg (pC p) x
  · rw [inB_f (x := y) (fun hy => h ⟨hx, hy⟩) hn.2 rfl]
    obtain ⟨a, ha, rfl⟩ := hx
    rw [inB_t ha hn.1 rfl]
    rfl
  · rw [inB_f hx hn.1 rfl]
    rfl
theorem RS.lt {p : Pl} {f : Fl} {gA gB : G} (h : RS p f gA gB) : pC p ≤ 24 ∧ pR p ≤ 12 ∧ pP p ≤ 4 ∧ pK p ≤ 8 ∧ pS p ≤ 6 ∧ pY p ≤ 240 ∧ pD p ≤ 96 := by
  rcases h.1 with ⟨w, _⟩ | ⟨z, _⟩
  · have := w.c
    omega
  · unfold ZP at z
    omega
/-- one who is there: the desk stands -/
theorem RS.wp {p : Pl} {f : Fl} {gA gB : G} (h : RS p f gA gB) (hn : 0 < pC p ∨ 0 < pR p ∨ 0 < pP p ∨ 0 < pK p ∨ 0 < pS p ∨ 0 < pY p) : WP p := by
  rcases h.1 with ⟨w, _⟩ | ⟨z, _⟩
  · exact w
  · unfold ZP at z
    omega
theorem standsA {p : Pl} {f : Fl} {gA gB : G} (h : RS p f gA gB) : (WP p ∧ fA_Plan_stands gA = some (nI 1) ∧ gB.1 0 = nI 1) ∨ (ZP p ∧ fA_Plan_stands gA = some (nI 0) ∧ gB.1 0 = nI 0) := by
  have hP := h.2.2.1
  unfold fA_Plan_stands
  rw [hP.1.1]
  rcases h.1 with ⟨w, e⟩ | ⟨z, e⟩
  · have := w.c
    exact Or.inl ⟨w, by rw [nl, if_neg (nI_ge (by omega) (by omega))]; rfl, e⟩
  · exact Or.inr ⟨z, by rw [z.1]; rfl, e⟩
theorem tickA_t {p : Pl} {f : Fl} {gA gB : G} (h : RS p f gA gB) (hw : WP p) {t : Nat} (ht : t ≤ 9999) : fA_D_isTick (nI t) gA = some (nI 1) := by
  unfold fA_D_isTick
  have hP := h.2.2.1
  have hc := hw.c
  have e : fA_Plan_stands gA = some (nI 1) := by
    unfold fA_Plan_stands
    rw [hP.1.1, nl, if_neg (nI_ge (by omega) (by omega))]
    rfl
  rw [e, Option.bind_some]
  simp only [nl]
  rw [if_neg (by decide), if_neg (nI_nlt (Nat.zero_le _) (by omega)), if_neg (nI_nlt (by omega) (by decide))]
theorem tickB_t {t : Nat} (ht : t ≤ 9999) (g : G) : fB_M_isTick (nI t) g = some (nI 1) := by
  unfold fB_M_isTick
  rw [inB_t (n := 10000) (by omega) (by decide) (by decide), Option.bind_some]
  rfl
theorem tick_f {p : Pl} {f : Fl} {gA gB : G} (h : RS p f gA gB) {x : Int32} (hx : ¬ rg 10000 x) : fA_D_isTick x gA = some (nI 0) ∧ ∀ g, fB_M_isTick x g = some (nI 0) := by
  constructor
  · unfold fA_D_isTick
    rcases standsA h with ⟨_, e, _⟩ | ⟨_, e, _⟩
    · rw [e, Option.bind_some]
      simp only [nl]
      rw [if_neg (by decide)]
      by_cases l : x < nI 0
      · rw [if_pos l]
      · rw [if_neg l]
        obtain ⟨j, hj, rfl⟩ := nI_of (x := x) l
        have : 9999 < j := by
          apply Classical.byContradiction
          intro hl
          exact hx ⟨j, by omega, rfl⟩
        rw [if_pos (nI_lt this hj)]
    · rw [e, Option.bind_some]
      rfl
  · intro g
    unfold fB_M_isTick
    rw [inB_f (n := 10000) hx (by decide) (by decide), Option.bind_some]
    rfl
theorem inCycleA {p : Pl} (hw : WP p) {g : G} (hP : PA p g) {t : Nat} (ht : t < 2 ^ 30) : fA_D_inCycle (nI t) g = some (nI (t % pY p)) := by
  have := hw.c
  unfold fA_D_inCycle
  rw [hP.1.2.2.2.1, restA (by omega) (by omega) (by omega), Option.bind_some]
/-- both answer alike, and go on so -/
def Eq2 {r : Type} (a b : Option (r × G)) : Prop := ∃ x gA gB, a = some (x, gA) ∧ b = some (x, gB) ∧ Rel gA gB
def Eq1 {r : Type} (a b : Option r) : Prop := ∃ x, a = some x ∧ b = some x
