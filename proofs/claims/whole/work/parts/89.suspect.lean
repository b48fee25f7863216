/-! THE CALLS: suspect -/
/-- those that would be up with one lost -/
def wo (p : Pl) (f : Fl) (c : Nat) : Nat := mk (fun i => if i = c then false else (us p f).testBit i) 9
theorem wo_lt (p : Pl) (f : Fl) (c : Nat) : wo p f c < 512 := mk_lt _ 9
theorem woI {p : Pl} {f : Fl} {c : Nat} (hc : c < 9) : nI (us p f) &&& (((1 : Int32) <<< (nI c &&& 31)) ^^^ (-1)) = nI (wo p f c) := by
  have ul := us_lt p f
  have e : nI (us p f) = nI (mk (us p f).testBit 9) := by rw [mk_self (n := 9) (show us p f < 2 ^ 9 by omega)]
  rw [e, mk_clr hc (by decide)]
  rfl
theorem wo_K {p : Pl} (hK : pK p ≤ 8) (f : Fl) : wo p f (pK p) = us p f := by
  have ul := us_lt p f
  unfold wo
  symm
  apply mk_ext (by omega)
  intro i _
  by_cases e : i = pK p
  · rw [if_pos e, us_bit hK, e]
    simp
  · rw [if_neg e]
/-- what was noted, as numbers -/
def NQ (p : Pl) (n : Nat) (q : Nat → Nat → Nat) (gA gB : G) : Prop := n ≤ 16 ∧ gA.1 13800 = nI n ∧ gB.1 58 = nI n ∧ ∀ k, k < n → (q 0 k < pY p ∧ q 1 k < pC p ∧ q 2 k < pR p ∧ q 3 k ≤ 1) ∧
    (gA.2.1 139 k = nI (q 0 k) ∧ gA.2.1 140 k = nI (q 1 k) ∧ gA.2.1 141 k = nI (q 2 k) ∧ gA.2.1 142 k = nI (q 3 k)) ∧ gB.2.1 26 (4 * k) = nI (q 0 k) ∧ gB.2.1 26 (4 * k + 1) = nI (q 1 k) ∧ gB.2.1 26 (4 * k + 2) = nI (q 2 k) ∧ gB.2.1 26 (4 * k + 3) = nI (q 3 k)
theorem NT.get {p : Pl} {gA gB : G} (h : NT p gA gB) (hl : pY p ≤ 240 ∧ pC p ≤ 24 ∧ pR p ≤ 12) : ∃ (n : Nat) (q : Nat → Nat → Nat), NQ p n q gA gB := by
  obtain ⟨n, h1, h2, h3, h4⟩ := h
  refine ⟨n, fun j k => (gB.2.1 26 (4 * k + j)).toNatClampNeg, h1, h2, h3, fun k hk => ?_⟩
  obtain ⟨t, x, y, s, b1, b2, b3, b4, a1, a2, a3, a4, c1, c2, c3, c4⟩ := h4 k hk
  have e0 : (gB.2.1 26 (4 * k + 0)).toNatClampNeg = t := by rw [Nat.add_zero, c1]; exact nI_clamp (by omega)
  have e1 : (gB.2.1 26 (4 * k + 1)).toNatClampNeg = x := by rw [c2]; exact nI_clamp (by omega)
  have e2 : (gB.2.1 26 (4 * k + 2)).toNatClampNeg = y := by rw [c3]; exact nI_clamp (by omega)
  have e3 : (gB.2.1 26 (4 * k + 3)).toNatClampNeg = s := by rw [c4]; exact nI_clamp (by omega)
  dsimp only
  rw [e0, e1, e2, e3]
  exact ⟨⟨b1, b2, b3, b4⟩, ⟨a1, a2, a3, a4⟩, c1, c2, c3, c4⟩
theorem NQ.frA {p : Pl} {n : Nat} {q : Nat → Nat → Nat} {gA gB gA' : G} (h : NQ p n q gA gB) (hf : Fr qA tA w1 gA gA') : NQ p n q gA' gB := by
  unfold NQ
  rw [hf.1 13800 (by decide), hf.2.1 139 (by decide), hf.2.1 140 (by decide), hf.2.1 141 (by decide), hf.2.1 142 (by decide)]
  exact h
theorem NQ.frB {p : Pl} {n : Nat} {q : Nat → Nat → Nat} {gA gB gB' : G} (h : NQ p n q gA gB) (hf : Fr qB tB w1 gB gB') : NQ p n q gA gB' := by
  unfold NQ
  rw [hf.1 58 (by decide), hf.2.1 26 (by decide)]
  exact h
/-- all is as it was noted -/
def AL (p : Pl) (f : Fl) (w n : Nat) (q : Nat → Nat → Nat) : Bool := decide (∀ k, k < n → sb p f w (q 0 k) (q 1 k) (q 2 k) = decide (q 3 k = 1))
theorem allSoA {p : Pl} (hw : WP p) {f : Fl} {g gB : G} (hP : PA p g) (hV : VF p f g) {n : Nat} {q : Nat → Nat → Nat} (hq : NQ p n q g gB) (w : Nat) : fA_Notes_allSo (nI w) g = some (bI (AL p f w n q)) := by
  have h1 := hw.c
  obtain ⟨q1, q2, q3, q4⟩ := hq
  apply Sat.eq
  unfold fA_Notes_allSo
  refine Sat.lp (fun k s => s = nI k ∧ ∀ j, j < k → sb p f w (q 0 j) (q 1 j) (q 2 j) = decide (q 3 j = 1)) n (by omega) ⟨rfl, fun j hj => by omega⟩ ?_ ?_
  · rintro rec k _ hk ⟨rfl, hj⟩ hrec
    obtain ⟨b, a, c⟩ := q4 k hk
    have wl := ws_lt p f w (q 0 k) (q 1 k) (q 2 k)
    simp only [nl, lj_eq]
    rw [q2, if_neg (nI_ge hk (by omega)), ag_nI (by omega) (by decide), a.1, ag_nI (by omega) (by decide), a.2.1, ag_nI (by omega) (by decide), a.2.2.1, whoA hw hP hV b.1 b.2.1 b.2.2.1, Option.bind_some, ite_eqn (by omega) (by decide), ag_nI (by omega) (by decide), ag_nI (by omega) (by decide), a.2.2.2, ite_eqn (by decide) (by omega), ite_eqn (by decide) (by omega), nI_add]
    have es : sb p f w (q 0 k) (q 1 k) (q 2 k) = decide (who p f (q 0 k) (q 1 k) (q 2 k) &&& w ≠ 0) := rfl
    have go : ∀ s : Bool, sb p f w (q 0 k) (q 1 k) (q 2 k) = s → Sat (if (if s then 1 else 0) = q 3 k then rec (nI (k + 1)) else some (nI 0)) (fun x => x = bI (AL p f w n q)) := by
      intro s hs
      by_cases ok : s = decide (q 3 k = 1)
      · have e3 : (if s then 1 else 0) = q 3 k := by
          rw [ok]
          by_cases z : q 3 k = 1
          · rw [decide_eq_true z, if_pos rfl, z]
          · rw [decide_eq_false z, if_neg (by decide)]
            omega
        rw [if_pos e3]
        refine hrec _ ⟨rfl, fun j hl => ?_⟩
        by_cases e : j = k
        · subst e
          rw [hs, ok]
        · exact hj j (by omega)
      · have e3 : ¬ (if s then 1 else 0) = q 3 k := by
          intro z
          apply ok
          cases s
          · rw [if_neg (by decide)] at z
            rw [decide_eq_false (by omega)]
          · rw [if_pos rfl] at z
            rw [decide_eq_true z.symm]
        rw [if_neg e3]
        refine Sat.of ?_
        have : AL p f w n q = false := decide_eq_false (fun z => ok (hs.symm.trans (z k hk)))
        rw [this]
        rfl
    by_cases z : who p f (q 0 k) (q 1 k) (q 2 k) &&& w = 0
    · rw [if_pos z]
      exact go false (by rw [es]; simp [z])
    · rw [if_neg z]
      exact go true (by rw [es]; simp [z])
  · rintro rec _ ⟨rfl, hj⟩
    rw [q2, if_pos (nI_le (Nat.le_refl _) (by omega))]
    refine Sat.of ?_
    have : AL p f w n q = true := decide_eq_true hj
    rw [this]
    rfl
/-- who may be lost -/
def su (p : Pl) (f : Fl) (n : Nat) (q : Nat → Nat → Nat) (c : Nat) : Bool := (decide (c = pK p) || decide (fup f c = 1)) && AL p f (wo p f c) n q
theorem suspectsA {p : Pl} (hw : WP p) {f : Fl} {g gB : G} (hP : PA p g) (hV : VF p f g) {n : Nat} {q : Nat → Nat → Nat} (hq : NQ p n q g gB) : fA_Notes_suspects (nI (us p f)) g = some (nI (mk (fun c => decide (c < pK p + 1) && su p f n q c) 9)) := by
  have h1 := hw.c
  have ul := us_lt p f
  apply Sat.eq
  unfold fA_Notes_suspects
  refine Sat.lp (fun c s => s = (nI (mk (fun i => decide (i < c) && su p f n q i) 9), nI c)) (pK p + 1) (by omega) (by rw [mkp_0]; rfl) ?_ ?_
  · rintro rec c _ hc rfl hrec
    have e2 := mkp_succ (su p f n q) (show c < 9 by omega)
    simp only []
    simp only [lj_eq]
    rw [hP.1.2.2.2.2.2.2.1, if_neg (nI_nlt (by omega) (by omega)), woI (by omega), allSoA hw hP hV hq, Option.bind_some, show (1 : Int32) <<< (nI c &&& 31) = nI (1 <<< c) from by simp only [nl]; rw [n_31 (by omega), n_shl _ (by omega)], n_or, bv_eq, show (nI c + 1 : Int32) = nI (c + 1) from nI_add c 1]
    have opn : ∀ o : Bool, o = (decide (c = pK p) || decide (fup f c = 1)) → Sat (if bI o = 0 then rec (nI (mk (fun i => decide (i < c) && su p f n q i) 9), nI (c + 1)) else if bI (AL p f (wo p f c) n q) = 0 then rec (nI (mk (fun i => decide (i < c) && su p f n q i) 9), nI (c + 1)) else rec (nI (mk (fun i => decide (i < c) && su p f n q i) 9 ||| 1 <<< c), nI (c + 1))) (fun x => x = nI (mk (fun c => decide (c < pK p + 1) && su p f n q c) 9)) := by
      intro o ho
      have es : su p f n q c = (o && AL p f (wo p f c) n q) := by unfold su; rw [ho]
      cases o
      · rw [if_pos (show bI false = (0 : Int32) from rfl)]
        rw [es, Bool.false_and] at e2
        exact hrec _ (by rw [← e2]; simp)
      · rw [if_neg (show ¬ bI true = (0 : Int32) from z1)]
        rw [es, Bool.true_and] at e2
        cases ha : AL p f (wo p f c) n q
        · rw [if_pos (show bI false = (0 : Int32) from rfl)]
          rw [ha] at e2
          exact hrec _ (by rw [← e2]; simp)
        · rw [if_neg (show ¬ bI true = (0 : Int32) from z1)]
          rw [ha] at e2
          exact hrec _ (by rw [← e2]; rfl)
    by_cases ck : c = pK p
    · rw [if_pos (show nI c = nI (pK p) by rw [ck])]
      exact opn true (by rw [decide_eq_true ck]; rfl)
    · rw [if_neg (show ¬ nI c = nI (pK p) from fun z => ck ((nI_eq (by omega) (by omega)).mp z))]
      have hcK : c < pK p := by omega
      have eb : (nI (us p f) >>> (nI c &&& 31)) &&& 1 = nI (if (us p f).testBit c then 1 else 0) := by
        simp only [nl]
        rw [n_31 (k := c) (by omega), n_shr (by omega) (by omega), n_and, n_bit]
      have ub2 : (us p f).testBit c = decide (fup f c = 1) := by rw [us_bit (by omega)]; simp [hcK]
      rw [eb, ub2]
      by_cases hu : fup f c = 1
      · rw [decide_eq_true hu, if_neg (show ¬ nI (if true = true then 1 else 0) = 0 by decide)]
        exact opn true (by rw [decide_eq_true hu]; simp)
      · rw [decide_eq_false hu, if_pos (show nI (if false = true then 1 else 0) = 0 by decide)]
        exact opn false (by rw [decide_eq_false hu, decide_eq_false ck]; rfl)
  · rintro rec _ rfl
    simp only []
    rw [hP.1.2.2.2.2.2.2.1, if_pos (nI_lt (by omega) (by omega))]
    exact Sat.of rfl
theorem withoutB {p : Pl} (hw : WP p) {f : Fl} {g : G} (hP : PB p g) (hF : FB p f g) (hW : WF p f) {c : Nat} (hc : c ≤ pK p) : fB_M_without (nI c) g = some (nI (wo p f c)) := by
  have h1 := hw.c
  unfold fB_M_without
  rw [hP.1.2.2.2.2.1, upSetB hw hP hF hW, Option.bind_some, Option.bind_some, woI (by omega), ite_eqn (by omega) (by omega)]
  by_cases e : c = pK p
  · rw [if_pos e, e, wo_K (by omega)]
  · rw [if_neg e]
theorem isSuspB {p : Pl} (hw : WP p) {f : Fl} {gA g : G} (hP : PB p g) (hF : FB p f g) (hW : WF p f) (hL : LB p f g) {n : Nat} {q : Nat → Nat → Nat} (hq : NQ p n q gA g) {c : Nat} (hc : c ≤ pK p) : fB_M_isSuspect (nI c) g = some (bI (su p f n q c)) := by
  have h1 := hw.c
  have hmm := crY hw
  obtain ⟨q1, q2, q3, q4⟩ := hq
  have go : (Lp (α := Int32) (fun rec2 s2 => (if (g.1 58) ≤ s2 then some 1 else ag 64 (g.2.1 26) ((4 * s2) + 2) fun x3 => ag 64 (g.2.1 26) ((4 * s2) + 1) fun x4 => bv (((g.1 1) * x3) + x4) fun x5 => ag 64 (g.2.1 26) (4 * s2) fun x6 => Option.bind (fB_M_without (nI c) g) fun x7 => Option.bind (fB_M_isBy x5 x6 x7 g) fun x8 => ag 64 (g.2.1 26) ((4 * s2) + 3) fun x9 => lj (α := Int32) (fun b10 => (if x8 = b10 then rec2 (s2 + 1) else some 0)) fun J10 => (if x9 = 1 then J10 1 else J10 0))) FU 0) = some (bI (AL p f (wo p f c) n q)) := by
    apply Sat.eq
    refine Sat.lp (fun k s => s = nI k ∧ ∀ j, j < k → sb p f (wo p f c) (q 0 j) (q 1 j) (q 2 j) = decide (q 3 j = 1)) n (by omega) ⟨rfl, fun j hj => by omega⟩ ?_ ?_
    · rintro rec k _ hk ⟨rfl, hj⟩ hrec
      obtain ⟨b, a, c0, c1, c2, c3⟩ := q4 k hk
      have ec := cl (C := pC p) (R := pR p) b.2.1 b.2.2.1
      simp only [nl, lj_eq]
      rw [q3, if_neg (nI_ge hk (by omega)), nI_mul]
      simp only [nI_add]
      rw [ag_nI (by omega) (by decide), c2, ag_nI (by omega) (by decide), c1, hP.1.1, nI_mul, nI_add, bv_eq, ag_nI (by omega) (by decide), c0, withoutB hw hP hF hW hc, Option.bind_some, isByB hw hP hL ec.1 (by omega), Option.bind_some, ec.2.1, ec.2.2, ag_nI (by omega) (by decide), c3, ite_eqn (by omega) (by decide)]
      have fin : ∀ s : Bool, s = decide (q 3 k = 1) → Sat (if bI (sb p f (wo p f c) (q 0 k) (q 1 k) (q 2 k)) = bI s then rec (nI (k + 1)) else some (nI 0)) (fun x => x = bI (AL p f (wo p f c) n q)) := by
        intro s hs
        rw [ite_bI]
        by_cases ok : sb p f (wo p f c) (q 0 k) (q 1 k) (q 2 k) = s
        · rw [if_pos ok]
          refine hrec _ ⟨rfl, fun j hl => ?_⟩
          by_cases e : j = k
          · subst e
            rw [ok, hs]
          · exact hj j (by omega)
        · rw [if_neg ok]
          refine Sat.of ?_
          have : AL p f (wo p f c) n q = false := decide_eq_false (fun z => ok ((z k hk).trans hs.symm))
          rw [this]
          rfl
      by_cases z : q 3 k = 1
      · rw [if_pos z]
        exact fin true (by rw [decide_eq_true z])
      · rw [if_neg z]
        exact fin false (by rw [decide_eq_false z])
    · rintro rec _ ⟨rfl, hj⟩
      rw [q3, if_pos (nI_le (Nat.le_refl _) (by omega))]
      refine Sat.of ?_
      have : AL p f (wo p f c) n q = true := decide_eq_true hj
      rw [this]
      rfl
  unfold fB_M_isSuspect
  rw [lj_eq, go, hP.1.2.2.2.2.1]
  by_cases e : c = pK p
  · rw [if_pos (nI_le (by omega) (by omega))]
    unfold su
    rw [decide_eq_true e]
    simp
  · have hcK : c < pK p := by omega
    have w := hW.2 c hcK
    rw [if_neg (nI_ge hcK (by omega)), show (4 : Int32) + nI c = nI (4 + c) from nI_add 4 c, ag_nI (by omega) (by decide), (hF.2 c hcK).1]
    unfold su
    by_cases hu : fup f c = 1
    · rw [if_neg (show ¬ nI (fup f c) = 0 by rw [hu]; exact i10), decide_eq_true hu]
      simp
    · rw [if_pos (show nI (fup f c) = 0 by rw [show fup f c = 0 by omega]; rfl), decide_eq_false hu, decide_eq_false e]
      rfl
theorem bitA {m : Nat} (hm : m < 2 ^ 9) (k : Nat) (hk : k < 2 ^ 31) (g : G) : (∀ c, c < 9 → m.testBit c = true → cn m.testBit c = k → fA_D_placeOfBit (nI m) (nI k) g = some (nI c)) ∧ (cn m.testBit 9 ≤ k → fA_D_placeOfBit (nI m) (nI k) g = some (-1)) := by
  have main : Sat (fA_D_placeOfBit (nI m) (nI k) g) (fun r => (∃ c, c < 9 ∧ m.testBit c = true ∧ cn m.testBit c = k ∧ r = nI c) ∨ (cn m.testBit 9 ≤ k ∧ r = -1)) := by
    unfold fA_D_placeOfBit
    refine Sat.lp (fun c s => cn m.testBit c ≤ k ∧ s = (nI (k - cn m.testBit c), nI c)) 31 (by decide) ⟨Nat.zero_le _, rfl⟩ ?_ ?_
    · rintro rec c _ hc ⟨hl, rfl⟩ hrec
      simp only []
      rw [if_neg (show ¬ (31 : Int32) ≤ nI c from nI_ge (b := 31) hc (by decide)), if_neg (nI_pos (by omega)), lj_eq]
      simp only [nl]
      rw [n_31 (k := c) (by omega), n_shr (a := m) (by omega) (by omega), n_and, ite_b0, nI_add, ite_eqn (by omega) (by decide)]
      cases hb : m.testBit c
      · rw [if_neg (by decide)]
        exact hrec _ ⟨by rw [cn_f hb]; exact hl, by rw [cn_f hb]⟩
      · rw [if_pos rfl]
        have hc9 : c < 9 := by
          apply Classical.byContradiction
          intro z
          rw [bit_hi hm (by omega)] at hb
          exact absurd hb (by decide)
        by_cases z : k - cn m.testBit c = 0
        · rw [if_pos z]
          exact Sat.of (Or.inl ⟨c, hc9, hb, by omega, rfl⟩)
        · rw [if_neg z, n_m1 (by omega)]
          exact hrec _ ⟨by rw [cn_t hb]; omega, by rw [cn_t hb, Nat.sub_sub]⟩
    · rintro rec _ ⟨hl, rfl⟩
      simp only []
      rw [if_pos (show (31 : Int32) ≤ nI 31 from nI_le (a := 31) (Nat.le_refl _) (by decide))]
      exact Sat.of (Or.inr ⟨Nat.le_trans (cn_mono _ (by decide)) hl, rfl⟩)
  obtain ⟨r, er, hr⟩ := main
  constructor
  · intro c hc h2 h3
    rcases hr with ⟨d, a1, a2, a3, rfl⟩ | ⟨a1, _⟩
    · have : d = c := by
        rcases Nat.lt_trichotomy d c with z | z | z
        · have mm := cn_mono m.testBit (show d + 1 ≤ c by omega)
          rw [cn_t a2] at mm
          omega
        · exact z
        · have mm := cn_mono m.testBit (show c + 1 ≤ d by omega)
          rw [cn_t h2] at mm
          omega
      rw [er, this]
    · have mm := cn_mono m.testBit (show c + 1 ≤ 9 by omega)
      rw [cn_t h2] at mm
      omega
  · intro hl
    rcases hr with ⟨d, a1, a2, a3, rfl⟩ | ⟨_, rfl⟩
    · have mm := cn_mono m.testBit (show d + 1 ≤ 9 by omega)
      rw [cn_t a2] at mm
      omega
    · exact er
