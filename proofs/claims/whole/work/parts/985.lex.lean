/-! THE TEXT: bytes, blanks, letters, digits, as both read them -/
def bkB (n : Nat) (T : Nat → Nat) (i : Nat) : Bool := decide (i < n) && (decide (T i = 10) || decide (T i = 32))
def bkL (n : Nat) (T : Nat → Nat) (i : Nat) : Bool := decide (i < n) && (decide (97 ≤ T i) && decide (T i ≤ 122))
def bkD (n : Nat) (T : Nat → Nat) (i : Nat) : Bool := decide (i < n) && (decide (48 ≤ T i) && decide (T i ≤ 57))
def byt (n : Nat) (T : Nat → Nat) (i : Nat) : Int32 := if i < n then nI (T i) else m1
def TX (n : Nat) (T : Nat → Nat) : Prop := n ≤ 1600 ∧ ∀ i, i < n → T i < 256
def TA (n : Nat) (T : Nat → Nat) (g : G) : Prop := g.1 101 = nI n ∧ ∀ i, i < n → g.2.1 2 i = nI (T i)
def TQ (n : Nat) (T : Nat → Nat) (g : G) : Prop := g.1 37 = nI n ∧ ∀ i, i < n → g.2.1 17 i = nI (T i)
theorem TA.fr {n : Nat} {T : Nat → Nat} {S U : List Nat} {w : Bool × Bool × Bool} {g g' : G} (h : TA n T g) (hf : Fr S U w g g') (hS : 101 ∉ S) (hU : 2 ∉ U) : TA n T g' := by
  unfold TA
  rw [hf.1 101 hS, hf.2.1 2 hU]
  exact h
theorem TQ.fr {n : Nat} {T : Nat → Nat} {S U : List Nat} {w : Bool × Bool × Bool} {g g' : G} (h : TQ n T g) (hf : Fr S U w g g') (hS : 37 ∉ S) (hU : 17 ∉ U) : TQ n T g' := by
  unfold TQ
  rw [hf.1 37 hS, hf.2.1 17 hU]
  exact h
theorem sizeA {n : Nat} {T : Nat → Nat} {g : G} (h : TA n T g) : fA_Tape_size g = some (nI n) := by
  unfold fA_Tape_size
  rw [h.1]
theorem bytA {n : Nat} {T : Nat → Nat} {g : G} (hx : TX n T) (h : TA n T g) {i : Nat} (hi : i < 2 ^ 30) : fA_Tape_byteAt (nI i) g = some (byt n T i) := by
  have := hx.1
  unfold fA_Tape_byteAt byt
  rw [h.1, if_neg (nI_pos (by omega))]
  by_cases l : i < n
  · rw [if_neg (nI_ge l (by omega)), ag_nI (by omega) (by decide), h.2 i l, if_pos l]
  · rw [if_pos (nI_le (by omega) (by omega)), if_neg l]
    rfl
theorem bytB {n : Nat} {T : Nat → Nat} {g : G} (hx : TX n T) (h : TQ n T g) {i : Nat} (hi : i < 2 ^ 30) : fB_M_byteAt (nI i) g = some (byt n T i) := by
  have := hx.1
  unfold fB_M_byteAt byt
  rw [h.1, if_neg (nI_pos (by omega))]
  by_cases l : i < n
  · rw [if_neg (nI_ge l (by omega)), ag_nI (by omega) (by decide), h.2 i l, if_pos l]
  · rw [if_pos (nI_le (by omega) (by omega)), if_neg l]
    rfl
theorem isBlankA {n : Nat} {T : Nat → Nat} (hx : TX n T) {i : Nat} (g : G) : fA_Reader_isBlank (byt n T i) g = some (bI (bkB n T i)) := by
  unfold fA_Reader_isBlank byt bkB
  rw [lj_eq]
  by_cases l : i < n
  · have := hx.2 i l
    rw [if_pos l, show (10 : Int32) = nI 10 from rfl, show (32 : Int32) = nI 32 from rfl, ite_eqn (by omega) (by decide), ite_eqn (by omega) (by decide), decide_eq_true l]
    by_cases e1 : T i = 10
    · rw [if_pos e1, decide_eq_true e1]
      rfl
    · rw [if_neg e1, decide_eq_false e1]
      by_cases e2 : T i = 32
      · rw [if_pos e2, decide_eq_true e2]
        rfl
      · rw [if_neg e2, decide_eq_false e2]
        rfl
  · rw [if_neg l, decide_eq_false l, if_neg (by decide), if_neg (by decide)]
    rfl
theorem isLetterA {n : Nat} {T : Nat → Nat} (hx : TX n T) {i : Nat} (g : G) : fA_Reader_isLetter (byt n T i) g = some (bI (bkL n T i)) := by
  unfold fA_Reader_isLetter byt bkL
  by_cases l : i < n
  · have := hx.2 i l
    rw [if_pos l, show (97 : Int32) = nI 97 from rfl, show (122 : Int32) = nI 122 from rfl, ite_ltn (by omega) (by decide), ite_ltn (by decide) (by omega), decide_eq_true l]
    by_cases e1 : T i < 97
    · rw [if_pos e1, decide_eq_false (show ¬ 97 ≤ T i by omega)]
      rfl
    · rw [if_neg e1, decide_eq_true (show 97 ≤ T i by omega)]
      by_cases e2 : 122 < T i
      · rw [if_pos e2, decide_eq_false (show ¬ T i ≤ 122 by omega)]
        rfl
      · rw [if_neg e2, decide_eq_true (show T i ≤ 122 by omega)]
        rfl
  · rw [if_neg l, decide_eq_false l, if_pos (by decide)]
    rfl
theorem isDigitA {n : Nat} {T : Nat → Nat} (hx : TX n T) {i : Nat} (g : G) : fA_Reader_isDigit (byt n T i) g = some (bI (bkD n T i)) := by
  unfold fA_Reader_isDigit byt bkD
  by_cases l : i < n
  · have := hx.2 i l
    rw [if_pos l, show (48 : Int32) = nI 48 from rfl, show (57 : Int32) = nI 57 from rfl, ite_ltn (by omega) (by decide), ite_ltn (by decide) (by omega), decide_eq_true l]
    by_cases e1 : T i < 48
    · rw [if_pos e1, decide_eq_false (show ¬ 48 ≤ T i by omega)]
      rfl
    · rw [if_neg e1, decide_eq_true (show 48 ≤ T i by omega)]
      by_cases e2 : 57 < T i
      · rw [if_pos e2, decide_eq_false (show ¬ T i ≤ 57 by omega)]
        rfl
      · rw [if_neg e2, decide_eq_true (show T i ≤ 57 by omega)]
        rfl
  · rw [if_neg l, decide_eq_false l, if_pos (by decide)]
    rfl
theorem smallB {n : Nat} {T : Nat → Nat} {g : G} (hx : TX n T) (h : TQ n T g) {i : Nat} (hi : i < 2 ^ 30) : fB_M_isSmall (nI i) g = some (bI (bkL n T i)) := by
  unfold fB_M_isSmall
  rw [bytB hx h hi, Option.bind_some, Option.bind_some]
  exact isLetterA hx g
theorem prevL {n : Nat} {T : Nat → Nat} {g : G} (hx : TX n T) (h : TQ n T g) {s : Nat} (hs : s ≤ n) : fB_M_isSmall (nI s - 1) g = some (bI (decide (0 < s) && bkL n T (s - 1))) := by
  have := hx.1
  by_cases z : s = 0
  · subst z
    have e : fB_M_byteAt (nI 0 - 1) g = some m1 := by
      unfold fB_M_byteAt
      rw [if_pos (by decide)]
      rfl
    unfold fB_M_isSmall
    rw [e, Option.bind_some, if_pos (by decide)]
    rfl
  · rw [show (nI s - 1 : Int32) = nI (s - 1) from nI_sub (b := 1) (by omega), smallB hx h (by omega), decide_eq_true (show 0 < s by omega), Bool.true_and]
theorem digitB {n : Nat} {T : Nat → Nat} {g : G} (hx : TX n T) (h : TQ n T g) {i : Nat} (hi : i < 2 ^ 30) : fB_M_isDigit (nI i) g = some (bI (bkD n T i)) := by
  unfold fB_M_isDigit
  rw [bytB hx h hi, Option.bind_some, Option.bind_some]
  exact isDigitA hx g
theorem prevD {n : Nat} {T : Nat → Nat} {g : G} (hx : TX n T) (h : TQ n T g) {s : Nat} (hs : s ≤ n) : fB_M_isDigit (nI s - 1) g = some (bI (decide (0 < s) && bkD n T (s - 1))) := by
  have := hx.1
  by_cases z : s = 0
  · subst z
    have e : fB_M_byteAt (nI 0 - 1) g = some m1 := by
      unfold fB_M_byteAt
      rw [if_pos (by decide)]
      rfl
    unfold fB_M_isDigit
    rw [e, Option.bind_some, if_pos (by decide)]
    rfl
  · rw [show (nI s - 1 : Int32) = nI (s - 1) from nI_sub (b := 1) (by omega), digitB hx h (by omega), decide_eq_true (show 0 < s by omega), Bool.true_and]
/-- from here on as long as so -/
def gtl (q : Nat → Bool) (n a : Nat) : Nat := a + fi (fun i => !q (a + i)) (n - a)
theorem gt_all {q : Nat → Bool} {n a : Nat} (hq : ∀ i, n ≤ i → q i = false) (ha : a ≤ n) : a ≤ gtl q n a ∧ gtl q n a ≤ n ∧ (∀ j, a ≤ j → j < gtl q n a → q j = true) ∧ q (gtl q n a) = false := by
  obtain ⟨h1, h2, h3⟩ := fi_all (fun i => !q (a + i)) (n - a)
  unfold gtl
  refine ⟨by omega, by omega, fun j h4 h5 => ?_, ?_⟩
  · have := h2 (j - a) (by omega)
    rw [show a + (j - a) = j by omega] at this
    simpa using this
  · by_cases l : fi (fun i => !q (a + i)) (n - a) < n - a
    · have := h3 l
      simpa using this
    · exact hq _ (by omega)
theorem bkB_n {n : Nat} {T : Nat → Nat} : ∀ i, n ≤ i → bkB n T i = false := fun i h => by
  unfold bkB
  rw [decide_eq_false (by omega)]
  rfl
theorem bkL_n {n : Nat} {T : Nat → Nat} : ∀ i, n ≤ i → bkL n T i = false := fun i h => by
  unfold bkL
  rw [decide_eq_false (by omega)]
  rfl
def skp (n : Nat) (T : Nat → Nat) (a : Nat) : Nat := gtl (bkB n T) n a
def le' (n : Nat) (T : Nat → Nat) (a : Nat) : Nat := gtl (bkL n T) n a
/-- a word or a number stands right ahead -/
def tch (n : Nat) (T : Nat → Nat) (a : Nat) : Bool := decide (0 < a) && (bkL n T (a - 1) || bkD n T (a - 1))
theorem bkB_iff {n : Nat} {T : Nat → Nat} {i : Nat} : bkB n T i = true ↔ i < n ∧ (T i = 10 ∨ T i = 32) := by
  unfold bkB
  simp
theorem bkL_iff {n : Nat} {T : Nat → Nat} {i : Nat} : bkL n T i = true ↔ i < n ∧ 97 ≤ T i ∧ T i ≤ 122 := by
  unfold bkL
  simp
theorem bkD_iff {n : Nat} {T : Nat → Nat} {i : Nat} : bkD n T i = true ↔ i < n ∧ 48 ≤ T i ∧ T i ≤ 57 := by
  unfold bkD
  simp
theorem bkL_not {n : Nat} {T : Nat → Nat} {i : Nat} (h : ¬ (97 ≤ T i ∧ T i ≤ 122)) : bkL n T i = false := by
  cases e : bkL n T i
  · rfl
  · exact absurd (bkL_iff.mp e).2 h
theorem bkD_not {n : Nat} {T : Nat → Nat} {i : Nat} (h : ¬ (48 ≤ T i ∧ T i ≤ 57)) : bkD n T i = false := by
  cases e : bkD n T i
  · rfl
  · exact absurd (bkD_iff.mp e).2 h
theorem tch_no {n : Nat} {T : Nat → Nat} {i : Nat} (h : ¬ (97 ≤ T i ∧ T i ≤ 122)) (h2 : ¬ (48 ≤ T i ∧ T i ≤ 57)) : tch n T (i + 1) = false := by
  unfold tch
  rw [Nat.add_sub_cancel, bkL_not h, bkD_not h2]
  simp
theorem tch_L {n : Nat} {T : Nat → Nat} {i : Nat} (h : bkL n T i = true) : tch n T (i + 1) = true := by
  unfold tch
  rw [Nat.add_sub_cancel, h]
  simp
theorem tch_D {n : Nat} {T : Nat → Nat} {i : Nat} (h : bkD n T i = true) : tch n T (i + 1) = true := by
  unfold tch
  rw [Nat.add_sub_cancel, h]
  simp
theorem skipA {n : Nat} {T : Nat → Nat} {g : G} (hx : TX n T) (h : TA n T g) {a : Nat} (ha : a ≤ n) (e : g.1 3506 = nI a) (et : g.1 3511 = bI (tch n T a)) :
    Sat (fA_Reader_skipBlanks g) (fun g' => Fr [3506, 3511] [] w0 g g' ∧ g'.1 3506 = nI (skp n T a) ∧ g'.1 3511 = bI (tch n T (skp n T a))) := by
  obtain ⟨s1, s2, s3, s4⟩ := gt_all (q := bkB n T) bkB_n ha
  have hn := hx.1
  unfold fA_Reader_skipBlanks
  refine Sat.lp (fun i g' => Fr [3506, 3511] [] w0 g g' ∧ g'.1 3506 = nI (a + i) ∧ g'.1 3511 = bI (tch n T (a + i))) (gtl (bkB n T) n a - a) (by omega) ⟨Fr.rf, e, et⟩ ?_ ?_
  · rintro rec i g' hi ⟨F, e1, e2⟩ hrec
    have h' := h.fr F (by simp) (by simp)
    have q := s3 (a + i) (by omega) (by omega)
    have qi := bkB_iff.mp q
    rw [sizeA h', Option.bind_some, e1, if_neg (nI_ge (by omega) (by omega)), bytA hx h' (by omega), Option.bind_some, isBlankA hx, Option.bind_some, q, if_neg (show ¬ bI true = (0 : Int32) from z1), bv_eq, bv_eq]
    refine hrec _ ⟨(F.sS (by simp)).sS (by simp), ?_, ?_⟩
    · show g'.1 3506 + 1 = _
      rw [e1]
      exact nI_add (a + i) 1
    · rw [show a + (i + 1) = a + i + 1 by omega, tch_no (by omega) (by omega)]
      rfl
  · rintro rec g' ⟨F, e1, e2⟩
    rw [show a + (gtl (bkB n T) n a - a) = skp n T a by unfold skp; omega] at e1 e2
    have h' := h.fr F (by simp) (by simp)
    have s4 : bkB n T (skp n T a) = false := s4
    have s2 : skp n T a ≤ n := s2
    rw [sizeA h', Option.bind_some, e1]
    by_cases l : skp n T a < n
    · rw [if_neg (nI_ge l (by omega)), bytA hx h' (by omega), Option.bind_some, isBlankA hx, Option.bind_some, s4, if_pos (show bI false = (0 : Int32) from rfl)]
      exact Sat.of ⟨F, e1, e2⟩
    · rw [if_pos (nI_le (by omega) (by omega))]
      exact Sat.of ⟨F, e1, e2⟩
theorem byt_f {n : Nat} {T : Nat → Nat} {i : Nat} (hx : TX n T) (h : bkB n T i = false) : ¬ byt n T i = 10 ∧ ¬ byt n T i = 32 := by
  have e := isBlankA (i := i) hx gA0
  unfold fA_Reader_isBlank at e
  rw [lj_eq, h] at e
  by_cases y : byt n T i = 10
  · rw [if_pos y] at e
    exact absurd (Option.some.inj e) (by decide)
  · refine ⟨y, fun z => ?_⟩
    rw [if_neg y, if_pos z] at e
    exact absurd (Option.some.inj e) (by decide)
theorem byt_t {n : Nat} {T : Nat → Nat} {i : Nat} (hx : TX n T) (h : bkB n T i = true) : byt n T i = 10 ∨ (¬ byt n T i = 10 ∧ byt n T i = 32) := by
  have e := isBlankA (i := i) hx gA0
  unfold fA_Reader_isBlank at e
  rw [lj_eq, h] at e
  by_cases y : byt n T i = 10
  · exact Or.inl y
  · refine Or.inr ⟨y, ?_⟩
    apply Classical.byContradiction
    intro z
    rw [if_neg y, if_neg z] at e
    exact absurd (Option.some.inj e) (by decide)
theorem hereB {n : Nat} {T : Nat → Nat} {g : G} (hx : TX n T) (h : TQ n T g) {a : Nat} (ha : a ≤ n) (e : g.1 38 = nI a) :
    Sat (fB_M_here g) (fun r => Fr [38] [] w0 g r.2 ∧ r.2.1 38 = nI (skp n T a) ∧ r.1 = byt n T (skp n T a)) := by
  obtain ⟨s1, s2, s3, s4⟩ := gt_all (q := bkB n T) bkB_n ha
  have hn := hx.1
  unfold fB_M_here
  refine Sat.lp (fun i g' => Fr [38] [] w0 g g' ∧ g'.1 38 = nI (a + i)) (gtl (bkB n T) n a - a) (by omega) ⟨Fr.rf, e⟩ ?_ ?_
  · rintro rec i g' hi ⟨F, e1⟩ hrec
    have h' := h.fr F (by simp) (by simp)
    have q := s3 (a + i) (by omega) (by omega)
    have go : Sat (bv (sS g' 38 (g'.1 38 + 1)) fun g4 => rec g4) (fun r => Fr [38] [] w0 g r.2 ∧ r.2.1 38 = nI (skp n T a) ∧ r.1 = byt n T (skp n T a)) := by
      rw [bv_eq]
      refine hrec _ ⟨F.sS (by simp), ?_⟩
      show g'.1 38 + 1 = _
      rw [e1]
      exact nI_add (a + i) 1
    have eb : fB_M_byteAt (g'.1 38) g' = some (byt n T (a + i)) := by rw [e1]; exact bytB hx h' (by omega)
    rw [eb, Option.bind_some, lj_eq]
    rcases byt_t hx q with z | ⟨y, z⟩
    · rw [if_pos z]
      exact go
    · rw [if_neg y, Option.bind_some, if_pos z]
      exact go
  · rintro rec g' ⟨F, e1⟩
    rw [show a + (gtl (bkB n T) n a - a) = skp n T a by unfold skp; omega] at e1
    have h' := h.fr F (by simp) (by simp)
    have s4 : bkB n T (skp n T a) = false := s4
    have s2 : skp n T a ≤ n := s2
    have eb : fB_M_byteAt (g'.1 38) g' = some (byt n T (skp n T a)) := by rw [e1]; exact bytB hx h' (by omega)
    obtain ⟨y, z⟩ := byt_f hx s4
    rw [eb, Option.bind_some, lj_eq, if_neg y, Option.bind_some, if_neg z, Option.bind_some]
    exact Sat.of ⟨F, e1, rfl⟩
