/-! THE TEXT: a word, a number, an end, as a step of both -/
/-- fault, its place, where one is, where the last word or number began -/
abbrev Xs : Type := Nat × Nat × Nat × Nat
def fl (k w : Nat) : Xs := (k, w, 0, 0)
theorem flk {k w : Nat} : ¬ (fl (k + 1) w).1 = 0 := Nat.succ_ne_zero k
def LA (n : Nat) (T : Nat → Nat) (X : Xs) (g : G) : Prop :=
  TA n T g ∧ (X.1 ≤ 6 ∧ g.1 3500 = nI X.1) ∧ (X.1 = 0 → g.1 3501 = m1 ∧ X.2.2.1 ≤ n ∧ g.1 3506 = nI X.2.2.1 ∧ g.1 3511 = bI (tch n T X.2.2.1) ∧ (X.2.2.2 ≤ X.2.2.1 → g.1 3507 = nI X.2.2.2)) ∧ (X.1 ≠ 0 → g.1 3501 = nI X.2.1)
def LQ (n : Nat) (T : Nat → Nat) (X : Xs) (g : G) : Prop :=
  TQ n T g ∧ (X.1 ≤ 6 ∧ g.1 40 = nI X.1) ∧ (X.1 = 0 → g.1 41 = m1 ∧ X.2.2.1 ≤ n ∧ g.1 38 = nI X.2.2.1 ∧ (X.2.2.2 ≤ X.2.2.1 → g.1 39 = nI X.2.2.2)) ∧ (X.1 ≠ 0 → g.1 41 = nI X.2.1)
/-- what reading may change -/
def aS : List Nat := [3500, 3501, 3506, 3507, 3508, 3509, 3510, 3511]
def aW : List Nat := [3500, 3501, 3506, 3507, 3508, 3509, 3511]
def bS : List Nat := [38, 39, 40, 41]
theorem LA.fr {n : Nat} {T : Nat → Nat} {X : Xs} {S U : List Nat} {w : Bool × Bool × Bool} {g g' : G} (h : LA n T X g) (hf : Fr S U w g g') (hS : ∀ k ∈ S, k ≠ 101 ∧ k ≠ 3500 ∧ k ≠ 3501 ∧ k ≠ 3506 ∧ k ≠ 3507 ∧ k ≠ 3511) (hU : 2 ∉ U) : LA n T X g' := by
  have s : ∀ k, (k = 101 ∨ k = 3500 ∨ k = 3501 ∨ k = 3506 ∨ k = 3507 ∨ k = 3511) → g'.1 k = g.1 k := fun k h => hf.1 k (fun m => by have := hS k m; omega)
  unfold LA TA
  rw [s 101 (by omega), s 3500 (by omega), s 3501 (by omega), s 3506 (by omega), s 3507 (by omega), s 3511 (by omega), hf.2.1 2 hU]
  exact h
theorem LQ.fr {n : Nat} {T : Nat → Nat} {X : Xs} {S U : List Nat} {w : Bool × Bool × Bool} {g g' : G} (h : LQ n T X g) (hf : Fr S U w g g') (hS : ∀ k ∈ S, k ≠ 37 ∧ k ≠ 38 ∧ k ≠ 39 ∧ k ≠ 40 ∧ k ≠ 41) (hU : 17 ∉ U) : LQ n T X g' := by
  have s : ∀ k, (k = 37 ∨ k = 38 ∨ k = 39 ∨ k = 40 ∨ k = 41) → g'.1 k = g.1 k := fun k h => hf.1 k (fun m => by have := hS k m; omega)
  unfold LQ TQ
  rw [s 37 (by omega), s 38 (by omega), s 39 (by omega), s 40 (by omega), s 41 (by omega), hf.2.1 17 hU]
  exact h
/-- a fault in the class -/
theorem failA {n : Nat} {T : Nat → Nat} {g : G} (h : TA n T g) {k w : Nat} (hk : 1 ≤ k) (hk6 : k ≤ 6) : ∃ g', fA_Reader_fail (nI k) (nI w) g = some (0, g') ∧ Fr [3500, 3501] [] w0 g g' ∧ LA n T (fl k w) g' := by
  have F : Fr [3500, 3501] [] w0 g (sS (sS g 3500 (nI k)) 3501 (nI w)) := (Fr.rf.sS (by simp)).sS (by simp)
  exact ⟨_, rfl, F, h.fr F (by simp) (by simp), ⟨hk6, rfl⟩, fun z => absurd z (show k ≠ 0 by omega), fun _ => rfl⟩
theorem failB {n : Nat} {T : Nat → Nat} {g : G} (h : TQ n T g) (h0 : g.1 40 = nI 0) {k w : Nat} (hk : 1 ≤ k) (hk6 : k ≤ 6) : ∃ g', fB_M_fails (nI k) (nI w) g = some g' ∧ Fr [40, 41] [] w0 g g' ∧ LQ n T (fl k w) g' := by
  have F : Fr [40, 41] [] w0 g (sS (sS g 40 (nI k)) 41 (nI w)) := (Fr.rf.sS (by simp)).sS (by simp)
  refine ⟨_, ?_, F, h.fr F (by simp) (by simp), ⟨hk6, rfl⟩, fun z => absurd z (show k ≠ 0 by omega), fun _ => rfl⟩
  unfold fB_M_fails
  rw [h0, if_pos i00]
  rfl
theorem goesB {n : Nat} {T : Nat → Nat} {X : Xs} {g : G} (h : LQ n T X g) : fB_M_goes g = some (bI (decide (X.1 = 0))) := by
  unfold fB_M_goes
  have := h.2.1.1
  rw [h.2.1.2]
  by_cases z : X.1 = 0
  · rw [z, if_pos i00, decide_eq_true rfl]
    rfl
  · rw [if_neg (nI_ne0 (by omega) (by omega)), decide_eq_false z]
    rfl
theorem b1 : ¬ bI true = (0 : Int32) := z1
theorem b0 : bI false = (0 : Int32) := rfl
theorem btz {β : Type} {k : Option β} : bt 0 k = k := if_pos (Or.inl rfl)
theorem bt1 {β : Type} {k : Option β} : bt 1 k = k := if_pos (Or.inr rfl)
theorem btb {β : Type} {b : Bool} {k : Option β} : bt (bI b) k = k := by
  cases b
  · exact btz
  · exact bt1
/-- a word -/
def xW (n : Nat) (T : Nat → Nat) (X : Xs) : Xs :=
  if X.1 ≠ 0 then X else if (tch n T (skp n T X.2.2.1) || !bkL n T (skp n T X.2.2.1)) = true then fl 1 (skp n T X.2.2.1) else (0, 0, le' n T (skp n T X.2.2.1), skp n T X.2.2.1)
theorem xW_dead {n : Nat} {T : Nat → Nat} {X : Xs} (h : X.1 ≠ 0) : xW n T X = X := if_pos h
theorem xW_bad {n : Nat} {T : Nat → Nat} {X : Xs} (h : X.1 = 0) (hb : (tch n T (skp n T X.2.2.1) || !bkL n T (skp n T X.2.2.1)) = true) : xW n T X = fl 1 (skp n T X.2.2.1) := by
  unfold xW
  rw [if_neg (fun z => z h), if_pos hb]
theorem xW_ok {n : Nat} {T : Nat → Nat} {X : Xs} (h : X.1 = 0) (hb : tch n T (skp n T X.2.2.1) = false) (hl : bkL n T (skp n T X.2.2.1) = true) : xW n T X = (0, 0, le' n T (skp n T X.2.2.1), skp n T X.2.2.1) := by
  unfold xW
  rw [if_neg (fun z => z h), if_neg (by rw [hb, hl]; decide)]
theorem skp_all {n a : Nat} (T : Nat → Nat) (ha : a ≤ n) : a ≤ skp n T a ∧ skp n T a ≤ n := by
  obtain ⟨s1, s2, s3, s4⟩ := gt_all (q := bkB n T) bkB_n ha
  exact ⟨s1, s2⟩
theorem le_all {n s : Nat} {T : Nat → Nat} (ha : s ≤ n) (hl : bkL n T s = true) : Wo n T s (le' n T s) ∧ bkL n T (le' n T s) = false := by
  obtain ⟨s1, s2, s3, s4⟩ := gt_all (q := bkL n T) bkL_n ha
  refine ⟨⟨?_, s2, s3⟩, s4⟩
  have s4 : bkL n T (le' n T s) = false := s4
  have s1 : s ≤ le' n T s := s1
  by_cases e : le' n T s = s
  · rw [e, hl] at s4
    exact absurd s4 (by decide)
  · omega
/-- a word was read -/
theorem xW_wo {n : Nat} {T : Nat → Nat} {X : Xs} (h : X.1 = 0) (ha : X.2.2.1 ≤ n) (hz : (xW n T X).1 = 0) : Wo n T (xW n T X).2.2.2 (xW n T X).2.2.1 ∧ X.2.2.1 ≤ (xW n T X).2.2.2 := by
  have hs := skp_all T ha
  by_cases hb : (tch n T (skp n T X.2.2.1) || !bkL n T (skp n T X.2.2.1)) = true
  · rw [xW_bad h hb] at hz
    exact absurd hz flk
  · have e1 : tch n T (skp n T X.2.2.1) = false := by
      cases e : tch n T (skp n T X.2.2.1)
      · rfl
      · rw [e] at hb
        exact absurd rfl hb
    have e2 : bkL n T (skp n T X.2.2.1) = true := by
      cases e : bkL n T (skp n T X.2.2.1)
      · rw [e, Bool.not_false, Bool.or_true] at hb
        exact absurd rfl hb
      · rfl
    rw [xW_ok h e1 e2]
    exact ⟨(le_all hs.2 e2).1, hs.1⟩
def cdw (T : Nat → Nat) (X : Xs) : Nat := pkN (wl T X.2.2.2 X.2.2.1)
theorem lettersA {n : Nat} {T : Nat → Nat} {X : Xs} {g : G} (hx : TX n T) (h : LA n T X g) (h0 : X.1 = 0) :
    Sat (fA_Reader_takeLetters g) (fun r => Fr aW [] w0 g r.2 ∧ LA n T (xW n T X) r.2 ∧ r.1 = bI (decide ((xW n T X).1 = 0)) ∧ ((xW n T X).1 = 0 → r.2.1 3508 = nI (cdw T (xW n T X)) ∧ r.2.1 3509 = nI ((xW n T X).2.2.1 - (xW n T X).2.2.2))) := by
  obtain ⟨hT, hk, h4, _⟩ := h
  obtain ⟨p1, p2, p3, p4, p5⟩ := h4 h0
  have hn := hx.1
  have hs := skp_all T p2
  unfold fA_Reader_takeLetters
  refine (skipA hx hT p2 p3 p4).bind ?_
  rintro g1 ⟨F1, a1, t1⟩
  have T1 := hT.fr F1 (by simp) (by simp)
  obtain ⟨s, es⟩ : ∃ s, s = skp n T X.2.2.1 := ⟨_, rfl⟩
  rw [← es] at a1 t1 hs
  rw [lj_eq, a1, t1]
  have bad : (tch n T s || !bkL n T s) = true → Sat (Option.bind (fA_Reader_fail 1 (nI s) g1) fun x3 => bt x3.1 (some (x3.1, x3.2))) (fun r => Fr aW [] w0 g r.2 ∧ LA n T (xW n T X) r.2 ∧ r.1 = bI (decide ((xW n T X).1 = 0)) ∧ ((xW n T X).1 = 0 → r.2.1 3508 = nI (cdw T (xW n T X)) ∧ r.2.1 3509 = nI ((xW n T X).2.2.1 - (xW n T X).2.2.2))) := by
    intro hb
    obtain ⟨g2, e2, F2, L2⟩ := failA (k := 1) (w := s) T1 (by decide) (by decide)
    rw [show (1 : Int32) = nI 1 from rfl, e2, Option.bind_some]
    dsimp only
    rw [btz, xW_bad h0 (by rw [← es]; exact hb), ← es]
    exact Sat.of ⟨(F1.wd (by decide) (by simp) (by simp)).tr F2 (by decide) (by simp) (by simp), L2, rfl, fun z => absurd z flk⟩
  cases et : tch n T s
  · rw [if_pos b0, bytA hx T1 (by omega), Option.bind_some, isLetterA hx, Option.bind_some]
    cases el : bkL n T s
    · rw [if_pos b0]
      exact bad (by rw [el, Bool.not_false, Bool.or_true])
    · rw [if_neg b1, bv_eq, bv_eq, bv_eq]
      obtain ⟨⟨w1, w2, w3⟩, w4⟩ := le_all hs.2 el
      have ex : xW n T X = (0, 0, le' n T s, s) := by rw [xW_ok h0 (by rw [← es]; exact et) (by rw [← es]; exact el), ← es]
      obtain ⟨g8, hg8⟩ : ∃ g8, g8 = sS (sS (sS g1 3507 (nI s)) 3508 0) 3509 0 := ⟨_, rfl⟩
      have F8 : Fr aW [] w0 g g8 := by
        rw [hg8]
        exact (((F1.wd (by decide) (by simp) (by simp)).sS (by decide)).sS (by decide)).sS (by decide)
      rw [← hg8]
      refine Sat.lp (fun i g' => Fr aW [] w0 g g' ∧ g'.1 3500 = g.1 3500 ∧ g'.1 3501 = g.1 3501 ∧ g'.1 3507 = nI s ∧ g'.1 3506 = nI (s + i) ∧ g'.1 3508 = nI (pkN (wl T s (s + i))) ∧ g'.1 3509 = nI i) (le' n T s - s) (by omega) ⟨F8, ?_, ?_, ?_, ?_, ?_, ?_⟩ ?_ ?_
      · rw [hg8]
        exact F1.1 3500 (by simp)
      · rw [hg8]
        exact F1.1 3501 (by simp)
      · rw [hg8]
        rfl
      · rw [hg8]
        exact a1
      · rw [hg8]
        show (0 : Int32) = _
        rw [pkN_cong (l' := fun _ => 0) (fun i _ => Wo.z (by omega))]
        rfl
      · rw [hg8]
        rfl
      · rintro rec i g' hi ⟨F, k0, k1, k2, k3, k4, k5⟩ hrec
        have T' := hT.fr F (by decide) (by simp)
        have q := w3 (s + i) (by omega) (by omega)
        have qi := bkL_iff.mp q
        rw [sizeA T', Option.bind_some, lj_eq, k3, if_neg (nI_ge (by omega) (by omega)), bytA hx T' (by omega), Option.bind_some, isLetterA hx, Option.bind_some, q, if_neg b1, Option.bind_some, k4, k5]
        have eb : byt n T (s + i) = nI (T (s + i)) := if_pos (by omega)
        have ew : fA_Words_withLetter (nI (pkN (wl T s (s + i)))) (nI i) (byt n T (s + i)) g' = some (nI (pkN (wl T s (s + (i + 1))))) := by
          by_cases l6 : i < 6
          · rw [eb, withLetterA l6 qi.2.1, wl_step l6 q]
          · rw [withLetter6 (by omega) (by omega), wl_step6 (by omega)]
        rw [ew, Option.bind_some, bv_eq, bv_eq, bv_eq]
        refine hrec _ ⟨((F.sS (by decide)).sS (by decide)).sS (by decide), k0, k1, k2, ?_, rfl, ?_⟩
        · show g'.1 3506 + 1 = _
          rw [k3]
          exact nI_add (s + i) 1
        · show g'.1 3509 + 1 = _
          rw [k5]
          exact nI_add i 1
      · rintro rec g' ⟨F, k0, k1, k2, k3, k4, k5⟩
        have T' := hT.fr F (by decide) (by simp)
        rw [show s + (le' n T s - s) = le' n T s by omega] at k3 k4
        have fin : Sat (bv (sS g' 3511 1) fun g12 => some ((1 : Int32), g12)) (fun r => Fr aW [] w0 g r.2 ∧ LA n T (xW n T X) r.2 ∧ r.1 = bI (decide ((xW n T X).1 = 0)) ∧ ((xW n T X).1 = 0 → r.2.1 3508 = nI (cdw T (xW n T X)) ∧ r.2.1 3509 = nI ((xW n T X).2.2.1 - (xW n T X).2.2.2))) := by
          rw [bv_eq, ex]
          have F' : Fr aW [] w0 g (sS g' 3511 1) := F.sS (by decide)
          refine Sat.of ⟨F', ⟨hT.fr F' (by decide) (by simp), ⟨Nat.zero_le _, ?_⟩, fun _ => ⟨?_, w2, k3, ?_, fun _ => k2⟩, fun z => absurd rfl z⟩, rfl, fun _ => ⟨k4, k5⟩⟩
          · show g'.1 3500 = nI 0
            rw [k0, hk.2, h0]
          · show g'.1 3501 = m1
            rw [k1, p1]
          · show (1 : Int32) = bI (tch n T (le' n T s))
            have q := w3 (le' n T s - 1) (by omega) (by omega)
            have := tch_L q
            rw [show le' n T s - 1 + 1 = le' n T s by omega] at this
            rw [this]
            rfl
        rw [sizeA T', Option.bind_some, lj_eq, k3]
        by_cases l : le' n T s < n
        · rw [if_neg (nI_ge l (by omega)), bytA hx T' (by omega), Option.bind_some, isLetterA hx, Option.bind_some, w4, if_pos b0]
          exact fin
        · rw [if_pos (nI_le (by omega) (by omega))]
          exact fin
  · rw [if_neg b1]
    exact bad (by rw [et, Bool.true_or])
theorem wordB {n : Nat} {T : Nat → Nat} {X : Xs} {g : G} (hx : TX n T) (h : LQ n T X g) : Sat (fB_M_word g) (fun g' => Fr bS [] w0 g g' ∧ LQ n T (xW n T X) g') := by
  have hn := hx.1
  unfold fB_M_word
  rw [goesB h, Option.bind_some]
  by_cases h0 : X.1 = 0
  · rw [decide_eq_true h0, if_neg b1]
    obtain ⟨hT, hk, h4, _⟩ := h
    obtain ⟨p1, p2, p3, p5⟩ := h4 h0
    have hs := skp_all T p2
    refine (hereB hx hT p2 p3).bind ?_
    rintro ⟨r, g2⟩ ⟨F2, a2, _⟩
    have F2 : Fr [38] [] w0 g g2 := F2
    have a2 : g2.1 38 = nI (skp n T X.2.2.1) := a2
    dsimp only
    rw [bv_eq]
    obtain ⟨s, es⟩ : ∃ s, s = skp n T X.2.2.1 := ⟨_, rfl⟩
    rw [← es] at a2 hs
    obtain ⟨g3, hg3⟩ : ∃ g3, g3 = sS g2 39 (g2.1 38) := ⟨_, rfl⟩
    have F3 : Fr [38, 39] [] w0 g g3 := by
      rw [hg3]
      exact (F2.wd (by simp) (by simp) (by simp)).sS (by simp)
    have a3 : g3.1 38 = nI s := by
      rw [hg3]
      exact a2
    have s3 : g3.1 39 = nI s := by
      rw [hg3]
      exact a2
    have T3 := hT.fr F3 (by simp) (by simp)
    have q3 : g3.1 40 = nI 0 := by rw [F3.1 40 (by simp), hk.2, h0]
    rw [← hg3, a3, smallB hx T3 (by omega), Option.bind_some, lj_eq]
    have bad : (tch n T s || !bkL n T s) = true → Sat (Option.bind (fB_M_fails 1 (nI s) g3) fun x6 => some x6) (fun g' => Fr bS [] w0 g g' ∧ LQ n T (xW n T X) g') := by
      intro hb
      obtain ⟨g4, e4, F4, L4⟩ := failB (k := 1) (w := s) T3 q3 (by decide) (by decide)
      rw [show (1 : Int32) = nI 1 from rfl, e4, Option.bind_some, xW_bad h0 (by rw [← es]; exact hb), ← es]
      exact Sat.of ⟨(F3.wd (by decide) (by simp) (by simp)).tr F4 (by decide) (by simp) (by simp), L4⟩
    cases el : bkL n T s
    · rw [if_pos b0]
      exact bad (by rw [el, Bool.not_false, Bool.or_true])
    · rw [if_neg b1, prevL hx T3 hs.2, Option.bind_some, prevD hx T3 hs.2, Option.bind_some]
      cases e1 : (decide (0 < s) && bkL n T (s - 1))
      · rw [if_pos b0]
        cases e2 : (decide (0 < s) && bkD n T (s - 1))
        · rw [if_pos b0]
          have et : tch n T s = false := by
            unfold tch
            rw [Bool.and_or_distrib_left, e1, e2]
            rfl
          obtain ⟨⟨w1, w2, w3⟩, w4⟩ := le_all hs.2 el
          have ex : xW n T X = (0, 0, le' n T s, s) := by rw [xW_ok h0 (by rw [← es]; exact et) (by rw [← es]; exact el), ← es]
          refine Sat.lp (fun i g' => Fr [38] [] w0 g3 g' ∧ g'.1 38 = nI (s + i)) (le' n T s - s) (by omega) ⟨Fr.rf, a3⟩ ?_ ?_
          · rintro rec i g' hi ⟨F, k3⟩ hrec
            have T' := T3.fr F (by simp) (by simp)
            have q := w3 (s + i) (by omega) (by omega)
            rw [k3, smallB hx T' (by omega), Option.bind_some, q, if_neg b1, bv_eq]
            exact hrec _ ⟨F.sS (by simp), nI_add (s + i) 1⟩
          · rintro rec g' ⟨F, k3⟩
            have T' := T3.fr F (by simp) (by simp)
            rw [show s + (le' n T s - s) = le' n T s by omega] at k3
            rw [k3, smallB hx T' (by omega), Option.bind_some, w4, if_pos b0, ex]
            refine Sat.of ⟨(F3.wd (by decide) (by simp) (by simp)).tr F (by decide) (by simp) (by simp), T', ⟨Nat.zero_le _, ?_⟩, fun _ => ⟨?_, w2, k3, fun _ => ?_⟩, fun z => absurd rfl z⟩
            · rw [F.1 40 (by simp), q3]
            · rw [F.1 41 (by simp), F3.1 41 (by simp), p1]
            · rw [F.1 39 (by simp), s3]
        · rw [if_neg b1]
          have et : tch n T s = true := by
            unfold tch
            rw [Bool.and_or_distrib_left, e1, e2]
            rfl
          exact bad (by rw [et, Bool.true_or])
      · rw [if_neg b1]
        have et : tch n T s = true := by
          unfold tch
          rw [Bool.and_or_distrib_left, e1, Bool.true_or]
        exact bad (by rw [et, Bool.true_or])
  · rw [decide_eq_false h0, if_pos b0, xW_dead h0]
    exact Sat.of ⟨Fr.rf, h⟩
