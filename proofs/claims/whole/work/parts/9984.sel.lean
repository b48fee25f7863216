/-! TRIALS: which one is taken -/
def stp (R : Nat → Nat → Bool) (k : Nat) : Option Nat → Option Nat
  | none => some k
  | some b => if R k b = true then some k else some b
def sel (ok : Nat → Bool) (R : Nat → Nat → Bool) : Nat → Option Nat
  | 0 => none
  | k + 1 => if ok k = true then stp R k (sel ok R k) else sel ok R k
theorem sel_t {ok : Nat → Bool} {R : Nat → Nat → Bool} {k : Nat} (h : ok k = true) : sel ok R (k + 1) = stp R k (sel ok R k) := if_pos h
theorem sel_f {ok : Nat → Bool} {R : Nat → Nat → Bool} {k : Nat} (h : ok k = false) : sel ok R (k + 1) = sel ok R k := if_neg (by rw [h]; decide)
theorem sel_lt {ok : Nat → Bool} {R : Nat → Nat → Bool} : ∀ {k b : Nat}, sel ok R k = some b → b < k ∧ ok b = true
  | 0, b, h => absurd h (by show ¬ (none = some b); intro z; cases z)
  | k + 1, b, h => by
    by_cases o : ok k = true
    · rw [sel_t o] at h
      cases e : sel ok R k with
      | none =>
        rw [e] at h
        have h : some k = some b := h
        cases h
        exact ⟨by omega, o⟩
      | some c =>
        rw [e] at h
        have ih := sel_lt e
        have h : (if R k c = true then some k else some c) = some b := h
        by_cases r : R k c = true
        · rw [if_pos r] at h
          cases h
          exact ⟨by omega, o⟩
        · rw [if_neg r] at h
          cases h
          exact ⟨by omega, ih.2⟩
    · have o : ok k = false := by simpa using o
      rw [sel_f o] at h
      have ih := sel_lt h
      exact ⟨by omega, ih.2⟩
theorem stp_some (R : Nat → Nat → Bool) (k : Nat) (o : Option Nat) : ∃ b, stp R k o = some b := by
  cases o with
  | none => exact ⟨k, rfl⟩
  | some b =>
    by_cases r : R k b = true
    · exact ⟨k, if_pos r⟩
    · exact ⟨b, if_neg r⟩
theorem sel_some {ok : Nat → Bool} {R : Nat → Nat → Bool} : ∀ {n k : Nat}, k < n → ok k = true → ∃ b, sel ok R n = some b
  | 0, k, h, _ => absurd h (Nat.not_lt_zero k)
  | n + 1, k, h, ho => by
    by_cases o : ok n = true
    · rw [sel_t o]
      exact stp_some R n _
    · have o' : ok n = false := by simpa using o
      rw [sel_f o']
      exact sel_some (n := n) (k := k) (by
        have : k ≠ n := fun e => by rw [e] at ho; exact o ho
        omega) ho
def oN : Option Nat → Int32
  | none => m1
  | some b => nI b
def oW (W : Nat → Nat) : Option Nat → Int32
  | none => nI 0
  | some b => nI (W b)
/-- the trial's choice in the class -/
def SA1 (S : Nat → UInt32) (o : Option Nat) (g : G) : Prop := g.1 13200 = oN o ∧ ∀ b, o = some b → g.2.2.2.1 0 = S b
def SA2 (W : Nat → Nat) (S : Nat → UInt32) (o : Option Nat) (g : G) : Prop := SA1 S o g ∧ ∀ b, o = some b → g.1 13202 = nI (W b)
/-- in the model -/
def SB1 (S : Nat → UInt32) (o : Option Nat) (g : G) : Prop := ∀ b, o = some b → g.2.2.2.1 0 = S b
theorem SA1.fr {U T : List Nat} {w : Bool × Bool × Bool} {S : Nat → UInt32} {o : Option Nat} {g g' : G} (h : SA1 S o g) (hf : Fr U T w g g') (hS : 13200 ∉ U) (hw : w.2.1 = false) : SA1 S o g' := by
  unfold SA1
  rw [hf.1 _ hS, hf.2.2.2.1 hw]
  exact h
theorem SA2.fr {U T : List Nat} {w : Bool × Bool × Bool} {W : Nat → Nat} {S : Nat → UInt32} {o : Option Nat} {g g' : G} (h : SA2 W S o g) (hf : Fr U T w g g') (hS : 13200 ∉ U ∧ 13202 ∉ U) (hw : w.2.1 = false) : SA2 W S o g' := by
  refine ⟨h.1.fr hf hS.1 hw, fun b e => ?_⟩
  rw [hf.1 _ hS.2]
  exact h.2 b e
theorem SB1.fr {U T : List Nat} {w : Bool × Bool × Bool} {S : Nat → UInt32} {o : Option Nat} {g g' : G} (h : SB1 S o g) (hf : Fr U T w g g') (hw : w.2.1 = false) : SB1 S o g' := by
  unfold SB1
  rw [hf.2.2.2.1 hw]
  exact h
def R1 (S : Nat → UInt32) (k b : Nat) : Bool := decide ((S b).toNat < (S k).toNat)
def R2 (W : Nat → Nat) (S : Nat → UInt32) (k b : Nat) : Bool := decide (W k < W b ∨ W k = W b ∧ (S b).toNat < (S k).toNat)
def R3 (W : Nat → Nat) (S : Nat → UInt32) (k b : Nat) : Bool := decide (W b < W k ∨ W k = W b ∧ (S k).toNat < (S b).toNat)
def fin32 (S : Nat → UInt32) : Prop := ∀ k, (S k).toNat ≤ 2139095040
theorem highA {p : Pl} (hw : WP p) {g : G} (hP : PA p g) (hS : SH p g) {H : Nat → Nat → Nat → Bool} (hH : HH p 128 H g) {S : Nat → UInt32} (hf : fin32 S) {k : Nat} (hk : k < 2 ^ 31) {o : Option Nat} (ho : ∀ b, o = some b → b < 2 ^ 31) (e : S k = scr p H (pY p)) (h : SA1 S o g) :
    Sat (fA_Trial_takeHigherScore (nI k) g) (fun g' => Fr [13200] [] w1 g g' ∧ SA1 S (stp (R1 S) k o) g') := by
  unfold fA_Trial_takeHigherScore
  rw [meanA hw hP hS hH, Option.bind_some, lj_eq, ← e]
  have take : Sat (bv (sS g 13200 (nI k)) fun g3 => bv (sF g3 0 (S k)) fun g4 => some g4) (fun g' => Fr [13200] [] w1 g g' ∧ SA1 S (some k) g') := by
    rw [bv_eq, bv_eq]
    refine Sat.of ⟨(Fr.rf.sS (by simp)).sF rfl, rfl, fun b e => ?_⟩
    cases e
    rfl
  cases o with
  | none =>
    rw [if_pos (show g.1 13200 = -1 from h.1)]
    exact take
  | some b =>
    have hb := ho b rfl
    have e1 : g.1 13200 = nI b := h.1
    have e2 : g.2.2.2.1 0 = S b := h.2 b rfl
    rw [e1, if_neg (show ¬ nI b = -1 from fun z => (n_ne_m1 hb).mp z), e2]
    by_cases l : (S b).toNat < (S k).toNat
    · rw [if_neg (fun z => by have := (cmp_le (hf k) (hf b) _).mp z; omega), show stp (R1 S) k (some b) = some k from if_pos (decide_eq_true l)]
      exact take
    · rw [if_pos ((cmp_le (hf k) (hf b) _).mpr (by omega)), show stp (R1 S) k (some b) = some b from if_neg (fun z => l (of_decide_eq_true z))]
      exact Sat.of ⟨Fr.rf, h⟩
theorem lesserA {p : Pl} (hw : WP p) {g : G} (hP : PA p g) (hK : g.1 11801 = nI (2 ^ pC p - 1)) (hS : SH p g) {H : Nat → Nat → Nat → Bool} (hH : HH p 128 H g) {W : Nat → Nat} {S : Nat → UInt32} (hf : fin32 S) (hWl : ∀ k, W k < 2 ^ 31) {k : Nat} (hk : k < 2 ^ 31) {o : Option Nat} (ho : ∀ b, o = some b → b < 2 ^ 31) (e : S k = scr p H (pY p)) (eW : W k = ww p H) (h : SA2 W S o g) :
    Sat (fA_Trial_takeLesserGap (nI k) g) (fun g' => Fr [13200, 13202] [129] w1 g g' ∧ SA2 W S (stp (R2 W S) k o) g') := by
  unfold fA_Trial_takeLesserGap
  refine (worstGapA hw hP hK hH).bind ?_
  rintro ⟨r, g1⟩ ⟨F1, er⟩
  have F1 : Fr [] [129] w0 g g1 := F1
  have er : r = nI (ww p H) := er
  have P1 := hP.fr F1 (by simp) (by simp)
  have H1 := hH.fr F1 (by simp)
  have h1 := h.fr F1 (by simp) rfl
  have F1' : Fr [13200, 13202] [129] w1 g g1 := F1.wd (by simp) (by simp) (by simp)
  dsimp only
  rw [er, ← eW, meanA hw P1 (hS.fr F1 rfl) H1, Option.bind_some, ← e, lj_eq]
  have take : Sat (bv (sS g1 13200 (nI k)) fun g5 => bv (sS g5 13202 (nI (W k))) fun g6 => bv (sF g6 0 (S k)) fun g7 => some g7) (fun g' => Fr [13200, 13202] [129] w1 g g' ∧ SA2 W S (some k) g') := by
    rw [bv_eq, bv_eq, bv_eq]
    refine Sat.of ⟨((F1'.sS (by simp)).sS (by simp)).sF rfl, ⟨rfl, fun b e => ?_⟩, fun b e => ?_⟩
    · cases e
      rfl
    · cases e
      rfl
  cases o with
  | none =>
    rw [if_pos (show g1.1 13200 = -1 from h1.1.1)]
    dsimp only
    rw [lj_eq, if_pos (show g1.1 13200 = -1 from h1.1.1)]
    exact take
  | some b =>
    have hb := ho b rfl
    have e1 : g1.1 13200 = nI b := h1.1.1
    have e2 : g1.2.2.2.1 0 = S b := h1.1.2 b rfl
    have e3 : g1.1 13202 = nI (W b) := h1.2 b rfl
    rw [e1, if_neg (show ¬ nI b = -1 from fun z => (n_ne_m1 hb).mp z), e3, ite_len (hWl k) (hWl b)]
    by_cases l : W k ≤ W b
    · rw [if_pos l]
      dsimp only
      rw [lj_eq, if_neg (show ¬ nI b = -1 from fun z => (n_ne_m1 hb).mp z), ite_ltn (hWl k) (hWl b), e2]
      by_cases l2 : W k < W b
      · rw [if_pos l2, show stp (R2 W S) k (some b) = some k from if_pos (decide_eq_true (Or.inl l2))]
        exact take
      · rw [if_neg l2]
        by_cases l3 : (S b).toNat < (S k).toNat
        · rw [if_neg (fun z => by have := (cmp_le (hf k) (hf b) _).mp z; omega), show stp (R2 W S) k (some b) = some k from if_pos (decide_eq_true (Or.inr ⟨by omega, l3⟩))]
          exact take
        · rw [if_pos ((cmp_le (hf k) (hf b) _).mpr (by omega)), show stp (R2 W S) k (some b) = some b from if_neg (fun z => by have := of_decide_eq_true z; omega)]
          exact Sat.of ⟨F1', h1⟩
    · rw [if_neg l, show stp (R2 W S) k (some b) = some b from if_neg (fun z => by have := of_decide_eq_true z; omega)]
      exact Sat.of ⟨F1', h1⟩
theorem greaterA {p : Pl} (hw : WP p) {g : G} (hP : PA p g) (hK : g.1 11801 = nI (2 ^ pC p - 1)) (hS : SH p g) {H : Nat → Nat → Nat → Bool} (hH : HH p 128 H g) {W : Nat → Nat} {S : Nat → UInt32} (hf : fin32 S) (hWl : ∀ k, W k < 2 ^ 31) {k : Nat} (hk : k < 2 ^ 31) {o : Option Nat} (ho : ∀ b, o = some b → b < 2 ^ 31) (e : S k = scr p H (pY p)) (eW : W k = ww p H) (h : SA2 W S o g) :
    Sat (fA_Trial_takeGreaterGap (nI k) g) (fun g' => Fr [13200, 13202] [129] w1 g g' ∧ SA2 W S (stp (R3 W S) k o) g') := by
  unfold fA_Trial_takeGreaterGap
  refine (worstGapA hw hP hK hH).bind ?_
  rintro ⟨r, g1⟩ ⟨F1, er⟩
  have F1 : Fr [] [129] w0 g g1 := F1
  have er : r = nI (ww p H) := er
  have P1 := hP.fr F1 (by simp) (by simp)
  have H1 := hH.fr F1 (by simp)
  have h1 := h.fr F1 (by simp) rfl
  have F1' : Fr [13200, 13202] [129] w1 g g1 := F1.wd (by simp) (by simp) (by simp)
  dsimp only
  rw [er, ← eW, meanA hw P1 (hS.fr F1 rfl) H1, Option.bind_some, ← e, lj_eq]
  have take : Sat (bv (sS g1 13200 (nI k)) fun g5 => bv (sS g5 13202 (nI (W k))) fun g6 => bv (sF g6 0 (S k)) fun g7 => some g7) (fun g' => Fr [13200, 13202] [129] w1 g g' ∧ SA2 W S (some k) g') := by
    rw [bv_eq, bv_eq, bv_eq]
    refine Sat.of ⟨((F1'.sS (by simp)).sS (by simp)).sF rfl, ⟨rfl, fun b e => ?_⟩, fun b e => ?_⟩
    · cases e
      rfl
    · cases e
      rfl
  cases o with
  | none =>
    rw [if_pos (show g1.1 13200 = -1 from h1.1.1)]
    dsimp only
    rw [lj_eq, if_pos (show g1.1 13200 = -1 from h1.1.1)]
    exact take
  | some b =>
    have hb := ho b rfl
    have e1 : g1.1 13200 = nI b := h1.1.1
    have e2 : g1.2.2.2.1 0 = S b := h1.1.2 b rfl
    have e3 : g1.1 13202 = nI (W b) := h1.2 b rfl
    rw [e1, if_neg (show ¬ nI b = -1 from fun z => (n_ne_m1 hb).mp z), e3, ite_len (hWl b) (hWl k)]
    by_cases l : W b ≤ W k
    · rw [if_pos l]
      dsimp only
      rw [lj_eq, if_neg (show ¬ nI b = -1 from fun z => (n_ne_m1 hb).mp z), ite_ltn (hWl b) (hWl k), e2]
      by_cases l2 : W b < W k
      · rw [if_pos l2, show stp (R3 W S) k (some b) = some k from if_pos (decide_eq_true (Or.inl l2))]
        exact take
      · rw [if_neg l2]
        by_cases l3 : (S k).toNat < (S b).toNat
        · rw [if_neg (fun z => by have := (cmp_ge (hf k) (hf b) _).mp z; omega), show stp (R3 W S) k (some b) = some k from if_pos (decide_eq_true (Or.inr ⟨by omega, l3⟩))]
          exact take
        · rw [if_pos ((cmp_ge (hf k) (hf b) _).mpr (by omega)), show stp (R3 W S) k (some b) = some b from if_neg (fun z => by have := of_decide_eq_true z; omega)]
          exact Sat.of ⟨F1', h1⟩
    · rw [if_neg l, show stp (R3 W S) k (some b) = some b from if_neg (fun z => by have := of_decide_eq_true z; omega)]
      exact Sat.of ⟨F1', h1⟩
/-- one set less another -/
def ant (u m : Nat) : Nat := mk (fun i => u.testBit i && !m.testBit i) 8
theorem ant_lt (u m : Nat) : ant u m < 256 := mk_lt _ 8
theorem ant_bit {u m i : Nat} (hi : i < 8) : (ant u m).testBit i = (u.testBit i && !m.testBit i) := by
  unfold ant
  rw [mk_bit, decide_eq_true hi, Bool.true_and]
theorem antA {u m : Nat} (hu : u < 256) : nI u &&& (nI m ^^^ (-1)) = nI (ant u m) := by
  apply bit_ext
  intro i hi
  have hm1 : (-1 : Int32).toBitVec.getLsbD i = true := (by decide +kernel : ∀ i, i < 32 → (-1 : Int32).toBitVec.getLsbD i = true) i hi
  rw [Int32.toBitVec_and, Int32.toBitVec_xor, BitVec.getLsbD_and, BitVec.getLsbD_xor, nI_bit, nI_bit, nI_bit, hm1]
  unfold ant
  rw [mk_bit]
  by_cases e8 : i < 8
  · simp [hi, e8]
  · rw [bit_hi (n := 8) hu (by omega)]
    simp [e8]
theorem ob_split {K : Nat} (hK : K ≤ 8) {V V' : Nat → Bool} {u m : Nat} (hm : ∀ c, c < K → m.testBit c = true → u.testBit c = true) (hV : ∀ c, c < K → m.testBit c = false → u.testBit c = true → V c = V' c) : (ob K V (ant u m) || ob K V' m) = ob K V' u := by
  rw [Bool.eq_iff_iff, Bool.or_eq_true, ob_iff hK, ob_iff hK, ob_iff hK]
  constructor
  · rintro (⟨c, h1, h2, h3⟩ | ⟨c, h1, h2, h3⟩)
    · rw [ant_bit (by omega)] at h3
      cases e : m.testBit c
      · rw [e] at h3
        have h3 : u.testBit c = true := by simpa using h3
        exact ⟨c, h1, by rw [← hV c h1 e h3]; exact h2, h3⟩
      · rw [e] at h3
        simp at h3
    · exact ⟨c, h1, h2, hm c h1 h3⟩
  · rintro ⟨c, h1, h2, h3⟩
    cases e : m.testBit c
    · refine Or.inl ⟨c, h1, by rw [hV c h1 e h3]; exact h2, ?_⟩
      rw [ant_bit (by omega), e, h3]
      rfl
    · exact Or.inr ⟨c, h1, h2, e⟩
/-- a fleet with another phase of one -/
def aPh (f : Fl) (c v : Nat) : Fl := fun j => if j = 1 then upn (f 1) c v else f j
theorem aPh_self (f : Fl) (c : Nat) : aPh f c (fph f c) = f := by
  funext j i
  unfold aPh
  by_cases e : j = 1
  · rw [if_pos e, e]
    by_cases e2 : i = c
    · rw [e2, upn_self]
      rfl
    · rw [upn_ne _ _ e2]
  · rw [if_neg e]
theorem aPh_aPh (f : Fl) (c v w : Nat) : aPh (aPh f c v) c w = aPh f c w := by
  funext j i
  unfold aPh
  by_cases e : j = 1
  · rw [if_pos e, if_pos e, if_pos rfl]
    by_cases e2 : i = c
    · rw [e2, upn_self, upn_self]
    · rw [upn_ne _ _ e2, upn_ne _ _ e2, upn_ne _ _ e2]
  · rw [if_neg e, if_neg e, if_neg e]
theorem aPh_at (f : Fl) (c v : Nat) : fph (aPh f c v) c = v := by
  show upn (f 1) c v c = v
  exact upn_self _ _ _
theorem aPh_ne (f : Fl) {c d : Nat} (v : Nat) (h : d ≠ c) : fph (aPh f c v) d = fph f d := by
  show upn (f 1) c v d = f 1 d
  exact upn_ne _ _ h
theorem aPh_wf {p : Pl} {f : Fl} {c v : Nat} (h : WF p f) (hv : v < tu p (hm p c)) : WF p (aPh f c v) := by
  refine ⟨h.1, fun d hd => ⟨?_, (h.2 d hd).2⟩⟩
  by_cases e : d = c
  · rw [e, aPh_at]
    exact hv
  · rw [aPh_ne _ _ e]
    exact (h.2 d hd).1
theorem see_cg {p : Pl} {f f' : Fl} {c : Nat} (h1 : fnd f (hm p c) = fnd f' (hm p c)) (h2 : fph f c = fph f' c) (h3 : frc f c = frc f' c) (t x y : Nat) : see p f c t x y = see p f' c t x y := by
  unfold see
  rw [h1, h2, h3]
/-- sets laid: in part for one fleet, in part for another -/
def LV (p : Pl) (V : Nat → Nat → Nat → Nat → Bool) (g : G) : Prop := ∀ k, k < pC p * pR p * pY p → g.2.1 22 k = nI (mk (fun i => decide (i < pK p) && V i (k / (pC p * pR p)) (k % (pC p * pR p) % pC p) (k % (pC p * pR p) / pC p)) 8)
theorem LB.lv {p : Pl} {f : Fl} {g : G} (h : LB p f g) : LV p (fun i t x y => see p f i t x y) g := h
theorem LV.lb {p : Pl} {f : Fl} {g : G} {V : Nat → Nat → Nat → Nat → Bool} (h : LV p V g) (e : ∀ i, i < pK p → ∀ t x y, V i t x y = see p f i t x y) : LB p f g := by
  intro k hk
  rw [h k hk]
  congr 1
  unfold whK who
  apply mk_cong
  intro i _
  by_cases l : i < pK p
  · rw [e i l]
  · simp [l]
theorem laysV {p : Pl} (hw : WP p) {f : Fl} {g : G} (hP : PB p g) (hF : FB p f g) (hW : WF p f) {c : Nat} (hc : c < pK p) {V : Nat → Nat → Nat → Nat → Bool} (h : LV p V g) :
    Sat (fB_M_laysOne (nI c) g) (fun g' => Fr [] [22] w0 g g' ∧ LV p (fun i t x y => if i = c then see p f c t x y else V i t x y) g') := by
  refine (laysOneB hw hP hF hW hc (b := fun k i => decide (i < pK p) && V i (k / (pC p * pR p)) (k % (pC p * pR p) % pC p) (k % (pC p * pR p) / pC p)) h).mono ?_
  rintro g' ⟨F, k⟩
  refine ⟨F, fun j hj => ?_⟩
  rw [k j hj]
  congr 1
  apply mk_cong
  intro i _
  dsimp only
  by_cases e : i = c
  · rw [if_pos e, if_pos e, e, decide_eq_true hc, Bool.true_and]
  · rw [if_neg e, if_neg e]
theorem laysC {p : Pl} (hw : WP p) {f f' : Fl} {g : G} (hP : PB p g) (hF : FB p f' g) (hW : WF p f') {c : Nat} (hc : c < pK p) (h : LB p f g) (e : ∀ i, i < pK p → i ≠ c → ∀ t x y, see p f i t x y = see p f' i t x y) :
    Sat (fB_M_laysOne (nI c) g) (fun g' => Fr [] [22] w0 g g' ∧ LB p f' g') := by
  refine (laysV hw hP hF hW hc h.lv).mono ?_
  rintro g' ⟨F, k⟩
  refine ⟨F, k.lb (fun i hi t x y => ?_)⟩
  by_cases ei : i = c
  · rw [if_pos ei, ei]
  · rw [if_neg ei]
    exact e i hi ei t x y
theorem laysP {p : Pl} (hw : WP p) {f f' : Fl} {g : G} (hP : PB p g) (hF : FB p f' g) (hW : WF p f') {q : Nat} (hq : q < pP p) (h : LB p f g) (e : ∀ i, i < pK p → hm p i ≠ q → ∀ t x y, see p f i t x y = see p f' i t x y) :
    Sat (fB_M_laysPlane (nI q) g) (fun g' => Fr [] [22] w0 g g' ∧ LB p f' g') := by
  have h1 := hw.c
  unfold fB_M_laysPlane
  refine Sat.lp (fun c z => ∃ g' V, z = (nI c, g') ∧ Fr [] [22] w0 g g' ∧ LV p V g' ∧ (∀ i, i < c → ∀ t x y, V i t x y = see p f' i t x y) ∧ ∀ i, i < pK p → c ≤ i → ∀ t x y, V i t x y = see p f i t x y) (pK p) (by omega) ⟨g, _, rfl, Fr.rf, h.lv, fun i hi => absurd hi (Nat.not_lt_zero i), fun i _ _ t x y => rfl⟩ ?_ ?_
  · rintro rec c _ hc ⟨g1, V, rfl, F, L, k1, k2⟩ hrec
    have P1 := hP.fr F (by simp) (by simp)
    have N1 := hF.fr F (by simp)
    have hh := hw.h hc
    dsimp only
    rw [P1.1.2.2.2.2.1, if_neg (nI_ge hc (by omega)), ag_nI (by omega) (by decide), P1.2.2.1 c hc, lj_eq, ite_eqn (by omega) (by omega), show (nI c + 1 : Int32) = nI (c + 1) from nI_add c 1]
    by_cases z : hm p c = q
    · rw [if_pos z]
      refine (laysV hw P1 N1 hW hc L).bind ?_
      rintro g2 ⟨F2, L2⟩
      refine hrec _ ⟨g2, _, rfl, F.tr F2 (by simp) (by simp) (by simp), L2, fun i hi t x y => ?_, fun i hi hl t x y => ?_⟩
      · by_cases ei : i = c
        · rw [if_pos ei, ei]
        · rw [if_neg ei]
          exact k1 i (by omega) t x y
      · rw [if_neg (by omega)]
        exact k2 i hi (by omega) t x y
    · rw [if_neg z]
      refine hrec _ ⟨g1, V, rfl, F, L, fun i hi t x y => ?_, fun i hi hl t x y => k2 i hi (by omega) t x y⟩
      by_cases ei : i = c
      · rw [ei, k2 c hc (Nat.le_refl _) t x y]
        exact e c hc z t x y
      · exact k1 i (by omega) t x y
  · rintro rec _ ⟨g1, V, rfl, F, L, k1, k2⟩
    have P1 := hP.fr F (by simp) (by simp)
    dsimp only
    rw [P1.1.2.2.2.2.1, if_pos (nI_le (Nat.le_refl _) (by omega))]
    exact Sat.of ⟨F, L.lb k1⟩
