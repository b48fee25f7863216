/-! THE TEXT: an own word asked for, a name, a number, an end -/
def xMk (T : Nat → Nat) (k : Nat) (Y : Xs) : Xs := if Y.1 ≠ 0 then Y else if cdw T Y = ocd k then Y else fl 1 Y.2.2.2
def xM (n : Nat) (T : Nat → Nat) (k : Nat) (X : Xs) : Xs := xMk T k (xW n T X)
theorem xM_dead {n : Nat} {T : Nat → Nat} {k : Nat} {X : Xs} (h : X.1 ≠ 0) : xM n T k X = X := by
  unfold xM xMk
  rw [xW_dead h, if_pos h]
theorem xM_mono {n : Nat} {T : Nat → Nat} {k : Nat} {X : Xs} (h0 : X.1 = 0) (ha : X.2.2.1 ≤ n) (hz : (xM n T k X).1 = 0) : X.2.2.1 ≤ (xM n T k X).2.2.1 := by
  have e : xM n T k X = xMk T k (xW n T X) := rfl
  unfold xMk at e
  by_cases y0 : (xW n T X).1 = 0
  · have w := xW_wo (n := n) (T := T) h0 ha y0
    rw [if_neg (show ¬ (xW n T X).1 ≠ 0 from fun z => z y0)] at e
    by_cases c : cdw T (xW n T X) = ocd k
    · rw [if_pos c] at e
      rw [e]
      have := w.1.1
      omega
    · rw [if_neg c] at e
      rw [e] at hz
      exact absurd hz flk
  · rw [if_pos y0] at e
    rw [e] at hz
    exact absurd hz y0
theorem wordA {n : Nat} {T : Nat → Nat} {X : Xs} {g : G} {k : Nat} (hx : TX n T) (h : LA n T X g) (h0 : X.1 = 0) (hk : k < 15) :
    Sat (fA_Reader_takeWord k g) (fun r => Fr aW [] w0 g r.2 ∧ LA n T (xM n T k X) r.2 ∧ r.1 = bI (decide ((xM n T k X).1 = 0))) := by
  have ha := (h.2.2.1 h0).2.1
  unfold fA_Reader_takeWord
  refine (lettersA hx h h0).bind ?_
  rintro ⟨r, g1⟩ ⟨F1, L1, e1, w1⟩
  have e1 : r = bI (decide ((xW n T X).1 = 0)) := e1
  have F1 : Fr aW [] w0 g g1 := F1
  dsimp only at L1 w1 ⊢
  obtain ⟨Y, eY⟩ : ∃ Y, Y = xW n T X := ⟨_, rfl⟩
  rw [← eY] at L1 w1 e1
  have eM : xM n T k X = xMk T k Y := by rw [eY]; rfl
  rw [eM]
  unfold xMk
  by_cases y0 : Y.1 = 0
  · have hW := (xW_wo h0 ha (by rw [← eY]; exact y0)).1
    rw [← eY] at hW
    have cl : cdw T Y < 2 ^ 30 := pkN_lt (fun i _ => hW.b i)
    have ol := ocd_lt hk
    rw [e1, decide_eq_true y0, if_neg b1, wordsOf hk, Option.bind_some, lj_eq, (w1 y0).1, ite_eqn (by omega) (by omega), if_neg (show ¬ Y.1 ≠ 0 from fun z => z y0)]
    by_cases z : cdw T Y = ocd k
    · rw [if_pos z, if_pos z]
      exact Sat.of ⟨F1, L1, by rw [decide_eq_true y0]; rfl⟩
    · rw [if_neg z, if_neg z]
      have es := (L1.2.2.1 y0).2.2.2.2 (Nat.le_of_lt hW.1)
      obtain ⟨g2, e2, F2, L2⟩ := failA (k := 1) (w := Y.2.2.2) L1.1 (by decide) (by decide)
      rw [es, show (1 : Int32) = nI 1 from rfl, e2, Option.bind_some]
      dsimp only
      rw [if_pos rfl]
      exact Sat.of ⟨F1.tr F2 (by decide) (by simp) (by simp), L2, rfl⟩
  · rw [e1, decide_eq_false y0, if_pos b0, if_pos y0]
    exact Sat.of ⟨F1, L1, by rw [decide_eq_false y0]; rfl⟩
theorem mustB {n : Nat} {T : Nat → Nat} {X : Xs} {g : G} {k : Nat} (hx : TX n T) (h : LQ n T X g) (hO : g.2.1 19 = gB0.2.1 19) (hk : k < 15) :
    Sat (fB_M_must (nI k) g) (fun g' => Fr bS [] w0 g g' ∧ LQ n T (xM n T k X) g') := by
  unfold fB_M_must
  refine (wordB hx h).bind ?_
  rintro g1 ⟨F1, L1⟩
  rw [goesB L1, Option.bind_some]
  obtain ⟨Y, eY⟩ : ∃ Y, Y = xW n T X := ⟨_, rfl⟩
  rw [← eY] at L1
  have eM : xM n T k X = xMk T k Y := by rw [eY]; rfl
  rw [← eY, eM]
  unfold xMk
  by_cases y0 : Y.1 = 0
  · have h0 : X.1 = 0 := by
      apply Classical.byContradiction
      intro z
      rw [eY, xW_dead z] at y0
      exact z y0
    have ha := (h.2.2.1 h0).2.1
    have hW := (xW_wo h0 ha (by rw [← eY]; exact y0)).1
    rw [← eY] at hW
    have p := L1.2.2.1 y0
    have es := p.2.2.2 (Nat.le_of_lt hW.1)
    rw [decide_eq_true y0, if_neg b1, ownB hx L1.1 ((F1.2.1 19 (by simp)).trans hO) hW es p.2.2.1, Option.bind_some, if_neg (show ¬ Y.1 ≠ 0 from fun z => z y0)]
    have eq : (oI (pkN (wl T Y.2.2.2 Y.2.2.1)) = nI k) ↔ cdw T Y = ocd k := by
      unfold oI
      by_cases l : oF (pkN (wl T Y.2.2.2 Y.2.2.1)) < 15
      · rw [if_pos l, nI_eq (by omega) (by omega)]
        exact oF_eq hk
      · rw [if_neg l]
        constructor
        · intro z
          exact absurd z (fun z => (m1_ne_n (a := k) (by omega)).mp z)
        · intro z
          exact absurd (show oF (pkN (wl T Y.2.2.2 Y.2.2.1)) = k from (oF_eq hk).mpr z) (fun z => l (by omega))
    by_cases z : cdw T Y = ocd k
    · rw [if_pos z, if_pos (eq.mpr z)]
      exact Sat.of ⟨F1, L1⟩
    · rw [if_neg z, if_neg (fun y => z (eq.mp y))]
      obtain ⟨g2, e2, F2, L2⟩ := failB (k := 1) (w := Y.2.2.2) L1.1 (by rw [L1.2.1.2, y0]) (by decide) (by decide)
      rw [es, show (1 : Int32) = nI 1 from rfl, e2, Option.bind_some]
      exact Sat.of ⟨F1.tr F2 (by decide) (by simp) (by simp), L2⟩
  · rw [decide_eq_false y0, if_pos b0, if_pos y0]
    exact Sat.of ⟨F1, L1⟩
/-- a name -/
def xNk (T : Nat → Nat) (Y : Xs) : Xs := if Y.1 ≠ 0 then Y else if oF (cdw T Y) < 15 then fl 1 Y.2.2.2 else if 6 < Y.2.2.1 - Y.2.2.2 then fl 1 (Y.2.2.2 + 6) else Y
def xNm (n : Nat) (T : Nat → Nat) (X : Xs) : Xs := xNk T (xW n T X)
theorem xNm_dead {n : Nat} {T : Nat → Nat} {X : Xs} (h : X.1 ≠ 0) : xNm n T X = X := by
  unfold xNm xNk
  rw [xW_dead h, if_pos h]
/-- no own word is so long -/
theorem own_short {n : Nat} {T : Nat → Nat} {s e : Nat} (hW : Wo n T s e) (h : oF (pkN (wl T s e)) < 15) : e - s ≤ 5 := by
  have he := (oF_eq h).mp rfl
  apply Classical.byContradiction
  intro z
  have l := hW.l (i := 5) (by omega)
  have := pkN_inj (fun i _ => hW.b i) (fun i _ => ow_lt h i) he 5 (by decide)
  rw [ow_hi (by have := ol_le _ h; omega)] at this
  omega
theorem xNm_ok {n : Nat} {T : Nat → Nat} {X : Xs} (h0 : X.1 = 0) (ha : X.2.2.1 ≤ n) (hz : (xNm n T X).1 = 0) : xNm n T X = xW n T X ∧ Wo n T (xNm n T X).2.2.2 (xNm n T X).2.2.1 ∧ (xNm n T X).2.2.1 - (xNm n T X).2.2.2 ≤ 6 := by
  have e : xNm n T X = xNk T (xW n T X) := rfl
  unfold xNk at e
  by_cases y0 : (xW n T X).1 = 0
  · rw [if_neg (show ¬ (xW n T X).1 ≠ 0 from fun z => z y0)] at e
    by_cases l : oF (cdw T (xW n T X)) < 15
    · rw [if_pos l] at e
      rw [e] at hz
      exact absurd hz flk
    · rw [if_neg l] at e
      by_cases l6 : 6 < (xW n T X).2.2.1 - (xW n T X).2.2.2
      · rw [if_pos l6] at e
        rw [e] at hz
        exact absurd hz flk
      · rw [if_neg l6] at e
        rw [e]
        exact ⟨rfl, (xW_wo h0 ha y0).1, by omega⟩
  · rw [if_pos y0] at e
    rw [e] at hz
    exact absurd hz y0
theorem nameA {n : Nat} {T : Nat → Nat} {X : Xs} {g : G} (hx : TX n T) (h : LA n T X g) (h0 : X.1 = 0) :
    Sat (fA_Reader_takeName g) (fun r => Fr aW [] w0 g r.2 ∧ LA n T (xNm n T X) r.2 ∧ r.1 = bI (decide ((xNm n T X).1 = 0)) ∧ ((xNm n T X).1 = 0 → r.2.1 3508 = nI (cdw T (xNm n T X)))) := by
  have ha := (h.2.2.1 h0).2.1
  unfold fA_Reader_takeName
  refine (lettersA hx h h0).bind ?_
  rintro ⟨r, g1⟩ ⟨F1, L1, e1, w1⟩
  have e1 : r = bI (decide ((xW n T X).1 = 0)) := e1
  have F1 : Fr aW [] w0 g g1 := F1
  dsimp only at L1 w1 ⊢
  obtain ⟨Y, eY⟩ : ∃ Y, Y = xW n T X := ⟨_, rfl⟩
  rw [← eY] at L1 w1 e1
  have eM : xNm n T X = xNk T Y := by rw [eY]; rfl
  rw [eM]
  unfold xNk
  by_cases y0 : Y.1 = 0
  · have hW := (xW_wo h0 ha (by rw [← eY]; exact y0)).1
    rw [← eY] at hW
    have cl : cdw T Y < 2 ^ 30 := pkN_lt (fun i _ => hW.b i)
    have es := (L1.2.2.1 y0).2.2.2.2 (Nat.le_of_lt hW.1)
    have hn := hx.1
    have hl := hW.2.1
    rw [e1, decide_eq_true y0, if_neg b1, (w1 y0).2, show (6 : Int32) = nI 6 from rfl, ite_len (by omega) (by decide), if_neg (show ¬ Y.1 ≠ 0 from fun z => z y0)]
    by_cases l6 : Y.2.2.1 - Y.2.2.2 ≤ 6
    · rw [if_pos l6, (w1 y0).1, isOwnA cl, Option.bind_some, lj_eq]
      by_cases z : oF (cdw T Y) < 15
      · rw [decide_eq_true z, if_neg b1, if_pos z]
        obtain ⟨g2, e2, F2, L2⟩ := failA (k := 1) (w := Y.2.2.2) L1.1 (by decide) (by decide)
        rw [es, show (1 : Int32) = nI 1 from rfl, e2, Option.bind_some]
        dsimp only
        rw [if_pos rfl]
        exact Sat.of ⟨F1.tr F2 (by decide) (by simp) (by simp), L2, rfl, fun z => absurd z flk⟩
      · rw [decide_eq_false z, if_pos b0, if_neg z, if_neg (by omega)]
        exact Sat.of ⟨F1, L1, by rw [decide_eq_true y0]; rfl, fun _ => (w1 y0).1⟩
    · rw [if_neg l6, if_neg (fun z => by have := own_short hW z; omega), if_pos (by omega)]
      obtain ⟨g2, e2, F2, L2⟩ := failA (k := 1) (w := Y.2.2.2 + 6) L1.1 (by decide) (by decide)
      rw [es, nI_add, show (1 : Int32) = nI 1 from rfl, e2, Option.bind_some]
      dsimp only
      rw [btz]
      exact Sat.of ⟨F1.tr F2 (by decide) (by simp) (by simp), L2, rfl, fun z => absurd z flk⟩
  · rw [e1, decide_eq_false y0, if_pos b0, if_pos y0]
    exact Sat.of ⟨F1, L1, by rw [decide_eq_false y0]; rfl, fun z => absurd z y0⟩
theorem nameB {n : Nat} {T : Nat → Nat} {X : Xs} {g : G} (hx : TX n T) (h : LQ n T X g) (hO : g.2.1 19 = gB0.2.1 19) :
    Sat (fB_M_name g) (fun g' => Fr bS [] w0 g g' ∧ LQ n T (xNm n T X) g') := by
  unfold fB_M_name
  refine (wordB hx h).bind ?_
  rintro g1 ⟨F1, L1⟩
  rw [goesB L1, Option.bind_some]
  obtain ⟨Y, eY⟩ : ∃ Y, Y = xW n T X := ⟨_, rfl⟩
  rw [← eY] at L1
  have eM : xNm n T X = xNk T Y := by rw [eY]; rfl
  rw [← eY, eM]
  unfold xNk
  by_cases y0 : Y.1 = 0
  · have h0 : X.1 = 0 := by
      apply Classical.byContradiction
      intro z
      rw [eY, xW_dead z] at y0
      exact z y0
    have ha := (h.2.2.1 h0).2.1
    have hW := (xW_wo h0 ha (by rw [← eY]; exact y0)).1
    rw [← eY] at hW
    have p := L1.2.2.1 y0
    have es := p.2.2.2 (Nat.le_of_lt hW.1)
    have hn := hx.1
    have hl := hW.2.1
    have h1 := hW.1
    have w0' : g1.1 40 = nI 0 := by rw [L1.2.1.2, y0]
    rw [decide_eq_true y0, if_neg b1, ownB hx L1.1 ((F1.2.1 19 (by simp)).trans hO) hW es p.2.2.1, Option.bind_some, if_neg (show ¬ Y.1 ≠ 0 from fun z => z y0)]
    unfold oI
    by_cases l : oF (pkN (wl T Y.2.2.2 Y.2.2.1)) < 15
    · rw [if_pos l, if_pos (show oF (cdw T Y) < 15 from l), if_neg (show ¬ nI (oF (pkN (wl T Y.2.2.2 Y.2.2.1))) = -1 from fun z => (n_ne_m1 (by omega)).mp z)]
      obtain ⟨g2, e2, F2, L2⟩ := failB (k := 1) (w := Y.2.2.2) L1.1 w0' (by decide) (by decide)
      rw [es, show (1 : Int32) = nI 1 from rfl, e2, Option.bind_some]
      exact Sat.of ⟨F1.tr F2 (by decide) (by simp) (by simp), L2⟩
    · rw [if_neg l, if_neg (show ¬ oF (cdw T Y) < 15 from l), if_pos (show m1 = -1 from rfl), es, p.2.2.1, nI_sub (by omega), show (6 : Int32) = nI 6 from rfl, ite_len (by omega) (by decide)]
      by_cases l6 : Y.2.2.1 - Y.2.2.2 ≤ 6
      · rw [if_pos l6, if_neg (by omega)]
        exact Sat.of ⟨F1, L1⟩
      · rw [if_neg l6, if_pos (by omega)]
        obtain ⟨g2, e2, F2, L2⟩ := failB (k := 1) (w := Y.2.2.2 + 6) L1.1 w0' (by decide) (by decide)
        rw [nI_add, show (1 : Int32) = nI 1 from rfl, e2, Option.bind_some]
        exact Sat.of ⟨F1.tr F2 (by decide) (by simp) (by simp), L2⟩
  · rw [decide_eq_false y0, if_pos b0, if_pos y0]
    exact Sat.of ⟨F1, L1⟩
/-- an end -/
def xE (n : Nat) (T : Nat → Nat) (X : Xs) : Xs := if X.1 ≠ 0 then X else if byt n T (skp n T X.2.2.1) = 59 then (0, 0, skp n T X.2.2.1 + 1, X.2.2.2) else fl 1 (skp n T X.2.2.1)
theorem xE_dead {n : Nat} {T : Nat → Nat} {X : Xs} (h : X.1 ≠ 0) : xE n T X = X := if_pos h
theorem xE_ok {n : Nat} {T : Nat → Nat} {X : Xs} (h0 : X.1 = 0) (hz : (xE n T X).1 = 0) : xE n T X = (0, 0, skp n T X.2.2.1 + 1, X.2.2.2) := by
  unfold xE at hz ⊢
  rw [if_neg (show ¬ X.1 ≠ 0 from fun z => z h0)] at hz ⊢
  by_cases z : byt n T (skp n T X.2.2.1) = 59
  · rw [if_pos z]
  · rw [if_neg z] at hz
    exact absurd hz flk
theorem byt_59 {n : Nat} {T : Nat → Nat} {i : Nat} (hx : TX n T) (h : byt n T i = 59) : i < n ∧ T i = 59 := by
  unfold byt at h
  by_cases l : i < n
  · have := hx.2 i l
    rw [if_pos l] at h
    exact ⟨l, (nI_eq (b := 59) (by omega) (by decide)).mp h⟩
  · rw [if_neg l] at h
    exact absurd h (by decide)
theorem endA {n : Nat} {T : Nat → Nat} {X : Xs} {g : G} (hx : TX n T) (h : LA n T X g) (h0 : X.1 = 0) (hs : X.2.2.2 ≤ X.2.2.1) :
    Sat (fA_Reader_endStatement g) (fun r => Fr (3502 :: aS) [] w0 g r.2 ∧ LA n T (xE n T X) r.2 ∧ r.1 = bI (decide ((xE n T X).1 = 0)) ∧ ((xE n T X).1 = 0 → r.2.1 3502 = g.1 3502 + 1)) := by
  obtain ⟨hT, hk, h4, _⟩ := h
  obtain ⟨p1, p2, p3, p4, p5⟩ := h4 h0
  have hn := hx.1
  have hs' := skp_all T p2
  unfold fA_Reader_endStatement
  refine (skipA hx hT p2 p3 p4).bind ?_
  rintro g1 ⟨F1, a1, t1⟩
  have T1 := hT.fr F1 (by simp) (by simp)
  have F1' : Fr (3502 :: aS) [] w0 g g1 := F1.wd (by decide) (by simp) (by simp)
  unfold xE
  rw [a1, bytA hx T1 (by omega), Option.bind_some, if_neg (show ¬ X.1 ≠ 0 from fun z => z h0)]
  by_cases z : byt n T (skp n T X.2.2.1) = 59
  · rw [if_pos z, if_pos z, bv_eq, bv_eq, bv_eq]
    obtain ⟨l, t⟩ := byt_59 hx z
    have F' : Fr (3502 :: aS) [] w0 g (sS (sS (sS g1 3506 (nI (skp n T X.2.2.1) + 1)) 3511 0) 3502 (g1.1 3502 + 1)) := ((F1'.sS (by decide)).sS (by decide)).sS (by decide)
    refine Sat.of ⟨F', ⟨hT.fr F' (by decide) (by simp), ⟨Nat.zero_le _, ?_⟩, fun _ => ⟨?_, ?_, ?_, ?_, fun _ => ?_⟩, fun z => absurd rfl z⟩, rfl, fun _ => ?_⟩
    · show g1.1 3500 = nI 0
      rw [F1.1 3500 (by simp), hk.2, h0]
    · show g1.1 3501 = m1
      rw [F1.1 3501 (by simp), p1]
    · show skp n T X.2.2.1 + 1 ≤ n
      omega
    · exact nI_add _ 1
    · show (0 : Int32) = bI (tch n T (skp n T X.2.2.1 + 1))
      rw [tch_no (by omega) (by omega)]
      rfl
    · show g1.1 3507 = nI X.2.2.2
      rw [F1.1 3507 (by simp), p5 hs]
    · show g1.1 3502 + 1 = g.1 3502 + 1
      rw [F1.1 3502 (by simp)]
  · rw [if_neg z, if_neg z]
    obtain ⟨g2, e2, F2, L2⟩ := failA (k := 1) (w := skp n T X.2.2.1) T1 (by decide) (by decide)
    rw [show (1 : Int32) = nI 1 from rfl, e2, Option.bind_some]
    dsimp only
    rw [btz]
    exact Sat.of ⟨F1'.tr F2 (by decide) (by simp) (by simp), L2, rfl, fun z => absurd z flk⟩
theorem endB {n : Nat} {T : Nat → Nat} {X : Xs} {g : G} (hx : TX n T) (h : LQ n T X g) (hs : X.1 = 0 → X.2.2.2 ≤ X.2.2.1) : Sat (fB_M_endsWell g) (fun g' => Fr bS [] w0 g g' ∧ LQ n T (xE n T X) g') := by
  have hn := hx.1
  unfold fB_M_endsWell
  rw [goesB h, Option.bind_some]
  by_cases h0 : X.1 = 0
  · rw [decide_eq_true h0, if_neg b1]
    obtain ⟨hT, hk, h4, _⟩ := h
    obtain ⟨p1, p2, p3, p5⟩ := h4 h0
    have hs' := skp_all T p2
    refine (hereB hx hT p2 p3).bind ?_
    rintro ⟨r, g2⟩ ⟨F2, a2, er⟩
    have F2 : Fr [38] [] w0 g g2 := F2
    have a2 : g2.1 38 = nI (skp n T X.2.2.1) := a2
    have er : r = byt n T (skp n T X.2.2.1) := er
    have T2 := hT.fr F2 (by simp) (by simp)
    dsimp only
    unfold xE
    rw [er, if_neg (show ¬ X.1 ≠ 0 from fun z => z h0)]
    by_cases z : byt n T (skp n T X.2.2.1) = 59
    · rw [if_pos z, if_pos z, bv_eq]
      obtain ⟨l, t⟩ := byt_59 hx z
      have F' : Fr [38] [] w0 g (sS g2 38 (g2.1 38 + 1)) := F2.sS (by simp)
      refine Sat.of ⟨F'.wd (by decide) (by simp) (by simp), hT.fr F' (by simp) (by simp), ⟨Nat.zero_le _, ?_⟩, fun _ => ⟨?_, ?_, ?_, fun _ => ?_⟩, fun z => absurd rfl z⟩
      · rw [F'.1 40 (by simp), hk.2, h0]
      · rw [F'.1 41 (by simp), p1]
      · show skp n T X.2.2.1 + 1 ≤ n
        omega
      · show g2.1 38 + 1 = nI (skp n T X.2.2.1 + 1)
        rw [a2]
        exact nI_add _ 1
      · rw [F'.1 39 (by simp), p5 (hs h0)]
    · rw [if_neg z, if_neg z]
      obtain ⟨g3, e3, F3, L3⟩ := failB (k := 1) (w := skp n T X.2.2.1) T2 (by rw [F2.1 40 (by simp), hk.2, h0]) (by decide) (by decide)
      rw [a2, show (1 : Int32) = nI 1 from rfl, e3, Option.bind_some]
      exact Sat.of ⟨(F2.wd (by decide) (by simp) (by simp)).tr F3 (by decide) (by simp) (by simp), L3⟩
  · rw [decide_eq_false h0, if_pos b0, xE_dead h0]
    exact Sat.of ⟨Fr.rf, h⟩
/-- a number -/
def dv (T : Nat → Nat) (s : Nat) : Nat → Nat
  | 0 => 0
  | i + 1 => 10 * dv T s i + (T (s + i) - 48)
def nd' (n : Nat) (T : Nat → Nat) (s : Nat) : Nat := if bkD n T (s + 1) = true then 2 else 1
def xNu (n : Nat) (T : Nat → Nat) (lo hi : Nat) (X : Xs) : Nat × Xs :=
  if X.1 ≠ 0 then (0, X) else if (tch n T (skp n T X.2.2.1) || !bkD n T (skp n T X.2.2.1)) = true then (0, fl 1 (skp n T X.2.2.1)) else
  if (bkD n T (skp n T X.2.2.1 + 1) && bkD n T (skp n T X.2.2.1 + 2)) = true then (0, fl 1 (skp n T X.2.2.1 + 2)) else
  if lo ≤ dv T (skp n T X.2.2.1) (nd' n T (skp n T X.2.2.1)) ∧ dv T (skp n T X.2.2.1) (nd' n T (skp n T X.2.2.1)) ≤ hi then (dv T (skp n T X.2.2.1) (nd' n T (skp n T X.2.2.1)), (0, 0, skp n T X.2.2.1 + nd' n T (skp n T X.2.2.1), skp n T X.2.2.1)) else (0, fl 2 (skp n T X.2.2.1))
theorem xNu_dead {n : Nat} {T : Nat → Nat} {lo hi : Nat} {X : Xs} (h : X.1 ≠ 0) : xNu n T lo hi X = (0, X) := if_pos h
