/-! THE TEXT: statement by statement -/
def ldA (rec9 : Int32 × G → Option (Int32 × G)) (s9 : Int32 × G) : Option (Int32 × G) := lj (α := G) (fun b10 => Option.bind (fA_Plan_weighCells b10) fun x11 => Option.bind (fA_Plan_findCycle x11) fun x12 => lj (α := G) (fun b13 => some (1, b13)) fun J13 => (if x12.1 = 0 then Option.bind (fA_Tape_size x12.2) fun x14 => Option.bind (fA_Reader_fail 6 x14 x12.2) fun x15 => (if x15.1 = 0 then some (0, x15.2) else J13 x15.2) else J13 x12.2)) fun J10 => (if 1600 ≤ s9.1 then J10 s9.2 else Option.bind (fA_Reader_skipBlanks s9.2) fun x16 => Option.bind (fA_Tape_size x16) fun x17 => (if (x16.1 3506) < x17 then Option.bind (fA_Reader_takeLetters x16) fun x18 => (if x18.1 = 0 then some (0, x18.2) else Option.bind (fA_Words_of 3 x18.2) fun x19 => lj (α := Int32 × G) (fun b20 => (if b20.1 = 0 then some (0, b20.2) else rec9 (s9.1 + 1, b20.2))) fun J20 => (if (x18.2.1 3508) = x19 then Option.bind (fA_Reader_readPlane x18.2) fun x26 => J20 (x26.1, x26.2) else Option.bind (fA_Words_of 7 x18.2) fun x21 => (if (x18.2.1 3508) = x21 then Option.bind (fA_Reader_readCraft x18.2) fun x25 => J20 (x25.1, x25.2) else Option.bind (fA_Words_of 11 x18.2) fun x22 => (if (x18.2.1 3508) = x22 then Option.bind (fA_Reader_readSite x18.2) fun x24 => J20 (x24.1, x24.2) else Option.bind (fA_Reader_fail 1 (x18.2.1 3507) x18.2) fun x23 => J20 (x23.1, x23.2))))) else J10 x16))
def ldB (rec11 : Int32 × G → Option (Int32 × G)) (s11 : Int32 × G) : Option (Int32 × G) := Option.bind (fB_M_goes s11.2) fun x12 => lj (α := G) (fun b13 => Option.bind (fB_M_goes b13) fun x14 => (if x14 = 0 then some (s11.1, b13) else Option.bind (fB_M_readCycle b13) fun x15 => (if x15 ≤ 240 then some (s11.1, b13) else Option.bind (fB_M_fails 6 (b13.1 37) b13) fun x16 => some (s11.1, x16)))) fun J13 => (if x12 = 0 then J13 s11.2 else Option.bind (fB_M_here s11.2) fun x17 => (if x17.1 = (-1) then J13 x17.2 else Option.bind (fB_M_word x17.2) fun x18 => Option.bind (fB_M_goes x18) fun x19 => lj (α := Int32) (fun b20 => lj (α := G) (fun b21 => Option.bind (fB_M_endsWell b21) fun x22 => rec11 (s11.1 + 1, x22)) fun J21 => (if b20 = 3 then Option.bind (fB_M_readsPlane x18) fun x26 => J21 x26 else (if b20 = 7 then Option.bind (fB_M_readsCraft x18) fun x25 => J21 x25 else (if b20 = 11 then Option.bind (fB_M_readsSite x18) fun x24 => J21 x24 else Option.bind (fB_M_fails 1 (x18.1 39) x18) fun x23 => J21 x23)))) fun J20 => (if x19 = 0 then J20 (-1) else Option.bind (fB_M_own x18) fun x27 => J20 x27)))
theorem read_eq (g : G) : fA_Reader_read g = bv (sS g 3500 0) fun g1 => bv (sS g1 3501 (-1)) fun g2 => bv (sS g2 3502 0) fun g3 => bv (sS g3 3506 0) fun g4 => bv (sS g4 3511 0) fun g5 => Option.bind (fA_Plan_clear g5) fun x6 => Option.bind (fA_Fleet_clear x6) fun x7 => Option.bind (fA_Reader_readGrid x7) fun x8 => (if x8.1 = 0 then some (0, x8.2) else  Lp ldA FU (0, x8.2)) := rfl
theorem reads_eq (g : G) : fB_M_readsAll g = bv (sS g 21 0) fun g1 => bv (sS g1 22 0) fun g2 => bv (sS g2 23 0) fun g3 => Option.bind (fB_M_told 0 4 24 g3) fun x4 => bv (sS x4.2 18 x4.1) fun g5 => Option.bind (fB_M_told 1 3 12 g5) fun x6 => bv (sS x6.2 19 x6.1) fun g7 => Option.bind (fB_M_told 2 2 96 g7) fun x8 => bv (sS x8.2 20 x8.1) fun g9 => Option.bind (fB_M_endsWell g9) fun x10 =>  Lp ldB FU (1, x10) := rfl
theorem xE_al {n : Nat} {T : Nat → Nat} {X : Xs} (h : (xE n T X).1 = 0) : X.1 = 0 := by
  apply Classical.byContradiction
  intro z
  rw [xE_dead z] at h
  exact z h
/-- where the last number began -/
theorem xNu_se {n : Nat} {T : Nat → Nat} {lo hi : Nat} {X : Xs} (hz : (xNu n T lo hi X).2.1 = 0) : (xNu n T lo hi X).2.2.2.2 ≤ (xNu n T lo hi X).2.2.2.1 := by
  have h := xNu_al hz
  cases ht : tch n T (skp n T X.2.2.1)
  · cases hd : bkD n T (skp n T X.2.2.1)
    · rw [xNu_0 h (by rw [hd, Bool.not_false, Bool.or_true])] at hz
      exact absurd hz (by show ¬ (1 : Nat) = 0; decide)
    · by_cases h1 : (bkD n T (skp n T X.2.2.1 + 1) && bkD n T (skp n T X.2.2.1 + 2)) = true
      · rw [Bool.and_eq_true] at h1
        rw [xNu_1 h ht hd h1.1 h1.2] at hz
        exact absurd hz (by show ¬ (1 : Nat) = 0; decide)
      · rw [xNu_2 h ht hd h1] at hz ⊢
        by_cases r : lo ≤ dv T (skp n T X.2.2.1) (nd' n T (skp n T X.2.2.1)) ∧ dv T (skp n T X.2.2.1) (nd' n T (skp n T X.2.2.1)) ≤ hi
        · rw [if_pos r]
          exact Nat.le_add_right _ _
        · rw [if_neg r] at hz
          exact absurd hz (by show ¬ (2 : Nat) = 0; decide)
  · rw [xNu_0 h (by rw [ht, Bool.true_or])] at hz
    exact absurd hz (by show ¬ (1 : Nat) = 0; decide)
theorem DA.frW {p : Pl} {f : Fl} {g g' : G} (h : DA p f g) (hf : Fr [1504] [16] w0 g g') : DA p f g' := by
  obtain ⟨h1, h2, h3, h4, h5⟩ := h
  unfold DA
  rw [hf.1 1500 (by simp), hf.1 1501 (by simp), hf.1 1502 (by simp), hf.1 1505 (by simp), hf.1 1506 (by simp), hf.1 1507 (by simp), hf.2.1 17 (by simp), hf.2.1 18 (by simp), hf.2.1 19 (by simp), hf.2.1 20 (by simp), hf.2.1 21 (by simp), hf.2.1 22 (by simp), hf.2.1 23 (by simp), hf.2.1 24 (by simp), hf.2.1 25 (by simp), hf.2.1 26 (by simp)]
  exact ⟨h1, h2, h3, h4, h5.fr hf (by simp) (by simp)⟩
theorem DA.frW4 {p : Pl} {f : Fl} {g g' : G} (h : DA p f g) (hf : Fr [1503] [] w0 g g') : DA p f g' := by
  obtain ⟨h1, h2, h3, h4, h5⟩ := h
  unfold DA
  rw [hf.1 1500 (by simp), hf.1 1501 (by simp), hf.1 1502 (by simp), hf.1 1505 (by simp), hf.1 1506 (by simp), hf.1 1507 (by simp), hf.2.1 17 (by simp), hf.2.1 18 (by simp), hf.2.1 19 (by simp), hf.2.1 20 (by simp), hf.2.1 21 (by simp), hf.2.1 22 (by simp), hf.2.1 23 (by simp), hf.2.1 24 (by simp), hf.2.1 25 (by simp), hf.2.1 26 (by simp)]
  exact ⟨h1, h2, h3, h4, h5.fr hf (by simp) (by simp)⟩
def lSA : List Nat := [3100, 3500, 3501, 3502, 3506, 3507, 3508, 3509, 3510, 3511, 1500, 1501, 1502, 1503, 1504, 1505, 1506, 1507]
def lTA : List Nat := [32, 33, 34, 16, 17, 18, 19, 20, 21, 22, 23, 24, 25, 26]
def lSB : List Nat := [18, 19, 20, 21, 22, 23, 38, 39, 40, 41]
def lTB : List Nat := [9, 10, 11, 12, 13, 14, 15, 16]
/-- how a text was read -/
def RD (n : Nat) (T : Nat → Nat) (gA gB : G) (rA : Int32) (gA' : G) (rB : Int32) (gB' : G) : Prop :=
  Fr lSA lTA w0 gA gA' ∧ Fr lSB lTB w0 gB gB' ∧ ∃ Z : Xs, LA n T Z gA' ∧ LQ n T Z gB' ∧ rA = bI (decide (Z.1 = 0)) ∧ (Z.1 = 0 → ∃ p f, DW p f ∧ DA p f gA' ∧ DB p f gB' ∧ gA'.1 3502 = rB ∧ gA'.1 1504 = nI (al p) ∧ (∀ y, y < pR p → gA'.2.1 16 y = nI (wd p y)) ∧ gA'.1 1503 = nI (cyc p (pP p)) ∧ cyc p (pP p) ≤ 240)
def E2 (n : Nat) (T : Nat → Nat) (gA gB : G) (oA oB : Option (Int32 × G)) : Prop := ∃ rA gA' rB gB', oA = some (rA, gA') ∧ oB = some (rB, gB') ∧ RD n T gA gB rA gA' rB gB'
theorem deadB {n : Nat} {T : Nat → Nat} {Z : Xs} {g : G} (h : LQ n T Z g) (d : Z.1 ≠ 0) (k : Int32) (fb : Nat) : Lp ldB (fb + 1) (k, g) = some (k, g) := by
  rw [Sat_lp_same]
  unfold ldB
  dsimp only
  rw [goesB h, Option.bind_some, lj_eq, decide_eq_false d, if_pos b0]
  dsimp only
  rw [goesB h, Option.bind_some, decide_eq_false d, if_pos b0]
theorem oI_eq {c k : Nat} (hk : k < 15) : (oI c = nI k) ↔ c = ocd k := by
  unfold oI
  by_cases l : oF c < 15
  · rw [if_pos l, nI_eq (by omega) (by omega)]
    exact oF_eq hk
  · rw [if_neg l]
    constructor
    · intro z
      exact absurd z (fun z => (m1_ne_n (a := k) (by omega)).mp z)
    · intro z
      exact absurd ((oF_eq hk).mpr z) (fun z => l (by omega))
theorem ob_ne {k : Nat} (hk : k < 15) : ¬ ((-1 : Int32) = nI k) := fun z => (m1_ne_n (a := k) (by omega)).mp z
set_option maxHeartbeats 4000000 in
theorem loop2 {n : Nat} {T : Nat → Nat} (hx : TX n T) {gA0' gB0' : G} : ∀ (m fa fb i k : Nat) (X : Xs) (p : Pl) (f : Fl) (gA gB : G), n - X.2.2.1 ≤ m → m + 1 < fa → m + 1 < fb → i < X.2.2.1 → X.1 = 0 → X.2.2.2 ≤ X.2.2.1 → LA n T X gA → LQ n T X gB → DA p f gA → DB p f gB → DW p f → gB.2.1 19 = gB0.2.1 19 → gA.1 3502 = nI k →
    Fr lSA lTA w0 gA0' gA → Fr lSB lTB w0 gB0' gB → E2 n T gA0' gB0' (Lp ldA fa (nI i, gA)) (Lp ldB fb (nI k, gB)) := by
  intro m
  induction m with
  | zero => ?_
  | succ m ih => ?_
  all_goals
    intro fa fb i k X p f gA gB hm hfa hfb hi h0 hs hLA hLQ hDA hDB hDW hO hk FA0 FB0
    obtain ⟨fa, rfl⟩ : ∃ j, fa = j + 1 := ⟨fa - 1, by omega⟩
    obtain ⟨fb, rfl⟩ : ∃ j, fb = j + 1 := ⟨fb - 1, by omega⟩
    have hn := hx.1
    have bb := hDW.1
    obtain ⟨hT, hkk, h4, _⟩ := id hLA
    obtain ⟨p1, p2, p3, p4, p5⟩ := h4 h0
    obtain ⟨qT, qkk, q4, _⟩ := id hLQ
    obtain ⟨q1, q2, q3, q5⟩ := q4 h0
    have hsk := skp_all T p2
    rw [Sat_lp_same, Sat_lp_same]
    unfold ldA ldB
    dsimp only
    rw [lj_eq, if_neg (show ¬ 1600 ≤ nI i from nI_ge (b := 1600) (by omega) (by decide))]
    obtain ⟨g1, e1, F1, a1, t1⟩ := skipA hx hT p2 p3 p4
    obtain ⟨⟨r2, g2⟩, e2, F2, a2, er2⟩ := hereB hx qT q2 q3
    have F2 : Fr [38] [] w0 gB g2 := F2
    have a2 : g2.1 38 = nI (skp n T X.2.2.1) := a2
    have er2 : r2 = byt n T (skp n T X.2.2.1) := er2
    have T1 := hT.fr F1 (by simp) (by simp)
    have Q2 := qT.fr F2 (by simp) (by simp)
    rw [e1, Option.bind_some, sizeA T1, Option.bind_some, a1, goesB hLQ, Option.bind_some, lj_eq, decide_eq_true h0, if_neg b1, e2, Option.bind_some]
    dsimp only
    obtain ⟨s, es⟩ : ∃ s, s = skp n T X.2.2.1 := ⟨_, rfl⟩
    rw [← es] at a1 t1 a2 er2 hsk ⊢
    obtain ⟨X', eX⟩ : ∃ X' : Xs, X' = (0, 0, s, X.2.2.2) := ⟨_, rfl⟩
    have x1 : X'.1 = 0 := by rw [eX]
    have x3 : X'.2.2.1 = s := by rw [eX]
    have x4 : X'.2.2.2 = X.2.2.2 := by rw [eX]
    have L1 : LA n T X' g1 := by
      rw [eX]
      exact ⟨T1, ⟨Nat.zero_le _, by rw [F1.1 3500 (by simp), hkk.2, h0]⟩, fun _ => ⟨by rw [F1.1 3501 (by simp), p1], hsk.2, a1, t1, fun _ => by rw [F1.1 3507 (by simp), p5 hs]⟩, fun z => absurd rfl z⟩
    have M2 : LQ n T X' g2 := by
      rw [eX]
      exact ⟨Q2, ⟨Nat.zero_le _, by rw [F2.1 40 (by simp), qkk.2, h0]⟩, fun _ => ⟨by rw [F2.1 41 (by simp), q1], hsk.2, a2, fun _ => by rw [F2.1 39 (by simp), q5 hs]⟩, fun z => absurd rfl z⟩
    have FA1 : Fr lSA lTA w0 gA0' g1 := FA0.tr F1 (by decide) (by simp) (by simp)
    have FB2 : Fr lSB lTB w0 gB0' g2 := FB0.tr F2 (by decide) (by simp) (by simp)
    have D1 : DA p f g1 := hDA.fr F1 (by simp) (by simp)
    have D2 : DB p f g2 := hDB.fr F2 (by simp) (by simp)
    have O2 : g2.2.1 19 = gB0.2.1 19 := (F2.2.1 19 (by simp)).trans hO
    have k1 : g1.1 3502 = nI k := (F1.1 3502 (by simp)).trans hk
    rw [er2]
    by_cases hsn : s < n
    · rw [if_pos (nI_lt hsn (by omega)), if_neg (show ¬ byt n T s = -1 by unfold byt; rw [if_pos hsn]; exact fun z => (n_ne_m1 (by have := hx.2 s hsn; omega)).mp z)]
      obtain ⟨⟨r3, g3⟩, e3, F3, L3, er3, w3⟩ := lettersA hx L1 x1
      obtain ⟨g4, e4, F4, L4⟩ := wordB hx M2
      have F3 : Fr aW [] w0 g1 g3 := F3
      have er3 : r3 = bI (decide ((xW n T X').1 = 0)) := er3
      dsimp only at L3 w3
      obtain ⟨Y, eY⟩ : ∃ Y, Y = xW n T X' := ⟨_, rfl⟩
      rw [← eY] at L3 w3 er3 L4
      have FA3 : Fr lSA lTA w0 gA0' g3 := FA1.tr F3 (by decide) (by simp) (by simp)
      have FB4 : Fr lSB lTB w0 gB0' g4 := FB2.tr F4 (by decide) (by simp) (by simp)
      have D3 : DA p f g3 := D1.fr F3 (by decide) (by simp)
      have D4 : DB p f g4 := D2.fr F4 (by decide) (by simp)
      have O4 : g4.2.1 19 = gB0.2.1 19 := (F4.2.1 19 (by simp)).trans O2
      have k3 : g3.1 3502 = nI k := (F3.1 3502 (by decide)).trans k1
      rw [e3, e4, Option.bind_some, Option.bind_some, goesB L4, Option.bind_some, lj_eq]
      dsimp only
      rw [er3]
      have cont : ∀ (Z : Xs) (p' : Pl) (f' : Fl) (g5 g6 : G), LA n T Z g5 → LQ n T Z g6 → Fr lSA lTA w0 gA0' g5 → Fr lSB lTB w0 gB0' g6 → (Z.1 = 0 → DA p' f' g5 ∧ DB p' f' g6 ∧ DW p' f' ∧ g6.2.1 19 = gB0.2.1 19 ∧ g5.1 3502 = nI (k + 1) ∧ X.2.2.1 < Z.2.2.1 ∧ Z.2.2.2 ≤ Z.2.2.1) →
          E2 n T gA0' gB0' (if bI (decide (Z.1 = 0)) = 0 then some ((0 : Int32), g5) else Lp ldA fa (nI i + 1, g5)) (Lp ldB fb (nI k + 1, g6)) := by
        intro Z p' f' g5 g6 L5 L6 F5 F6 hz
        obtain ⟨fb, rfl⟩ : ∃ j, fb = j + 1 := ⟨fb - 1, by omega⟩
        by_cases z : Z.1 = 0
        · rw [decide_eq_true z, if_neg b1, show (nI i + 1 : Int32) = nI (i + 1) from nI_add i 1, show (nI k + 1 : Int32) = nI (k + 1) from nI_add k 1]
          obtain ⟨z1, z2, z3, z4, z5, z6, z7⟩ := hz z
          have zn := (L5.2.2.1 z).2.1
          first
          | exact ih fa (fb + 1) (i + 1) (k + 1) Z p' f' g5 g6 (by omega) (by omega) (by omega) (by omega) z z7 L5 L6 z1 z2 z3 z4 z5 F5 F6
          | exact absurd hm (by omega)
        · rw [decide_eq_false z, if_pos b0, deadB L6 z]
          exact ⟨_, _, _, _, rfl, rfl, F5, F6, Z, L5, L6, by rw [decide_eq_false z]; rfl, fun y => absurd y z⟩
      by_cases y0 : Y.1 = 0
      · rw [decide_eq_true y0, if_neg b1, if_neg b1]
        have wo := xW_wo (n := n) (T := T) x1 (by rw [x3]; exact hsk.2) (by rw [← eY]; exact y0)
        rw [← eY, x3] at wo
        have hWo := wo.1
        have wlt := hWo.1
        have p4' := L4.2.2.1 y0
        have s4 := p4'.2.2.2 (Nat.le_of_lt hWo.1)
        have cl : cdw T Y < 2 ^ 30 := pkN_lt (fun i _ => hWo.b i)
        have l3 := ocd_lt (k := 3) (by decide)
        have l7 := ocd_lt (k := 7) (by decide)
        have l11 := ocd_lt (k := 11) (by decide)
        rw [wordsOf (k := 3) (by decide), Option.bind_some, lj_eq, (w3 y0).1, ite_eqn (by omega) (by omega), wordsOf (k := 7) (by decide), Option.bind_some, ite_eqn (by omega) (by omega), wordsOf (k := 11) (by decide), Option.bind_some, ite_eqn (by omega) (by omega), ownB hx L4.1 O4 hWo s4 p4'.2.2.1, Option.bind_some, lj_eq]
        rw [show pkN (wl T Y.2.2.2 Y.2.2.1) = cdw T Y from rfl]
        by_cases c3 : cdw T Y = ocd 3
        · rw [if_pos c3, if_pos (show oI (cdw T Y) = 3 from (oI_eq (k := 3) (by decide)).mpr c3)]
          obtain ⟨⟨r5, g5⟩, e5, F5, L5, er5, h5⟩ := planeA hx L3 y0 (Nat.le_of_lt hWo.1) D3 hDW
          obtain ⟨g6, e6, F6, L6, h6⟩ := planeB hx L4 y0 (Nat.le_of_lt hWo.1) O4 D4 hDW
          obtain ⟨g7, e7, F7, L7⟩ := endB hx L6 (fun z => by
            have e : xP3 n T p Y = xNu n T 2 96 (xM n T 6 (xP2 n T p Y).2) := rfl
            rw [e] at z ⊢
            exact xNu_se z)
          have F5 : Fr (1505 :: 3502 :: aS) [17, 18, 19, 32] w0 g3 g5 := F5
          have L5 : LA n T (xE n T (xP3 n T p Y).2) g5 := L5
          have er5 : r5 = bI (decide ((xE n T (xP3 n T p Y).2).1 = 0)) := er5
          rw [e5, Option.bind_some, e6, Option.bind_some]
          dsimp only at h5 ⊢
          rw [e7, Option.bind_some, er5]
          refine cont _ (plP n T p Y) (plF n T p f Y) g5 g7 L5 L7 (FA3.tr F5 (by decide) (by decide) (by simp)) ((FB4.tr F6 (by decide) (by decide) (by simp)).tr F7 (by decide) (by simp) (by simp)) (fun z => ?_)
          have z6 : (xP3 n T p Y).2.1 = 0 := xE_al z
          obtain ⟨j1, j2, j3, j4, j5⟩ := h5 z
          exact ⟨j1, (h6 z6).fr F7 (by decide) (by simp), j2, (F7.2.1 19 (by simp)).trans ((F6.2.1 19 (by simp)).trans O4), by rw [j5, k3]; exact nI_add k 1, by omega, j4⟩
        · rw [if_neg c3, if_neg (show ¬ oI (cdw T Y) = 3 from fun z => c3 ((oI_eq (k := 3) (by decide)).mp z))]
          by_cases c7 : cdw T Y = ocd 7
          · rw [if_pos c7, if_pos (show oI (cdw T Y) = 7 from (oI_eq (k := 7) (by decide)).mpr c7)]
            obtain ⟨⟨r5, g5⟩, e5, F5, L5, er5, h5⟩ := craftRA hx L3 y0 (Nat.le_of_lt hWo.1) D3 hDW
            obtain ⟨g6, e6, F6, L6, h6⟩ := craftRB hx L4 y0 (Nat.le_of_lt hWo.1) O4 D4 hDW
            obtain ⟨g7, e7, F7, L7⟩ := endB hx L6 (fun z => by
              have e : xC4 n T p Y = xNu n T 0 12 (xM n T 10 (xC3 n T p Y).2) := rfl
              rw [e] at z ⊢
              exact xNu_se z)
            have F5 : Fr (3100 :: 1506 :: 3502 :: aS) [20, 21, 33, 34] w0 g3 g5 := F5
            have L5 : LA n T (xE n T (xC4 n T p Y).2) g5 := L5
            have er5 : r5 = bI (decide ((xE n T (xC4 n T p Y).2).1 = 0)) := er5
            rw [e5, Option.bind_some, e6, Option.bind_some]
            dsimp only at h5 ⊢
            rw [e7, Option.bind_some, er5]
            refine cont _ (crP n T p Y) (crF n T p f Y) g5 g7 L5 L7 (FA3.tr F5 (by decide) (by decide) (by simp)) ((FB4.tr F6 (by decide) (by decide) (by simp)).tr F7 (by decide) (by simp) (by simp)) (fun z => ?_)
            have z6 : (xC4 n T p Y).2.1 = 0 := xE_al z
            obtain ⟨j1, j2, j3, j4, j5⟩ := h5 z
            exact ⟨j1, (h6 z6).fr F7 (by decide) (by simp), j2, (F7.2.1 19 (by simp)).trans ((F6.2.1 19 (by simp)).trans O4), by rw [j5, k3]; exact nI_add k 1, by omega, j4⟩
          · rw [if_neg c7, if_neg (show ¬ oI (cdw T Y) = 7 from fun z => c7 ((oI_eq (k := 7) (by decide)).mp z))]
            by_cases c11 : cdw T Y = ocd 11
            · rw [if_pos c11, if_pos (show oI (cdw T Y) = 11 from (oI_eq (k := 11) (by decide)).mpr c11)]
              obtain ⟨⟨r5, g5⟩, e5, F5, L5, er5, h5⟩ := siteRA hx L3 y0 (Nat.le_of_lt hWo.1) D3 hDW
              obtain ⟨g6, e6, F6, L6, h6⟩ := siteRB hx L4 y0 (Nat.le_of_lt hWo.1) O4 D4 hDW
              obtain ⟨g7, e7, F7, L7⟩ := endB hx L6 (fun z => by
                have e : xS4 n T p Y = xNu n T ((xS3 n T p Y).1 + 1) (pD p) (xM n T 14 (xS3 n T p Y).2) := rfl
                rw [e] at z ⊢
                exact xNu_se z)
              have F5 : Fr (1507 :: 3502 :: aS) [22, 23, 24, 25, 26] w0 g3 g5 := F5
              have L5 : LA n T (xE n T (xS4 n T p Y).2) g5 := L5
              have er5 : r5 = bI (decide ((xE n T (xS4 n T p Y).2).1 = 0)) := er5
              rw [e5, Option.bind_some, e6, Option.bind_some]
              dsimp only at h5 ⊢
              rw [e7, Option.bind_some, er5]
              refine cont _ (siP n T p Y) f g5 g7 L5 L7 (FA3.tr F5 (by decide) (by decide) (by simp)) ((FB4.tr F6 (by decide) (by decide) (by simp)).tr F7 (by decide) (by simp) (by simp)) (fun z => ?_)
              have z6 : (xS4 n T p Y).2.1 = 0 := xE_al z
              obtain ⟨j1, j2, j3, j4, j5⟩ := h5 z
              exact ⟨j1, (h6 z6).fr F7 (by decide) (by simp), j2, (F7.2.1 19 (by simp)).trans ((F6.2.1 19 (by simp)).trans O4), by rw [j5, k3]; exact nI_add k 1, by omega, j4⟩
            · rw [if_neg c11, if_neg (show ¬ oI (cdw T Y) = 11 from fun z => c11 ((oI_eq (k := 11) (by decide)).mp z))]
              have s3 := (L3.2.2.1 y0).2.2.2.2 (Nat.le_of_lt hWo.1)
              obtain ⟨g5, e5, F5, L5⟩ := failA (k := 1) (w := Y.2.2.2) L3.1 (by decide) (by decide)
              obtain ⟨g6, e6, F6, L6⟩ := failB (k := 1) (w := Y.2.2.2) L4.1 (by rw [L4.2.1.2, y0]) (by decide) (by decide)
              have d : (fl 1 Y.2.2.2).1 ≠ 0 := by show ¬ (1 : Nat) = 0; decide
              obtain ⟨g7, e7, F7, L7⟩ := endB hx L6 (fun z => absurd z d)
              rw [s3, s4, show (1 : Int32) = nI 1 from rfl, e5, e6, Option.bind_some, Option.bind_some]
              dsimp only
              rw [e7, Option.bind_some]
              rw [xE_dead d] at L7
              have := cont (fl 1 Y.2.2.2) p f g5 g7 L5 L7 (FA3.tr F5 (by decide) (by simp) (by simp)) ((FB4.tr F6 (by decide) (by simp) (by simp)).tr F7 (by decide) (by simp) (by simp)) (fun z => absurd z d)
              rw [decide_eq_false d] at this
              exact this
      · rw [decide_eq_false y0, if_pos b0, if_pos b0, lj_eq, if_neg (show ¬ (-1 : Int32) = 3 from ob_ne (k := 3) (by decide)), if_neg (show ¬ (-1 : Int32) = 7 from ob_ne (k := 7) (by decide)), if_neg (show ¬ (-1 : Int32) = 11 from ob_ne (k := 11) (by decide))]
        have ff : fB_M_fails 1 (g4.1 39) g4 = some g4 := by
          unfold fB_M_fails
          have := L4.2.1.1
          rw [L4.2.1.2, if_neg (nI_ne0 (by omega) (by omega))]
        obtain ⟨g7, e7, F7, L7⟩ := endB hx L4 (fun z => absurd z y0)
        rw [xE_dead y0] at L7
        rw [ff, Option.bind_some]
        dsimp only
        rw [e7, Option.bind_some]
        have := cont Y p f g3 g7 L3 L7 FA3 (FB4.tr F7 (by decide) (by simp) (by simp)) (fun z => absurd z y0)
        rw [decide_eq_false y0, if_pos b0] at this
        exact this
    · rw [if_neg (nI_nlt (by omega) (by omega)), if_pos (show byt n T s = -1 by unfold byt; rw [if_neg hsn]; rfl)]
      obtain ⟨g3, e3, F3, w3, v3⟩ := weighA D1 hDW
      have D3 : DA p f g3 := D1.frW F3
      obtain ⟨⟨r4, g4⟩, e4, F4, c4, er4⟩ := cycleA D3 hDW
      have F4 : Fr [1503] [] w0 g3 g4 := F4
      have c4 : g4.1 1503 = nI (cyc p (pP p)) := c4
      have er4 : r4 = bI (decide (cyc p (pP p) ≤ 240)) := er4
      have FA4 : Fr lSA lTA w0 gA0' g4 := (FA1.tr F3 (by decide) (by decide) (by simp)).tr F4 (by decide) (by simp) (by simp)
      have F14 : Fr [1503, 1504] [16] w0 g1 g4 := (F3.wd (by simp) (by simp) (by simp)).tr F4 (by simp) (by simp) (by simp)
      have L4 : LA n T X' g4 := L1.fr F14 (by simp) (by simp)
      have cb := cyc_b hDW (pP p) (Nat.le_refl _)
      rw [e3, Option.bind_some, e4, Option.bind_some, lj_eq, goesB M2, Option.bind_some, decide_eq_true x1, if_neg b1, cycleB D2 hDW, Option.bind_some, show (240 : Int32) = nI 240 from rfl, ite_len (by omega) (by decide)]
      dsimp only
      rw [er4]
      by_cases l : cyc p (pP p) ≤ 240
      · rw [decide_eq_true l, if_neg b1, if_pos l]
        refine ⟨_, _, _, _, rfl, rfl, FA4, FB2, X', L4, M2, by rw [decide_eq_true x1]; rfl, fun _ => ⟨p, f, hDW, D3.frW4 F4, D2, ?_, ?_, ?_, c4, l⟩⟩
        · rw [F14.1 3502 (by simp), k1]
        · rw [F4.1 1504 (by simp), w3]
        · intro y hy
          rw [F4.2.1 16 (by simp)]
          exact v3 y hy
      · rw [decide_eq_false l, if_pos b0, if_neg l]
        obtain ⟨g5, e5, F5, L5⟩ := failA (k := 6) (w := n) L4.1 (by decide) (by decide)
        obtain ⟨g6, e6, F6, L6⟩ := failB (k := 6) (w := n) M2.1 (by rw [M2.2.1.2, x1]) (by decide) (by decide)
        rw [sizeA L4.1, Option.bind_some, M2.1.1, show (6 : Int32) = nI 6 from rfl, e5, e6, Option.bind_some, Option.bind_some]
        dsimp only
        rw [if_pos rfl]
        have d : (fl 6 n).1 ≠ 0 := by show ¬ (6 : Nat) = 0; decide
        exact ⟨_, _, _, _, rfl, rfl, FA4.tr F5 (by decide) (by simp) (by simp), FB2.tr F6 (by decide) (by simp) (by simp), fl 6 n, L5, L6, rfl, fun z => absurd z d⟩
