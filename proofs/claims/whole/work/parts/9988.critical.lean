/-! THE CALLS: critical -/
def loz (p : Pl) (f : Fl) (c : Nat) : Nat := ant (us p f) (1 <<< c)
def wCr (p : Pl) (f : Fl) (c : Nat) : Nat := ww p (sx2 p f (loz p f c))
def sCr (p : Pl) (f : Fl) (c : Nat) : UInt32 := sco p f (loz p f c)
theorem lozA {p : Pl} {f : Fl} {c : Nat} (hc : c < 8) : (nI (us p f) &&& (((1 : Int32) <<< (nI c &&& 31)) ^^^ (-1)) : Int32) = nI (loz p f c) := by
  have e : ((1 : Int32) <<< (nI c &&& 31)) = nI (1 <<< c) := by
    rw [show (1 : Int32) = nI 1 from rfl, show (31 : Int32) = nI 31 from rfl, n_31 (by omega), n_shl _ (by omega)]
  rw [e]
  exact antA (us_lt p f)
theorem ww_lt {p : Pl} (hw : WP p) (H : Nat → Nat → Nat → Bool) : ww p H < 2 ^ 31 := by
  have := ww_le p H
  have := hw.c
  omega
set_option maxHeartbeats 1000000 in
theorem lossesA {p : Pl} (hw : WP p) {f : Fl} {g : G} (hP : PA p g) (hS : SH p g) (hF : FA p f 2700 27 g) (hSK : SK p g) (hV : VF p f g) :
    Sat (fA_Trial_tryLosses g) (fun g' => Fr tS tT w1 g g' ∧ SK p g' ∧ SA2 (wCr p f) (sCr p f) (sel (fun c => decide (fup f c = 1)) (R3 (wCr p f) (sCr p f)) (pK p)) g') := by
  have h1 := hw.c
  have hK := hSK.1.1
  unfold fA_Trial_tryLosses
  refine (trialA ⟨by omega, by omega⟩ hF).bind ?_
  rintro g1 ⟨F1, A1, x0, _, _, _⟩
  refine (holdA hw (hP.fr F1 (by simp) (by simp)) (hV.fr F1 (by simp)).vv (s := 0) (by decide)).bind ?_
  rintro g2 ⟨F2, H2⟩
  have H2 : HH p 127 (fun _ _ _ => false) g2 := H2.cg (fun t y x => by unfold ob; simp)
  have F12 : Fr tS tT w1 g g2 := (F1.wd (by decide) (by decide) (by simp)).tr F2 (by simp) (by decide) (by simp)
  refine Sat.lp (fun c z => ∃ g', z = (nI c, g') ∧ Fr tS [127, 128, 129, 134, 135, 136] w1 g g' ∧ SK p g' ∧ HH p 127 (fun _ _ _ => false) g' ∧ SA2 (wCr p f) (sCr p f) (sel (fun c => decide (fup f c = 1)) (R3 (wCr p f) (sCr p f)) c) g') (pK p) (by omega) ⟨g2, rfl, (F1.wd (by decide) (by decide) (by simp)).tr F2 (by simp) (by decide) (by simp), (hSK.fr F1 (by simp) (by simp)).fr F2 (by simp) (by simp), H2, ⟨by rw [F2.1 13200 (by simp), x0]; rfl, fun b e => by cases e⟩, fun b e => by cases e⟩ ?_ ?_
  · rintro rec c _ hc ⟨g3, rfl, F3, S3, H3, s3⟩ hrec
    have P3 := hP.fr F3 (by decide) (by decide)
    have V3 := hV.fr F3 (by decide)
    have u3 : g3.1 2700 = nI (us p f) := (F3.1 2700 (by decide)).trans hF.1
    dsimp only
    rw [P3.1.2.2.2.2.2.2.1, if_neg (nI_ge hc (by omega)), isUpA (u := 0) (n := 0) u3 hc (by omega), Option.bind_some, lj_eq, show (nI c + 1 : Int32) = nI (c + 1) from nI_add c 1]
    by_cases uc : fup f c = 1
    · rw [decide_eq_true uc, if_neg b1, u3, lozA (by omega)]
      refine (joinA hw P3 V3.vv (s := loz p f c) (Nat.lt_trans (ant_lt _ _) (by decide)) H3).bind ?_
      rintro g4 ⟨F4, H4⟩
      have H4 : HH p 128 (sx2 p f (loz p f c)) g4 := H4.cg (fun t y x => by rw [Bool.false_or]; rfl)
      have P4 := P3.fr F4 (by simp) (by simp)
      have S4 := S3.fr F4 (by simp) (by simp)
      refine (greaterA hw P4 S4.1.1 ((hS.fr F3 rfl).fr F4 rfl) H4 (W := wCr p f) (S := sCr p f) (sco_f hw (fun _ => f) (fun c => loz p f c)) (fun k => ww_lt hw _) (by omega) (fun b e => by have := (sel_lt e).1; omega) rfl rfl (s3.fr F4 (by simp) rfl)).bind ?_
      rintro g5 ⟨F5, s5⟩
      refine hrec _ ⟨g5, rfl, (F3.tr F4 (by simp) (by simp) (by simp)).tr F5 (by decide) (by simp) (by simp), S4.fr F5 (by simp) (by simp), (H3.fr F4 (by simp)).fr F5 (by simp), ?_⟩
      rw [sel_t (decide_eq_true uc)]
      exact s5
    · rw [decide_eq_false uc, if_pos b0]
      refine hrec _ ⟨g3, rfl, F3, S3, H3, ?_⟩
      rw [sel_f (decide_eq_false uc)]
      exact s3
  · rintro rec _ ⟨g3, rfl, F3, S3, H3, s3⟩
    have P3 := hP.fr F3 (by decide) (by decide)
    dsimp only
    rw [P3.1.2.2.2.2.2.2.1, if_pos (nI_le (Nat.le_refl _) (by omega))]
    exact Sat.of ⟨F3.wd (by decide) (by decide) (by simp), S3, s3⟩
theorem moreB {W : Nat → Nat} {S : Nat → UInt32} (hf : fin32 S) (hWl : ∀ k, W k < 2 ^ 31) {k : Nat} {o : Option Nat} {g : G} (h : SB1 S o g) (ho : ∀ b, o = some b → b < 2 ^ 31) {α : Type} {J : Int32 × Int32 × G → Option α} {P : α → Prop}
    (hJ : ∀ g', Fr [] [] w1 g g' → SB1 S (stp (R3 W S) k o) g' → Sat (J (oN (stp (R3 W S) k o), oW W (stp (R3 W S) k o), g')) P) :
    Sat (if oN o = (-1) then (if oN o = (-1) then (bv (sF g 0 (S k)) fun g14 => J (nI k, nI (W k), g14)) else (if nI (W k) = oW W o then (if (Op.cmpValue (FP.fcmp (S k) (g.2.2.2.1 0)) .l) < 0 then (bv (sF g 0 (S k)) fun g14 => J (nI k, nI (W k), g14)) else J (oN o, oW W o, g)) else (bv (sF g 0 (S k)) fun g14 => J (nI k, nI (W k), g14))))
      else (if oW W o ≤ nI (W k) then (if oN o = (-1) then (bv (sF g 0 (S k)) fun g14 => J (nI k, nI (W k), g14)) else (if nI (W k) = oW W o then (if (Op.cmpValue (FP.fcmp (S k) (g.2.2.2.1 0)) .l) < 0 then (bv (sF g 0 (S k)) fun g14 => J (nI k, nI (W k), g14)) else J (oN o, oW W o, g)) else (bv (sF g 0 (S k)) fun g14 => J (nI k, nI (W k), g14)))) else J (oN o, oW W o, g))) P := by
  have take : ∀ (e : stp (R3 W S) k o = some k), Sat (bv (sF g 0 (S k)) fun g14 => J (nI k, nI (W k), g14)) P := by
    intro e
    rw [bv_eq]
    have := hJ (sF g 0 (S k)) (Fr.rf.sF rfl) (by rw [e]; intro b eb; cases eb; rfl)
    rw [e] at this
    exact this
  have skip : ∀ (e : stp (R3 W S) k o = o), Sat (J (oN o, oW W o, g)) P := by
    intro e
    have := hJ g Fr.rf (by rw [e]; exact h)
    rw [e] at this
    exact this
  cases o with
  | none =>
    rw [if_pos (show oN none = -1 from rfl), if_pos (show oN none = -1 from rfl)]
    exact take rfl
  | some b =>
    have hb := ho b rfl
    have e2 : g.2.2.2.1 0 = S b := h b rfl
    have nb : ¬ oN (some b) = -1 := fun z => (n_ne_m1 hb).mp z
    rw [if_neg nb, if_neg nb, e2, show oW W (some b) = nI (W b) from rfl, ite_len (hWl b) (hWl k), ite_eqn (hWl k) (hWl b)]
    by_cases l : W b ≤ W k
    · rw [if_pos l]
      by_cases l2 : W k = W b
      · rw [if_pos l2]
        by_cases l3 : (S k).toNat < (S b).toNat
        · rw [if_pos ((cmp_lt (hf k) (hf b) _).mpr l3)]
          exact take (if_pos (decide_eq_true (Or.inr ⟨l2, l3⟩)))
        · rw [if_neg (fun z => l3 ((cmp_lt (hf k) (hf b) _).mp z))]
          exact skip (if_neg (fun z => by have := of_decide_eq_true z; omega))
      · rw [if_neg l2]
        exact take (if_pos (decide_eq_true (Or.inl (by omega))))
    · rw [if_neg l]
      exact skip (if_neg (fun z => by have := of_decide_eq_true z; omega))
set_option maxHeartbeats 1000000 in
theorem lossesB {p : Pl} (hw : WP p) {f : Fl} {g : G} (hP : PB p g) (hF : FB p f g) (hWF : WF p f) (hL : LB p f g) {b0' : Nat} (hb0 : sel (fun c => decide (fup f c = 1)) (R3 (wCr p f) (sCr p f)) (pK p) = some b0') (a1 : Int32) :
    Sat (Lp (α := Int32 × Int32 × Int32 × G) (fun rec4 s4 => (if (s4.2.2.2.1 5) ≤ s4.2.2.1 then (if a1 = 0 then some (s4.1, s4.2.2.2) else (if a1 = 1 then some (s4.2.1, s4.2.2.2) else Option.bind (fB_Float_floatToIntBits (s4.2.2.2.2.2.2.1 0) s4.2.2.2) fun x5 => some (x5, s4.2.2.2))) else ag 28 (s4.2.2.2.2.1 20) (4 + s4.2.2.1) fun x6 => lj (α := Int32 × Int32 × G) (fun b7 => rec4 (b7.1, b7.2.1, s4.2.2.1 + 1, b7.2.2)) fun J7 => (if x6 = 0 then J7 (s4.1, s4.2.1, s4.2.2.2) else Option.bind (fB_M_upSet s4.2.2.2) fun x8 => bv (x8 &&& (((1 : Int32) <<< (s4.2.2.1 &&& 31)) ^^^ (-1))) fun x9 => Option.bind (fB_M_worstBy x9 s4.2.2.2) fun x10 => lj (α := Unit) (fun b11 => Option.bind (fB_M_scoreBy x9 x10.2) fun x12 => lj (α := Unit) (fun b13 => bv (sF x10.2 0 x12) fun g14 => J7 (s4.2.2.1, x10.1, g14)) fun J13 => (if s4.1 = (-1) then J13 () else (if x10.1 = s4.2.1 then (if (Op.cmpValue (FP.fcmp x12 (x10.2.2.2.2.1 0)) .l) < 0 then J13 () else J7 (s4.1, s4.2.1, x10.2)) else J13 ()))) fun J11 => (if s4.1 = (-1) then J11 () else (if s4.2.1 ≤ x10.1 then J11 () else J7 (s4.1, s4.2.1, x10.2)))))) FU ((-1), 0, 0, g)) (fun r => Fr [50] [23, 24] w1 g r.2 ∧ r.1 = if a1 = 0 then nI b0' else if a1 = 1 then nI (wCr p f b0') else (sCr p f b0').toInt32) := by
  have h1 := hw.c
  have hfin : fin32 (sCr p f) := sco_f hw (fun _ => f) (fun c => loz p f c)
  refine Sat.lp (fun c z => ∃ g', z = (oN (sel (fun c => decide (fup f c = 1)) (R3 (wCr p f) (sCr p f)) c), oW (wCr p f) (sel (fun c => decide (fup f c = 1)) (R3 (wCr p f) (sCr p f)) c), nI c, g') ∧ Fr [50] [23, 24] w1 g g' ∧ SB1 (sCr p f) (sel (fun c => decide (fup f c = 1)) (R3 (wCr p f) (sCr p f)) c) g') (pK p) (by omega) ⟨g, rfl, Fr.rf, fun b e => by cases e⟩ ?_ ?_
  · rintro rec c _ hc ⟨g1, rfl, F1, s1⟩ hrec
    have P1 := hP.fr F1 (by simp) (by simp)
    have N1 := hF.fr F1 (by simp)
    have L1 := hL.fr F1 (by simp)
    have uc := (N1.2 c hc).1
    have ul := (hWF.2 c hc).2.2
    dsimp only
    rw [P1.1.2.2.2.2.1, if_neg (nI_ge hc (by omega)), show (4 + nI c : Int32) = nI (4 + c) from nI_add 4 c, ag_nI (by omega) (by decide), uc, lj_eq, show (nI c + 1 : Int32) = nI (c + 1) from nI_add c 1]
    by_cases z : fup f c = 1
    · rw [z, if_neg (show ¬ nI 1 = 0 from i10), upSetB hw P1 N1 hWF, Option.bind_some, bv_eq, lozA (by omega)]
      refine (worstByB hw P1 L1 (loz p f c)).bind ?_
      rintro ⟨r, g2⟩ ⟨F2, er⟩
      have F2 : Fr [50] [23, 24] w0 g1 g2 := F2
      have er : r = nI (wCr p f c) := er
      dsimp only
      rw [er, scoreB hw (P1.fr F2 (by simp) (by simp)) (L1.fr F2 (by simp)), Option.bind_some, lj_eq, lj_eq]
      have es : scr p (sx2 p f (loz p f c)) (pY p) = sCr p f c := rfl
      rw [es]
      refine moreB (k := c) (W := wCr p f) (J := fun b7 => rec (b7.1, b7.2.1, nI (c + 1), b7.2.2)) hfin (fun k => ww_lt hw _) (s1.fr F2 rfl) (fun b e => by have := (sel_lt e).1; omega) (fun g3 F3 s3 => ?_)
      exact hrec _ ⟨g3, by rw [sel_t (decide_eq_true z)], (F1.tr F2 (by simp) (by simp) (by simp)).tr F3 (by simp) (by simp) (by simp), by rw [sel_t (decide_eq_true z)]; exact s3⟩
    · have z0 : fup f c = 0 := by omega
      rw [z0, if_pos (show nI 0 = 0 from i00)]
      exact hrec _ ⟨g1, by rw [sel_f (decide_eq_false z)], F1, by rw [sel_f (decide_eq_false z)]; exact s1⟩
  · rintro rec _ ⟨g1, rfl, F1, s1⟩
    have P1 := hP.fr F1 (by simp) (by simp)
    dsimp only
    rw [P1.1.2.2.2.2.1, if_pos (nI_le (Nat.le_refl _) (by omega))]
    rw [hb0] at s1 ⊢
    by_cases z : a1 = 0
    · rw [if_pos z, if_pos z]
      exact Sat.of ⟨F1, rfl⟩
    · rw [if_neg z, if_neg z]
      by_cases z1' : a1 = 1
      · rw [if_pos z1', if_pos z1']
        exact Sat.of ⟨F1, rfl⟩
      · rw [if_neg z1', if_neg z1', s1 b0' rfl, bitsB (hfin b0'), Option.bind_some]
        exact Sat.of ⟨F1, rfl⟩
theorem c_critical {p : Pl} {f : Fl} {gA gB : G} (h : RS p f gA gB) (hA : CA p f gA) (hB : CB p f gB) (a : Int32) : Eq2 (fA_D_critical a gA) (fB_M_critical a gB) := by
  have hl := h.lt
  have no : Eq2 (some ((-1 : Int32), gA)) (some (-1, gB)) := ⟨_, _, _, rfl, rfl, p, f, h, hA, hB⟩
  have ul := us_lt p f
  unfold fA_D_critical fB_M_critical
  have pl : pc (us p f) ≤ 8 := pc_le (us_lt p f) (by decide)
  rw [h.2.2.2.2.1.1, upAllB (by omega) h.2.2.2.1 h.2.2.2.2.2.1 h.2.2.2.2.2.2.1, Option.bind_some]
  by_cases c0 : ∃ c, c < pK p ∧ fup f c = 1
  · obtain ⟨c, hc, uc⟩ := c0
    have hw := h.wp (by omega)
    have u0 : us p f ≠ 0 := by
      intro z
      have := mk_zero.mp z c (by omega)
      rw [decide_eq_true hc, decide_eq_true uc] at this
      exact absurd this (by decide)
    have p0' : pc (us p f) ≠ 0 := by
      intro z
      rw [pc_us (by omega)] at z
      have := cn_zero.mp z c hc
      rw [decide_eq_true uc] at this
      exact absurd this (by decide)
    rw [if_neg (nI_ne0 (by omega) (by omega)), if_neg (nI_ne0 (by omega) (by omega))]
    by_cases ha : rg 3 a
    · obtain ⟨w, hw3, rfl⟩ := ha
      have e2 : ∀ (u z : Option (Int32 × G)), (if nI w < 0 then u else if nI w ≤ 2 then z else u) = z := fun u z => three_t (n := 2) (show w ≤ 2 by omega) (by decide) u z
      rw [inB_t hw3 (by decide) (by decide), Option.bind_some, if_neg i10, e2]
      obtain ⟨g1, e1, F1, Rs, C1, L1, P1, U1⟩ := look2 h hw hA
      obtain ⟨g2, e2, F2, S2, s2⟩ := lossesA hw P1 Rs.2.2.2.2.2.2.2.2.2.2.2.2.2.2.1 Rs.2.2.2.2.1 L1.1 L1.2.1
      obtain ⟨g3, e3, F3, L3, P3, N3, C3⟩ := lays2 h hw hB
      obtain ⟨bb, eb⟩ := sel_some (ok := fun c => decide (fup f c = 1)) (R := R3 (wCr p f) (sCr p f)) (n := pK p) (k := c) hc (decide_eq_true uc)
      obtain ⟨⟨rB, g5⟩, e5, F5, er5⟩ := lossesB hw P3 N3 h.2.2.2.2.2.2.1 L3 eb (nI w)
      have F5 : Fr [50] [23, 24] w1 g3 g5 := F5
      have rel : Rel (sS g2 18 0) g5 := Rel.mk2 h (fresh18 (F1.tr F2 (by decide) (by decide) (by simp))) (F3.tr F5 (by decide) (by decide) (by simp)) (CA.fresh S2) (C3.fr F5 (by simp) (by simp))
      rw [eb] at s2
      have er5 : rB = if nI w = 0 then nI bb else if nI w = 1 then nI (wCr p f bb) else (sCr p f bb).toInt32 := er5
      rw [e1, Option.bind_some, e2, Option.bind_some, bv_eq, e3, Option.bind_some, e5, er5]
      have k1 : (sS g2 18 0).1 13200 = nI bb := s2.1.1
      have k2 : (sS g2 18 0).2.2.2.1 0 = sCr p f bb := s2.1.2 bb rfl
      have k3 : (sS g2 18 0).1 13202 = nI (wCr p f bb) := s2.2 bb rfl
      have sb : lz (sCr p f bb) (pY p * 288) ∧ gz 107 (sCr p f bb) := sco_b hw f (loz p f bb)
      by_cases z : nI w = 0
      · rw [if_pos z, if_pos z, k1]
        exact ⟨_, _, _, rfl, rfl, rel⟩
      · rw [if_neg z, if_neg z]
        by_cases z2 : nI w = 1
        · rw [if_pos z2, if_pos z2, k3]
          exact ⟨_, _, _, rfl, rfl, rel⟩
        · rw [if_neg z2, if_neg z2, k2, floatBitsA (sb.2.nm (by decide)) sb.1.1, Option.bind_some]
          exact ⟨_, _, _, rfl, rfl, rel⟩
    · have e2 : ∀ (u z : Option (Int32 × G)), (if a < 0 then u else if a ≤ 2 then z else u) = u := fun u z => three_f (n := 2) ha (by decide) u z
      rw [inB_f ha (by decide) (by decide), Option.bind_some, if_pos i00, e2]
      exact no
  · have u0 : us p f = 0 := mk_zero.mpr (fun i hi => by
      by_cases l : i < pK p
      · rw [decide_eq_true l, decide_eq_false (fun z => c0 ⟨i, l, z⟩)]
        rfl
      · rw [decide_eq_false l]
        rfl)
    rw [u0, pc_0, if_pos i00, if_pos i00]
    exact no
