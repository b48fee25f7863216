/-! THE CALLS: best, the model, and both -/
theorem two_t {a : Nat} (ha : a ≤ 1) {α : Type} (u z : α) : (if nI a < 0 then u else if nI a ≤ 1 then z else u) = z := three_t (n := 1) ha (by decide) u z
theorem two_f {b : Int32} (hb : ¬ rg 2 b) {α : Type} (u z : α) : (if b < 0 then u else if b ≤ 1 then z else u) = u := three_f (n := 1) hb (by decide) u z
set_option maxHeartbeats 1000000 in
theorem bestB {p : Pl} (hw : WP p) {f : Fl} {g : G} (hP : PB p g) (hF : FB p f g) (hWF : WF p f) (hL : LB p f g) {c : Nat} (hc : c < pK p) (a2 : Int32) :
    Sat (Lp (α := Int32 × Int32 × G) (fun rec5 s5 => Option.bind (fB_M_turnOf (nI c) s5.2.2) fun x6 => (if x6 ≤ s5.2.1 then ck 28 (12 + (nI c)) (bv (sA s5.2.2 20 (12 + (nI c) : Int32).toNatClampNeg (nI (fph f c))) fun g7 => Option.bind (fB_M_laysOne (nI c) g7) fun x8 => (if a2 = 0 then some (s5.1, x8) else Option.bind (fB_Float_floatToIntBits (x8.2.2.2.1 0) x8) fun x9 => some (x9, x8))) else ck 28 (12 + (nI c)) (bv (sA s5.2.2 20 (12 + (nI c) : Int32).toNatClampNeg s5.2.1) fun g10 => Option.bind (fB_M_laysOne (nI c) g10) fun x11 => Option.bind (fB_M_upSet x11) fun x12 => Option.bind (fB_M_scoreBy x12 x11) fun x13 => lj (α := Int32 × G) (fun b14 => rec5 (b14.1, s5.2.1 + 1, b14.2)) fun J14 => lj (α := Unit) (fun b15 => bv (sF x11 0 x13) fun g16 => J14 (s5.2.1, g16)) fun J15 => (if s5.1 = (-1) then J15 () else (if 0 < (Op.cmpValue (FP.fcmp x13 (x11.2.2.2.1 0)) .g) then J15 () else J14 (s5.1, x11)))))) FU ((-1), 0, g)) (fun r => Fr [] [22] w1 g r.2 ∧ LB p f r.2 ∧ r.1 = if a2 = 0 then oN (sel (fun _ => true) (R1 (sBe p f c)) (tu p (hm p c))) else match sel (fun _ => true) (R1 (sBe p f c)) (tu p (hm p c)) with | none => 0 | some b => (sBe p f c b).toInt32) := by
  have h1 := hw.c
  have hq := hw.q (hw.h hc)
  have hfin : fin32 (sBe p f c) := sco_f hw (fun k => aPh f c k) (fun _ => us p f)
  obtain ⟨Q, hQ⟩ : ∃ Q : Int32 × G → Prop, Q = fun r => Fr [] [22] w1 g r.2 ∧ LB p f r.2 ∧ r.1 = if a2 = 0 then oN (sel (fun _ => true) (R1 (sBe p f c)) (tu p (hm p c))) else match sel (fun _ => true) (R1 (sBe p f c)) (tu p (hm p c)) with | none => 0 | some b => (sBe p f c b).toInt32 := ⟨_, rfl⟩
  rw [← hQ]
  have e12 : (12 + nI c : Int32) = nI (12 + c) := nI_add 12 c
  rw [e12]
  refine Sat.lp (fun k z => ∃ g' φ, z = (oN (sel (fun _ => true) (R1 (sBe p f c)) k), nI k, g') ∧ Fr [] [20, 22] w1 g g' ∧ φ < tu p (hm p c) ∧ FB p (aPh f c φ) g' ∧ LB p (aPh f c φ) g' ∧ SB1 (sBe p f c) (sel (fun _ => true) (R1 (sBe p f c)) k) g' ∧ ∃ v, g'.2.1 20 = upd (g.2.1 20) (12 + c) v) (tu p (hm p c)) (by omega) ⟨g, fph f c, rfl, Fr.rf, (hWF.2 c hc).1, by rw [aPh_self]; exact hF, by rw [aPh_self]; exact hL, (fun b e => by cases e), g.2.1 20 (12 + c), ?_⟩ ?_ ?_
  · funext j
    by_cases e : j = 12 + c
    · rw [e, upd_self]
    · rw [upd_ne _ _ e]
  · rintro rec k _ hk ⟨g1, φ, rfl, F1, hφ, N1, L1, s1, v, ev⟩ hrec
    have P1 := hP.fr F1 (by simp) (by simp)
    dsimp only
    rw [turnB hw P1 hc, Option.bind_some, if_neg (nI_ge hk (by omega)), ck_nI (by omega) (by decide), bv_eq, nI_clamp (by omega)]
    have N2 := FB_aPh (k := k) (by omega) (by omega) N1 hc
    obtain ⟨g2, eg2⟩ : ∃ g2, g2 = sA g1 20 (12 + c) (nI k) := ⟨_, rfl⟩
    rw [← eg2] at N2 ⊢
    have F12 : Fr [] [20] w0 g1 g2 := by rw [eg2]; exact Fr.rf.sA (by simp)
    have wf := aPh_wf (p := p) (f := f) (c := c) (v := k) hWF hk
    refine (laysC hw (P1.fr F12 (by simp) (by simp)) N2 wf hc (L1.fr F12 (by simp)) (fun i hi ne t x y => see_aPh ne t x y)).bind ?_
    rintro g3 ⟨F3, L3⟩
    have F13 : Fr [] [20, 22] w0 g1 g3 := (F12.wd (by simp) (by simp) (by simp)).tr F3 (by simp) (by simp) (by simp)
    have P3 := P1.fr F13 (by simp) (by simp)
    have N3 := N2.fr F3 (by simp)
    have us' : us p (aPh f c k) = us p f := rfl
    rw [upSetB hw P3 N3 wf, Option.bind_some, us', scoreB hw P3 L3, Option.bind_some, lj_eq, lj_eq]
    have es : scr p (sx2 p (aPh f c k) (us p f)) (pY p) = sBe p f c k := rfl
    rw [es]
    refine highB (k := k) (J14 := fun b14 => rec (b14.1, nI k + 1, b14.2)) hfin (s1.fr F13 rfl) (fun b e => by have := (sel_lt e).1; omega) (fun g4 F4 s4 => ?_)
    have e20 : g4.2.1 20 = upd (g.2.1 20) (12 + c) (nI k) := by
      rw [F4.2.1 20 (by simp), F3.2.1 20 (by simp), eg2, sA_21, if_pos rfl, ev]
      funext j
      by_cases e : j = 12 + c
      · rw [e, upd_self, upd_self]
      · rw [upd_ne _ _ e, upd_ne _ _ e, upd_ne _ _ e]
    rw [show (nI k + 1 : Int32) = nI (k + 1) from nI_add k 1]
    exact hrec _ ⟨g4, k, by rw [sel_t rfl], (F1.tr F13 (by simp) (by simp) (by simp)).tr F4 (by simp) (by simp) (by simp), hk, N3.fr F4 (by simp), L3.fr F4 (by simp), by rw [sel_t rfl]; exact s4, nI k, e20⟩
  · rintro rec _ ⟨g1, φ, rfl, F1, hφ, N1, L1, s1, v, ev⟩
    have P1 := hP.fr F1 (by simp) (by simp)
    dsimp only
    rw [turnB hw P1 hc, Option.bind_some, if_pos (nI_le (Nat.le_refl _) (by omega)), ck_nI (by omega) (by decide), bv_eq, nI_clamp (by omega)]
    have N2 := FB_aPh (k := fph f c) (by omega) (by omega) N1 hc
    obtain ⟨g2, eg2⟩ : ∃ g2, g2 = sA g1 20 (12 + c) (nI (fph f c)) := ⟨_, rfl⟩
    rw [← eg2] at N2 ⊢
    rw [aPh_self] at N2
    have F12 : Fr [] [20] w0 g1 g2 := by rw [eg2]; exact Fr.rf.sA (by simp)
    refine (laysC hw (P1.fr F12 (by simp) (by simp)) N2 hWF hc (L1.fr F12 (by simp)) (fun i hi ne t x y => by
      have := see_aPh (p := p) (f := f) (φ := φ) (k := fph f c) ne t x y
      rw [aPh_self] at this
      exact this)).bind ?_
    rintro g3 ⟨F3, L3⟩
    have Fall : Fr [] [20, 22] w1 g g3 := (F1.tr F12 (by simp) (by simp) (by simp)).tr F3 (by simp) (by simp) (by simp)
    have e20 : g3.2.1 20 = g.2.1 20 := by
      rw [F3.2.1 20 (by simp), eg2, sA_21, if_pos rfl, ev]
      funext j
      by_cases e : j = 12 + c
      · rw [e, upd_self, (hF.2 c hc).2.1]
      · rw [upd_ne _ _ e, upd_ne _ _ e]
    have s3 : SB1 (sBe p f c) (sel (fun _ => true) (R1 (sBe p f c)) (tu p (hm p c))) g3 := (s1.fr F12 rfl).fr F3 rfl
    have Fn : Fr [] [22] w1 g g3 := Fall.now e20
    by_cases z : a2 = 0
    · rw [if_pos z, hQ, if_pos z]
      exact Sat.of ⟨Fn, L3, rfl⟩
    · rw [if_neg z, hQ, if_neg z]
      obtain ⟨b, eb⟩ := sel_some (ok := fun _ => true) (R := R1 (sBe p f c)) (n := tu p (hm p c)) (k := 0) (by omega) rfl
      rw [s3 b eb, bitsB (hfin b), Option.bind_some, eb]
      exact Sat.of ⟨Fn, L3, rfl⟩
theorem c_best {p : Pl} {f : Fl} {gA gB : G} (h : RS p f gA gB) (hA : CA p f gA) (hB : CB p f gB) (a b : Int32) : Eq2 (fA_D_best a b gA) (fB_M_best a b gB) := by
  have hl := h.lt
  have no : Eq2 (some ((-1 : Int32), gA)) (some (-1, gB)) := ⟨_, _, _, rfl, rfl, p, f, h, hA, hB⟩
  unfold fA_D_best fB_M_best
  by_cases ha : rg (pK p) a
  · obtain ⟨c, hc, rfl⟩ := ha
    have hw := h.wp (by omega)
    have hq := hw.q (hw.h hc)
    rw [craftA_t h.2.2.1 hc (by omega), craftB_t h.2.2.2.1 hc (by omega), Option.bind_some, Option.bind_some, if_neg i10, if_neg i10]
    by_cases hb : rg 2 b
    · obtain ⟨w, hw2, rfl⟩ := hb
      rw [inB_t hw2 (by decide) (by decide), Option.bind_some, if_neg i10, two_t (show w ≤ 1 by omega)]
      obtain ⟨g1, e1, F1, Rs, C1, L1, P1, U1⟩ := look2 h hw hA
      obtain ⟨g2, e2, F2, S2, s2⟩ := phasesA hw P1 Rs.2.2.2.2.2.2.2.2.2.2.2.2.2.2.1 Rs.2.2.2.2.1 h.2.2.2.2.2.2.1 L1.1 L1.2.1 hc
      obtain ⟨g3, e3, F3, L3, P3, N3, C3⟩ := lays2 h hw hB
      obtain ⟨⟨rB, g5⟩, e5, F5, L5, er5⟩ := bestB hw P3 N3 h.2.2.2.2.2.2.1 L3 hc (nI w)
      have F5 : Fr [] [22] w1 g3 g5 := F5
      have L5 : LB p f g5 := L5
      have rel : Rel (sS g2 18 0) g5 := Rel.mk2 h (fresh18 (F1.tr F2 (by decide) (by decide) (by simp))) (F3.tr F5 (by simp) (by decide) (by simp)) (CA.fresh S2) (C3.trial (F5.1 47 (by simp)) L5)
      obtain ⟨bb, eb⟩ := sel_some (ok := fun _ => true) (R := R1 (sBe p f c)) (n := tu p (hm p c)) (k := 0) (by omega) rfl
      rw [eb] at s2
      have er5 : rB = if nI w = 0 then oN (sel (fun _ => true) (R1 (sBe p f c)) (tu p (hm p c))) else match sel (fun _ => true) (R1 (sBe p f c)) (tu p (hm p c)) with | none => 0 | some b => (sBe p f c b).toInt32 := er5
      rw [eb] at er5
      have e12 : (12 + nI c : Int32) = nI (12 + c) := nI_add 12 c
      rw [e1, Option.bind_some, e2, Option.bind_some, bv_eq, e3, Option.bind_some, e12, ag_nI (by omega) (by decide), (N3.2 c hc).2.1, ← e12, e5, er5]
      have k1 : (sS g2 18 0).1 13200 = oN (some bb) := s2.1
      have k2 : (sS g2 18 0).2.2.2.1 0 = sBe p f c bb := s2.2 bb rfl
      have sb : lz (sBe p f c bb) (pY p * 288) ∧ gz 107 (sBe p f c bb) := sco_b hw (aPh f c bb) (us p f)
      by_cases z : nI w = 0
      · rw [if_pos z, if_pos z, k1]
        exact ⟨_, _, _, rfl, rfl, rel⟩
      · rw [if_neg z, if_neg z, k2, floatBitsA (sb.2.nm (by decide)) sb.1.1, Option.bind_some]
        exact ⟨_, _, _, rfl, rfl, rel⟩
    · rw [inB_f hb (by decide) (by decide), Option.bind_some, if_pos i00, two_f hb]
      exact no
  · rw [craftA_f h.2.2.1 ha, craftB_f h.2.2.2.1 ha (by omega), Option.bind_some, Option.bind_some, if_pos i00, if_pos i00]
    exact no
