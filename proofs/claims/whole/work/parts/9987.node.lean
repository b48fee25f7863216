/-! THE CALLS: bestNode -/
theorem adF_self (f : Fl) (q : Nat) : adF f q (fnd f q) = f := by
  funext j i
  unfold adF
  by_cases e : j = 0
  · rw [if_pos e, e]
    by_cases e2 : i = q
    · rw [e2, upn_self]
      rfl
    · rw [upn_ne _ _ e2]
  · rw [if_neg e]
theorem adF_at (f : Fl) (q v : Nat) : fnd (adF f q v) q = v := by
  show upn (f 0) q v q = v
  exact upn_self _ _ _
theorem adF_ne (f : Fl) {q d : Nat} (v : Nat) (h : d ≠ q) : fnd (adF f q v) d = fnd f d := by
  show upn (f 0) q v d = f 0 d
  exact upn_ne _ _ h
theorem adF_wf {p : Pl} {f : Fl} {q v : Nat} (h : WF p f) (hv : v < pC p) : WF p (adF f q v) := by
  refine ⟨fun d hd => ?_, h.2⟩
  by_cases e : d = q
  · rw [e, adF_at]
    exact hv
  · rw [adF_ne _ _ e]
    exact h.1 d hd
theorem see_adF {p : Pl} {f : Fl} {q a b d : Nat} (h : hm p d ≠ q) (t x y : Nat) : see p (adF f q a) d t x y = see p (adF f q b) d t x y := see_cg (f := adF f q a) (f' := adF f q b) ((adF_ne f a h).trans (adF_ne f b h).symm) rfl rfl t x y
theorem FA_adF {p : Pl} {f : Fl} {q a k u n : Nat} {g : G} (h : FA p (adF f q a) u n g) : FA p (adF f q k) u n (sA g (n + 1) q (nI k)) := by
  refine ⟨h.1, fun d hd => ?_, fun d hd => ⟨?_, ?_⟩⟩
  · rw [sA_21, if_pos rfl]
    by_cases e : d = q
    · rw [e, upd_self, adF_at]
    · rw [upd_ne _ _ e, adF_ne _ _ e, h.2.1 d hd, adF_ne _ _ e]
  · rw [sA_21, if_neg (by omega)]
    exact (h.2.2 d hd).1
  · rw [sA_21, if_neg (by omega)]
    exact (h.2.2 d hd).2
theorem FB_adF {p : Pl} {f : Fl} {q a k : Nat} {g : G} (hP4 : pP p ≤ 4) (h : FB p (adF f q a) g) (hq : q < pP p) : FB p (adF f q k) (sA g 20 q (nI k)) := by
  refine ⟨fun d hd => ?_, fun d hd => ⟨?_, ?_, ?_⟩⟩
  · rw [sA_21, if_pos rfl]
    by_cases e : d = q
    · rw [e, upd_self, adF_at]
    · rw [upd_ne _ _ e, adF_ne _ _ e, h.1 d hd, adF_ne _ _ e]
  · rw [sA_21, if_pos rfl, upd_ne _ _ (by omega)]
    exact (h.2 d hd).1
  · rw [sA_21, if_pos rfl, upd_ne _ _ (by omega)]
    exact (h.2 d hd).2.1
  · rw [sA_21, if_pos rfl, upd_ne _ _ (by omega)]
    exact (h.2 d hd).2.2
def sNo (p : Pl) (f : Fl) (q k : Nat) : UInt32 := sco p (adF f q k) (us p f)
theorem ci_bit {p : Pl} (hK : pK p ≤ 8) {q d : Nat} (hd : d < pK p) : (ci p q).testBit d = decide (hm p d = q) := by
  unfold ci
  rw [mk_bit, decide_eq_true (show d < 8 by omega), decide_eq_true hd]
  rfl
set_option maxHeartbeats 1000000 in
theorem nodesA {p : Pl} (hw : WP p) {f : Fl} {g : G} (hP : PA p g) (hS : SH p g) (hF : FA p f 2700 27 g) (hWF : WF p f) (hSK : SK p g) (hV : VF p f g) {q : Nat} (hq : q < pP p) :
    Sat (fA_Trial_tryNodes (nI q) g) (fun g' => Fr tS tT w1 g g' ∧ SK p g' ∧ SA1 (sNo p f q) (sel (fun _ => true) (R1 (sNo p f q)) (pC p)) g') := by
  have h1 := hw.c
  have ul := us_lt p f
  unfold fA_Trial_tryNodes
  refine (trialA ⟨by omega, by omega⟩ hF).bind ?_
  rintro g1 ⟨F1, A1, x0, _, _, _⟩
  have u1 : g1.1 2700 = nI (us p f) := (F1.1 2700 (by simp)).trans hF.1
  rw [craftInA (by omega) (fun c hc => by have := hw.h hc; omega) (hP.fr F1 (by simp) (by simp)) (by omega), Option.bind_some, bv_eq, u1, n_and]
  obtain ⟨mv, emv⟩ : ∃ mv, mv = ci p q &&& us p f := ⟨_, rfl⟩
  rw [← emv, antA ul]
  have ml : mv < 256 := by rw [emv]; exact Nat.lt_of_le_of_lt Nat.and_le_right ul
  have mb : ∀ d, d < pK p → mv.testBit d = (decide (hm p d = q) && (us p f).testBit d) := fun d hd => by rw [emv, Nat.testBit_and, ci_bit (by omega) hd]
  refine (holdA hw (hP.fr F1 (by simp) (by simp)) (hV.fr F1 (by simp)).vv (s := ant (us p f) mv) (Nat.lt_trans (ant_lt _ _) (by decide))).bind ?_
  rintro g2 ⟨F2, H2⟩
  have F12 : Fr tS tT w1 g g2 := (F1.wd (by decide) (by decide) (by simp)).tr F2 (by simp) (by decide) (by simp)
  refine Sat.lp (fun k z => ∃ g' a, z = (nI k, g') ∧ Fr tS tT w1 g g' ∧ SK p g' ∧ FA p (adF f q a) 13300 133 g' ∧ HH p 127 (fun t y x => ob (pK p) (fun d => see p f d t x y) (ant (us p f) mv)) g' ∧ SA1 (sNo p f q) (sel (fun _ => true) (R1 (sNo p f q)) k) g') (pC p) (by omega) ⟨g2, fnd f q, rfl, F12, (hSK.fr F1 (by simp) (by simp)).fr F2 (by simp) (by simp), ?_, H2, ?_, fun b e => by cases e⟩ ?_ ?_
  · rw [adF_self]
    exact A1.fr F2 (by simp) (by simp)
  · rw [F2.1 13200 (by simp), x0]
    rfl
  · rintro rec k _ hk ⟨g3, a, rfl, F3, S3, A3, H3, s3⟩ hrec
    have P3 := hP.fr F3 (by decide) (by decide)
    dsimp only
    rw [P3.1.1, if_neg (nI_ge hk (by omega)), ck_nI (by omega) (by decide), bv_eq, nI_clamp (by omega)]
    have A4 := FA_adF (k := k) A3
    obtain ⟨g4, eg4⟩ : ∃ g4, g4 = sA g3 134 q (nI k) := ⟨_, rfl⟩
    have A4 : FA p (adF f q k) 13300 133 g4 := by rw [eg4]; exact A4
    have F34 : Fr [] [134] w0 g3 g4 := by rw [eg4]; exact Fr.rf.sA (by simp)
    rw [← eg4]
    refine (drawAllT hw (P3.fr F34 (by simp) (by simp)) (S3.fr F34 (by simp) (by simp)) A4 (adF_wf hWF hk)).bind ?_
    rintro g5 ⟨F5, S5, V5⟩
    have F35 : Fr [11802] [119, 121, 122, 123, 124, 125, 126, 134] w0 g3 g5 := (F34.wd (by simp) (by simp) (by simp)).tr F5 (by simp) (by simp) (by simp)
    have P5 := P3.fr F35 (by simp) (by simp)
    refine (joinA hw P5 V5.vv (s := mv) (by omega) (H3.fr F35 (by simp))).bind ?_
    rintro g6 ⟨F6, H6⟩
    have H6 : HH p 128 (sx2 p (adF f q k) (us p f)) g6 := H6.cg (fun t y x => by
      refine ob_split (V := fun d => see p f d t x y) (V' := fun d => see p (adF f q k) d t x y) (by omega) (fun d hd hb => ?_) (fun d hd hb hu => ?_)
      · rw [mb d hd, Bool.and_eq_true] at hb
        exact hb.2
      · have hdc : hm p d ≠ q := fun e => by
          rw [mb d hd, hu, decide_eq_true e] at hb
          exact absurd hb (by decide)
        have := see_adF (p := p) (f := f) (a := fnd f q) (b := k) hdc t x y
        rw [adF_self] at this
        exact this)
    have F36 : Fr [11802] [119, 121, 122, 123, 124, 125, 126, 128, 134] w0 g3 g6 := (F35.wd (by simp) (by simp) (by simp)).tr F6 (by simp) (by simp) (by simp)
    have P6 := P3.fr F36 (by simp) (by simp)
    have Fall : Fr tS tT w1 g g6 := F3.tr F36 (by decide) (by decide) (by simp)
    refine (highA hw P6 (hS.fr Fall rfl) H6 (S := sNo p f q) (sco_f hw (fun k => adF f q k) (fun _ => us p f)) (by omega) (fun b e => by have := (sel_lt e).1; omega) rfl (s3.fr F36 (by simp) rfl)).bind ?_
    rintro g7 ⟨F7, s7⟩
    rw [show (nI k + 1 : Int32) = nI (k + 1) from nI_add k 1]
    refine hrec _ ⟨g7, k, rfl, Fall.tr F7 (by decide) (by simp) (by simp), (S5.fr F6 (by simp) (by simp)).fr F7 (by simp) (by simp), ?_, ?_, ?_⟩
    · exact ((A4.fr F5 (by simp) (by simp)).fr F6 (by simp) (by simp)).fr F7 (by simp) (by simp)
    · exact (H3.fr F36 (by simp)).fr F7 (by simp)
    · rw [sel_t rfl]
      exact s7
  · rintro rec _ ⟨g3, a, rfl, F3, S3, A3, H3, s3⟩
    have P3 := hP.fr F3 (by decide) (by decide)
    dsimp only
    rw [P3.1.1, if_pos (nI_le (Nat.le_refl _) (by omega))]
    exact Sat.of ⟨F3, S3, s3⟩
set_option maxHeartbeats 1000000 in
theorem nodesB {p : Pl} (hw : WP p) {f : Fl} {g : G} (hP : PB p g) (hF : FB p f g) (hWF : WF p f) (hL : LB p f g) {q : Nat} (hq : q < pP p) (a2 : Int32) :
    Sat (Lp (α := Int32 × Int32 × G) (fun rec5 s5 => (if (s5.2.2.1 1) ≤ s5.2.1 then ck 28 (0 + (nI q)) (bv (sA s5.2.2 20 (0 + (nI q) : Int32).toNatClampNeg (nI (fnd f q))) fun g6 => Option.bind (fB_M_laysPlane (nI q) g6) fun x7 => (if a2 = 0 then some (s5.1, x7) else Option.bind (fB_Float_floatToIntBits (x7.2.2.2.1 0) x7) fun x8 => some (x8, x7))) else ck 28 (0 + (nI q)) (bv (sA s5.2.2 20 (0 + (nI q) : Int32).toNatClampNeg s5.2.1) fun g9 => Option.bind (fB_M_laysPlane (nI q) g9) fun x10 => Option.bind (fB_M_upSet x10) fun x11 => Option.bind (fB_M_scoreBy x11 x10) fun x12 => lj (α := Int32 × G) (fun b13 => rec5 (b13.1, s5.2.1 + 1, b13.2)) fun J13 => lj (α := Unit) (fun b14 => bv (sF x10 0 x12) fun g15 => J13 (s5.2.1, g15)) fun J14 => (if s5.1 = (-1) then J14 () else (if 0 < (Op.cmpValue (FP.fcmp x12 (x10.2.2.2.1 0)) .g) then J14 () else J13 (s5.1, x10)))))) FU ((-1), 0, g)) (fun r => Fr [] [22] w1 g r.2 ∧ LB p f r.2 ∧ r.1 = if a2 = 0 then oN (sel (fun _ => true) (R1 (sNo p f q)) (pC p)) else match sel (fun _ => true) (R1 (sNo p f q)) (pC p) with | none => 0 | some b => (sNo p f q b).toInt32) := by
  have h1 := hw.c
  have hfin : fin32 (sNo p f q) := sco_f hw (fun k => adF f q k) (fun _ => us p f)
  obtain ⟨Q, hQ⟩ : ∃ Q : Int32 × G → Prop, Q = fun r => Fr [] [22] w1 g r.2 ∧ LB p f r.2 ∧ r.1 = if a2 = 0 then oN (sel (fun _ => true) (R1 (sNo p f q)) (pC p)) else match sel (fun _ => true) (R1 (sNo p f q)) (pC p) with | none => 0 | some b => (sNo p f q b).toInt32 := ⟨_, rfl⟩
  rw [← hQ]
  have e12 : (0 + nI q : Int32) = nI q := by rw [show (0 + nI q : Int32) = nI (0 + q) from nI_add 0 q, Nat.zero_add]
  rw [e12]
  refine Sat.lp (fun k z => ∃ g' a, z = (oN (sel (fun _ => true) (R1 (sNo p f q)) k), nI k, g') ∧ Fr [] [20, 22] w1 g g' ∧ FB p (adF f q a) g' ∧ LB p (adF f q a) g' ∧ SB1 (sNo p f q) (sel (fun _ => true) (R1 (sNo p f q)) k) g' ∧ ∃ v, g'.2.1 20 = upd (g.2.1 20) q v) (pC p) (by omega) ⟨g, fnd f q, rfl, Fr.rf, by rw [adF_self]; exact hF, by rw [adF_self]; exact hL, (fun b e => by cases e), g.2.1 20 q, ?_⟩ ?_ ?_
  · funext j
    by_cases e : j = q
    · rw [e, upd_self]
    · rw [upd_ne _ _ e]
  · rintro rec k _ hk ⟨g1, a, rfl, F1, N1, L1, s1, v, ev⟩ hrec
    have P1 := hP.fr F1 (by simp) (by simp)
    dsimp only
    rw [P1.1.1, if_neg (nI_ge hk (by omega)), ck_nI (by omega) (by decide), bv_eq, nI_clamp (by omega)]
    have N2 := FB_adF (k := k) (by omega) N1 hq
    obtain ⟨g2, eg2⟩ : ∃ g2, g2 = sA g1 20 q (nI k) := ⟨_, rfl⟩
    rw [← eg2] at N2 ⊢
    have F12 : Fr [] [20] w0 g1 g2 := by rw [eg2]; exact Fr.rf.sA (by simp)
    have wf := adF_wf (p := p) (f := f) (q := q) (v := k) hWF hk
    refine (laysP hw (P1.fr F12 (by simp) (by simp)) N2 wf hq (L1.fr F12 (by simp)) (fun i hi ne t x y => see_adF ne t x y)).bind ?_
    rintro g3 ⟨F3, L3⟩
    have F13 : Fr [] [20, 22] w0 g1 g3 := (F12.wd (by simp) (by simp) (by simp)).tr F3 (by simp) (by simp) (by simp)
    have P3 := P1.fr F13 (by simp) (by simp)
    have N3 := N2.fr F3 (by simp)
    have us' : us p (adF f q k) = us p f := rfl
    rw [upSetB hw P3 N3 wf, Option.bind_some, us', scoreB hw P3 L3, Option.bind_some, lj_eq, lj_eq]
    have es : scr p (sx2 p (adF f q k) (us p f)) (pY p) = sNo p f q k := rfl
    rw [es]
    refine highB (k := k) (J14 := fun b14 => rec (b14.1, nI k + 1, b14.2)) hfin (s1.fr F13 rfl) (fun b e => by have := (sel_lt e).1; omega) (fun g4 F4 s4 => ?_)
    have e20 : g4.2.1 20 = upd (g.2.1 20) q (nI k) := by
      rw [F4.2.1 20 (by simp), F3.2.1 20 (by simp), eg2, sA_21, if_pos rfl, ev]
      funext j
      by_cases e : j = q
      · rw [e, upd_self, upd_self]
      · rw [upd_ne _ _ e, upd_ne _ _ e, upd_ne _ _ e]
    rw [show (nI k + 1 : Int32) = nI (k + 1) from nI_add k 1]
    exact hrec _ ⟨g4, k, by rw [sel_t rfl], (F1.tr F13 (by simp) (by simp) (by simp)).tr F4 (by simp) (by simp) (by simp), N3.fr F4 (by simp), L3.fr F4 (by simp), by rw [sel_t rfl]; exact s4, nI k, e20⟩
  · rintro rec _ ⟨g1, a, rfl, F1, N1, L1, s1, v, ev⟩
    have P1 := hP.fr F1 (by simp) (by simp)
    dsimp only
    rw [P1.1.1, if_pos (nI_le (Nat.le_refl _) (by omega)), ck_nI (by omega) (by decide), bv_eq, nI_clamp (by omega)]
    have N2 := FB_adF (k := fnd f q) (by omega) N1 hq
    obtain ⟨g2, eg2⟩ : ∃ g2, g2 = sA g1 20 q (nI (fnd f q)) := ⟨_, rfl⟩
    rw [← eg2] at N2 ⊢
    rw [adF_self] at N2
    have F12 : Fr [] [20] w0 g1 g2 := by rw [eg2]; exact Fr.rf.sA (by simp)
    refine (laysP hw (P1.fr F12 (by simp) (by simp)) N2 hWF hq (L1.fr F12 (by simp)) (fun i hi ne t x y => by
      have := see_adF (p := p) (f := f) (a := a) (b := fnd f q) ne t x y
      rw [adF_self] at this
      exact this)).bind ?_
    rintro g3 ⟨F3, L3⟩
    have Fall : Fr [] [20, 22] w1 g g3 := (F1.tr F12 (by simp) (by simp) (by simp)).tr F3 (by simp) (by simp) (by simp)
    have e20 : g3.2.1 20 = g.2.1 20 := by
      rw [F3.2.1 20 (by simp), eg2, sA_21, if_pos rfl, ev]
      funext j
      by_cases e : j = q
      · rw [e, upd_self, hF.1 q hq]
      · rw [upd_ne _ _ e, upd_ne _ _ e]
    have s3 : SB1 (sNo p f q) (sel (fun _ => true) (R1 (sNo p f q)) (pC p)) g3 := (s1.fr F12 rfl).fr F3 rfl
    have Fn : Fr [] [22] w1 g g3 := Fall.now e20
    by_cases z : a2 = 0
    · rw [if_pos z, hQ, if_pos z]
      exact Sat.of ⟨Fn, L3, rfl⟩
    · rw [if_neg z, hQ, if_neg z]
      obtain ⟨b, eb⟩ := sel_some (ok := fun _ => true) (R := R1 (sNo p f q)) (n := pC p) (k := 0) (by omega) rfl
      rw [s3 b eb, bitsB (hfin b), Option.bind_some, eb]
      exact Sat.of ⟨Fn, L3, rfl⟩
theorem c_bestNode {p : Pl} {f : Fl} {gA gB : G} (h : RS p f gA gB) (hA : CA p f gA) (hB : CB p f gB) (a b : Int32) : Eq2 (fA_D_bestNode a b gA) (fB_M_bestNode a b gB) := by
  have hl := h.lt
  have no : Eq2 (some ((-1 : Int32), gA)) (some (-1, gB)) := ⟨_, _, _, rfl, rfl, p, f, h, hA, hB⟩
  unfold fA_D_bestNode fB_M_bestNode
  by_cases ha : rg (pP p) a
  · obtain ⟨q, hq, rfl⟩ := ha
    have hw := h.wp (by omega)
    have h1 := hw.c
    rw [planeA_t h.2.2.1 hq (by omega), planeB_t h.2.2.2.1 hq (by omega), Option.bind_some, Option.bind_some, if_neg i10, if_neg i10]
    by_cases hb : rg 2 b
    · obtain ⟨w, hw2, rfl⟩ := hb
      rw [inB_t hw2 (by decide) (by decide), Option.bind_some, if_neg i10, two_t (show w ≤ 1 by omega)]
      obtain ⟨g1, e1, F1, Rs, C1, L1, P1, U1⟩ := look2 h hw hA
      obtain ⟨g2, e2, F2, S2, s2⟩ := nodesA hw P1 Rs.2.2.2.2.2.2.2.2.2.2.2.2.2.2.1 Rs.2.2.2.2.1 h.2.2.2.2.2.2.1 L1.1 L1.2.1 hq
      obtain ⟨g3, e3, F3, L3, P3, N3, C3⟩ := lays2 h hw hB
      obtain ⟨⟨rB, g5⟩, e5, F5, L5, er5⟩ := nodesB hw P3 N3 h.2.2.2.2.2.2.1 L3 hq (nI w)
      have F5 : Fr [] [22] w1 g3 g5 := F5
      have L5 : LB p f g5 := L5
      have rel : Rel (sS g2 18 0) g5 := Rel.mk2 h (fresh18 (F1.tr F2 (by decide) (by decide) (by simp))) (F3.tr F5 (by simp) (by decide) (by simp)) (CA.fresh S2) (C3.trial (F5.1 47 (by simp)) L5)
      obtain ⟨bb, eb⟩ := sel_some (ok := fun _ => true) (R := R1 (sNo p f q)) (n := pC p) (k := 0) (by omega) rfl
      rw [eb] at s2
      have er5 : rB = if nI w = 0 then oN (sel (fun _ => true) (R1 (sNo p f q)) (pC p)) else match sel (fun _ => true) (R1 (sNo p f q)) (pC p) with | none => 0 | some b => (sNo p f q b).toInt32 := er5
      rw [eb] at er5
      have e12 : (0 + nI q : Int32) = nI q := by rw [show (0 + nI q : Int32) = nI (0 + q) from nI_add 0 q, Nat.zero_add]
      rw [e1, Option.bind_some, e2, Option.bind_some, bv_eq, e3, Option.bind_some]
      rw [e12] at e5 ⊢
      rw [ag_nI (by omega) (by decide), N3.1 q hq, e5, er5]
      have k1 : (sS g2 18 0).1 13200 = oN (some bb) := s2.1
      have k2 : (sS g2 18 0).2.2.2.1 0 = sNo p f q bb := s2.2 bb rfl
      have sb : lz (sNo p f q bb) (pY p * 288) ∧ gz 107 (sNo p f q bb) := sco_b hw (adF f q bb) (us p f)
      by_cases z : nI w = 0
      · rw [if_pos z, if_pos z, k1]
        exact ⟨_, _, _, rfl, rfl, rel⟩
      · rw [if_neg z, if_neg z, k2, floatBitsA (sb.2.nm (by decide)) sb.1.1, Option.bind_some]
        exact ⟨_, _, _, rfl, rfl, rel⟩
    · rw [inB_f hb (by decide) (by decide), Option.bind_some, if_pos i00, two_f hb]
      exact no
  · rw [planeA_f h.2.2.1 ha, planeB_f h.2.2.2.1 ha (by omega), Option.bind_some, Option.bind_some, if_pos i00, if_pos i00]
    exact no
