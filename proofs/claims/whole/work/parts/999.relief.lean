/-! THE CALLS: relief -/
def wRe (p : Pl) (f : Fl) (l c : Nat) : Nat := ww p (sx2 p (aPh f c (fph f l)) (us p f))
def sRe (p : Pl) (f : Fl) (l c : Nat) : UInt32 := sco p (aPh f c (fph f l)) (us p f)
set_option maxHeartbeats 1000000 in
theorem reliefsA {p : Pl} (hw : WP p) {f : Fl} {g : G} (hP : PA p g) (hS : SH p g) (hF : FA p f 2700 27 g) (hWF : WF p f) (hSK : SK p g) (hV : VF p f g) {l : Nat} (hl : l < pK p) :
    Sat (fA_Trial_tryReliefs (nI l) g) (fun g' => Fr tS tT w1 g g' ∧ SK p g' ∧ SA2 (wRe p f l) (sRe p f l) (sel (mt p f (hm p l)) (R2 (wRe p f l) (sRe p f l)) (pK p)) g' ∧ ((sel (mt p f (hm p l)) (R2 (wRe p f l) (sRe p f l)) (pK p)) = none → g'.1 13202 = m1)) := by
  have h1 := hw.c
  have hh := hw.h hl
  have ul := us_lt p f
  unfold fA_Trial_tryReliefs
  refine (trialA ⟨by omega, by omega⟩ hF).bind ?_
  rintro g1 ⟨F1, A1, x0, _, x2, _⟩
  have P1 := hP.fr F1 (by simp) (by simp)
  have u1 : g1.1 2700 = nI (us p f) := (F1.1 2700 (by simp)).trans hF.1
  rw [ag_nI (by omega) (by decide), (P1.2.2.1 l hl).1, craftInA (by omega) (fun c hc => by have := hw.h hc; omega) P1 (by omega), Option.bind_some, bv_eq, u1, n_and]
  obtain ⟨mv, emv⟩ : ∃ mv, mv = ci p (hm p l) &&& us p f := ⟨_, rfl⟩
  rw [← emv]
  have ml : mv < 256 := by rw [emv]; exact Nat.lt_of_le_of_lt Nat.and_le_right ul
  have mb : ∀ d, d < pK p → mv.testBit d = mt p f (hm p l) d := fun d hd => by rw [emv]; exact mt_bit (by omega) hd
  refine (holdA hw P1 (hV.fr F1 (by simp)).vv (s := 0) (by decide)).bind ?_
  rintro g2 ⟨F2, H2⟩
  have H2 : HH p 127 (fun _ _ _ => false) g2 := H2.cg (fun t y x => by unfold ob; simp)
  have F12 : Fr tS tT w1 g g2 := (F1.wd (by decide) (by decide) (by simp)).tr F2 (by simp) (by decide) (by simp)
  refine Sat.lp (fun c z => ∃ g', z = (nI c, g') ∧ Fr tS tT w1 g g' ∧ SK p g' ∧ FA p f 13300 133 g' ∧ VF p f g' ∧ HH p 127 (fun _ _ _ => false) g' ∧ SA2 (wRe p f l) (sRe p f l) (sel (mt p f (hm p l)) (R2 (wRe p f l) (sRe p f l)) c) g' ∧ (sel (mt p f (hm p l)) (R2 (wRe p f l) (sRe p f l)) c = none → g'.1 13202 = m1)) (pK p) (by omega) ⟨g2, rfl, F12, (hSK.fr F1 (by simp) (by simp)).fr F2 (by simp) (by simp), A1.fr F2 (by simp) (by simp), (hV.fr F1 (by simp)).fr F2 (by simp), H2, ⟨⟨by rw [F2.1 13200 (by simp), x0]; rfl, fun b e => by cases e⟩, fun b e => by cases e⟩, fun _ => by rw [F2.1 13202 (by simp), x2]⟩ ?_ ?_
  · rintro rec c _ hc ⟨g3, rfl, F3, S3, A3, V3, H3, s3, n3⟩ hrec
    have P3 := hP.fr F3 (by decide) (by decide)
    dsimp only
    rw [P3.1.2.2.2.2.2.2.1, if_neg (nI_ge hc (by omega)), lj_eq, show (31 : Int32) = nI 31 from rfl, n_31 (by omega), n_shr (by omega) (by omega), show (1 : Int32) = nI 1 from rfl, n_and, show (0 : Int32) = nI 0 from rfl, ite_b0, mb c hc, nI_add]
    by_cases hm1 : mt p f (hm p l) c = true
    · rw [if_pos hm1]
      have ehm : hm p c = hm p l := by
        unfold mt at hm1
        simp at hm1
        exact hm1.1
      have a29 : ∀ g' : G, Fr tS tT w1 g g' → ∀ d, d < pK p → g'.2.1 29 d = nI (fph f d) := fun g' Fg d hd => by
        rw [Fg.2.1 29 (by decide)]
        exact (hF.2.2 d hd).1
      rw [ag_nI (by omega) (by decide), a29 g3 F3 l hl, ck_nI (by omega) (by decide), bv_eq, nI_clamp (by omega)]
      have hk : fph f l < tu p (hm p c) := by rw [ehm]; exact (hWF.2 l hl).1
      have A3' : FA p (aPh f c (fph f c)) 13300 133 g3 := by rw [aPh_self]; exact A3
      have A4 := FA_aPh (k := fph f l) A3'
      obtain ⟨g4, eg4⟩ : ∃ g4, g4 = sA g3 135 c (nI (fph f l)) := ⟨_, rfl⟩
      have A4 : FA p (aPh f c (fph f l)) 13300 133 g4 := by rw [eg4]; exact A4
      have F34 : Fr [] [135] w0 g3 g4 := by rw [eg4]; exact Fr.rf.sA (by simp)
      rw [← eg4]
      have V3' : VF p (aPh f c (fph f c)) g3 := by rw [aPh_self]; exact V3
      refine (drawOne hw (P3.fr F34 (by simp) (by simp)) (S3.fr F34 (by simp) (by simp)) hWF hc hk A4 (V3'.fr F34 (by simp))).bind ?_
      rintro g5 ⟨F5, S5, V5⟩
      have F35 : Fr [11802] [119, 121, 122, 123, 124, 125, 126, 135] w0 g3 g5 := (F34.wd (by simp) (by simp) (by simp)).tr F5 (by simp) (by simp) (by simp)
      have P5 := P3.fr F35 (by simp) (by simp)
      have u5 : g5.1 2700 = nI (us p f) := by rw [F35.1 2700 (by simp), F3.1 2700 (by decide), hF.1]
      rw [u5]
      refine (joinA hw P5 V5.vv (s := us p f) (by omega) (H3.fr F35 (by simp))).bind ?_
      rintro g6 ⟨F6, H6⟩
      have H6 : HH p 128 (sx2 p (aPh f c (fph f l)) (us p f)) g6 := H6.cg (fun t y x => by rw [Bool.false_or]; rfl)
      have F36 : Fr [11802] [119, 121, 122, 123, 124, 125, 126, 128, 135] w0 g3 g6 := (F35.wd (by simp) (by simp) (by simp)).tr F6 (by simp) (by simp) (by simp)
      have P6 := P3.fr F36 (by simp) (by simp)
      have Fall : Fr tS tT w1 g g6 := F3.tr F36 (by decide) (by decide) (by simp)
      have S6 := S5.fr F6 (by simp) (by simp)
      refine (lesserA hw P6 S6.1.1 (hS.fr Fall rfl) H6 (W := wRe p f l) (S := sRe p f l) (sco_f hw (fun c => aPh f c (fph f l)) (fun _ => us p f)) (fun k => ww_lt hw _) (by omega) (fun b e => by have := (sel_lt e).1; omega) rfl rfl (s3.fr F36 (by simp) rfl)).bind ?_
      rintro g7 ⟨F7, s7⟩
      have Fall7 : Fr tS tT w1 g g7 := Fall.tr F7 (by decide) (by decide) (by simp)
      have S7 := S6.fr F7 (by simp) (by simp)
      have A7 : FA p (aPh f c (fph f l)) 13300 133 g7 := ((A4.fr F5 (by simp) (by simp)).fr F6 (by simp) (by simp)).fr F7 (by simp) (by simp)
      have V7 : VF p (aPh f c (fph f l)) g7 := (V5.fr F6 (by simp)).fr F7 (by simp)
      rw [ag_nI (by omega) (by decide), a29 g7 Fall7 c hc, ck_nI (by omega) (by decide), bv_eq]
      have A8 := FA_aPh (k := fph f c) A7
      obtain ⟨g8, eg8⟩ : ∃ g8, g8 = sA g7 135 c (nI (fph f c)) := ⟨_, rfl⟩
      have A8 : FA p (aPh f c (fph f c)) 13300 133 g8 := by rw [eg8]; exact A8
      have F78 : Fr [] [135] w0 g7 g8 := by rw [eg8]; exact Fr.rf.sA (by simp)
      rw [← eg8]
      have P7 := hP.fr Fall7 (by decide) (by decide)
      refine (drawOne hw (P7.fr F78 (by simp) (by simp)) (S7.fr F78 (by simp) (by simp)) hWF hc (hWF.2 c hc).1 A8 (V7.fr F78 (by simp))).bind ?_
      rintro g9 ⟨F9, S9, V9⟩
      rw [aPh_self] at V9 A8
      have F79 : Fr [11802] [119, 121, 122, 123, 124, 125, 126, 135] w0 g7 g9 := (F78.wd (by simp) (by simp) (by simp)).tr F9 (by simp) (by simp) (by simp)
      have F39 : Fr [13200, 13202, 11802] [119, 121, 122, 123, 124, 125, 126, 128, 129, 135] w1 g3 g9 := ((F36.wd (by simp) (by simp) (by simp)).tr F7 (by simp) (by simp) (by simp)).tr F79 (by simp) (by simp) (by simp)
      refine hrec _ ⟨g9, rfl, Fall7.tr F79 (by decide) (by decide) (by simp), S9, A8.fr F9 (by simp) (by simp), V9, H3.fr F39 (by simp), ?_, fun z => ?_⟩
      · rw [sel_t hm1]
        exact s7.fr F79 (by simp) rfl
      · rw [sel_t hm1] at z
        obtain ⟨b, eb⟩ := stp_some (R2 (wRe p f l) (sRe p f l)) c (sel (mt p f (hm p l)) (R2 (wRe p f l) (sRe p f l)) c)
        rw [eb] at z
        cases z
    · rw [if_neg hm1]
      have hm0 : mt p f (hm p l) c = false := by simpa using hm1
      exact hrec _ ⟨g3, rfl, F3, S3, A3, V3, H3, by rw [sel_f hm0]; exact s3, by rw [sel_f hm0]; exact n3⟩
  · rintro rec _ ⟨g3, rfl, F3, S3, A3, V3, H3, s3, n3⟩
    have P3 := hP.fr F3 (by decide) (by decide)
    dsimp only
    rw [P3.1.2.2.2.2.2.2.1, if_pos (nI_le (Nat.le_refl _) (by omega))]
    exact Sat.of ⟨F3, S3, s3, n3⟩
theorem leasB {W : Nat → Nat} {S : Nat → UInt32} (hf : fin32 S) (hWl : ∀ k, W k < 2 ^ 31) {k : Nat} {o : Option Nat} {g : G} (h : SB1 S o g) (ho : ∀ b, o = some b → b < 2 ^ 31) {α : Type} {J : Int32 × Int32 × G → Option α} {P : α → Prop}
    (hJ : ∀ g', Fr [] [] w1 g g' → SB1 S (stp (R2 W S) k o) g' → Sat (J (oN (stp (R2 W S) k o), oW W (stp (R2 W S) k o), g')) P) :
    Sat (if oN o = (-1) then (bv (sF g 0 (S k)) fun g14 => J (nI k, nI (W k), g14)) else (if oW W o < nI (W k) then J (oN o, oW W o, g) else (if nI (W k) = oW W o then (if 0 < (Op.cmpValue (FP.fcmp (S k) (g.2.2.2.1 0)) .g) then (bv (sF g 0 (S k)) fun g14 => J (nI k, nI (W k), g14)) else J (oN o, oW W o, g)) else (bv (sF g 0 (S k)) fun g14 => J (nI k, nI (W k), g14))))) P := by
  have take : ∀ (e : stp (R2 W S) k o = some k), Sat (bv (sF g 0 (S k)) fun g14 => J (nI k, nI (W k), g14)) P := by
    intro e
    rw [bv_eq]
    have := hJ (sF g 0 (S k)) (Fr.rf.sF rfl) (by rw [e]; intro b eb; cases eb; rfl)
    rw [e] at this
    exact this
  have skip : ∀ (e : stp (R2 W S) k o = o), Sat (J (oN o, oW W o, g)) P := by
    intro e
    have := hJ g Fr.rf (by rw [e]; exact h)
    rw [e] at this
    exact this
  cases o with
  | none =>
    rw [if_pos (show oN none = -1 from rfl)]
    exact take rfl
  | some b =>
    have hb := ho b rfl
    have e2 : g.2.2.2.1 0 = S b := h b rfl
    have nb : ¬ oN (some b) = -1 := fun z => (n_ne_m1 hb).mp z
    rw [if_neg nb, e2, show oW W (some b) = nI (W b) from rfl, ite_ltn (hWl b) (hWl k), ite_eqn (hWl k) (hWl b)]
    by_cases l : W b < W k
    · rw [if_pos l]
      exact skip (if_neg (fun z => by have := of_decide_eq_true z; omega))
    · rw [if_neg l]
      by_cases l2 : W k = W b
      · rw [if_pos l2]
        by_cases l3 : (S b).toNat < (S k).toNat
        · rw [if_pos ((cmp_gt (hf k) (hf b) _).mpr l3)]
          exact take (if_pos (decide_eq_true (Or.inr ⟨l2, l3⟩)))
        · rw [if_neg (fun z => l3 ((cmp_gt (hf k) (hf b) _).mp z))]
          exact skip (if_neg (fun z => by have := of_decide_eq_true z; omega))
      · rw [if_neg l2]
        exact take (if_pos (decide_eq_true (Or.inl (by omega))))
set_option maxHeartbeats 2000000 in
theorem reliefsB {p : Pl} (hw : WP p) {f : Fl} {g : G} (hP : PB p g) (hF : FB p f g) (hWF : WF p f) (hL : LB p f g) {l : Nat} (hl : l < pK p) (a2 : Int32) :
    Sat (Lp (α := Int32 × Int32 × Int32 × G) (fun rec7 s7 => (if (s7.2.2.2.1 5) ≤ s7.2.2.1 then (if a2 = 0 then some (s7.1, s7.2.2.2) else some (s7.2.1, s7.2.2.2)) else ag 8 (s7.2.2.2.2.1 4) s7.2.2.1 fun x8 => ag 8 (s7.2.2.2.2.1 4) (nI l) fun x9 => lj (α := Int32 × Int32 × G) (fun b10 => rec7 (b10.1, b10.2.1, s7.2.2.1 + 1, b10.2.2)) fun J10 => (if x8 = x9 then ag 28 (s7.2.2.2.2.1 20) (4 + s7.2.2.1) fun x11 => (if x11 = 0 then J10 (s7.1, s7.2.1, s7.2.2.2) else ag 28 (s7.2.2.2.2.1 20) (12 + s7.2.2.1) fun x12 => ag 28 (s7.2.2.2.2.1 20) (12 + (nI l)) fun x13 => ck 28 (12 + s7.2.2.1) (bv (sA s7.2.2.2 20 (12 + s7.2.2.1 : Int32).toNatClampNeg x13) fun g14 => Option.bind (fB_M_laysOne s7.2.2.1 g14) fun x15 => Option.bind (fB_M_upSet x15) fun x16 => Option.bind (fB_M_worstBy x16 x15) fun x17 => Option.bind (fB_M_upSet x17.2) fun x18 => Option.bind (fB_M_scoreBy x18 x17.2) fun x19 => ck 28 (12 + s7.2.2.1) (bv (sA x17.2 20 (12 + s7.2.2.1 : Int32).toNatClampNeg x12) fun g20 => Option.bind (fB_M_laysOne s7.2.2.1 g20) fun x21 => lj (α := Unit) (fun b22 => bv (sF x21 0 x19) fun g23 => J10 (s7.2.2.1, x17.1, g23)) fun J22 => (if s7.1 = (-1) then J22 () else (if s7.2.1 < x17.1 then J10 (s7.1, s7.2.1, x21) else (if x17.1 = s7.2.1 then (if 0 < (Op.cmpValue (FP.fcmp x19 (x21.2.2.2.1 0)) .g) then J22 () else J10 (s7.1, s7.2.1, x21)) else J22 ())))))) else J10 (s7.1, s7.2.1, s7.2.2.2)))) FU ((-1), 0, 0, g)) (fun r => Fr [50] [22, 23, 24] w1 g r.2 ∧ LB p f r.2 ∧ r.1 = if a2 = 0 then oN (sel (mt p f (hm p l)) (R2 (wRe p f l) (sRe p f l)) (pK p)) else oW (wRe p f l) (sel (mt p f (hm p l)) (R2 (wRe p f l) (sRe p f l)) (pK p))) := by
  have h1 := hw.c
  have hfin : fin32 (sRe p f l) := sco_f hw (fun c => aPh f c (fph f l)) (fun _ => us p f)
  refine Sat.lp (fun c z => ∃ g', z = (oN (sel (mt p f (hm p l)) (R2 (wRe p f l) (sRe p f l)) c), oW (wRe p f l) (sel (mt p f (hm p l)) (R2 (wRe p f l) (sRe p f l)) c), nI c, g') ∧ Fr [50] [22, 23, 24] w1 g g' ∧ LB p f g' ∧ SB1 (sRe p f l) (sel (mt p f (hm p l)) (R2 (wRe p f l) (sRe p f l)) c) g') (pK p) (by omega) ⟨g, rfl, Fr.rf, hL, fun b e => by cases e⟩ ?_ ?_
  · rintro rec c _ hc ⟨g1, rfl, F1, L1, s1⟩ hrec
    have P1 := hP.fr F1 (by simp) (by simp)
    have N1 := hF.fr F1 (by simp)
    have hhc := hw.h hc
    have hhl := hw.h hl
    have uc := N1.2 c hc
    have ul := (hWF.2 c hc).2.2
    have up1 := (N1.2 l hl).2.1
    dsimp only
    rw [P1.1.2.2.2.2.1, if_neg (nI_ge hc (by omega)), ag_nI (by omega) (by decide), P1.2.2.1 c hc, ag_nI (by omega) (by decide), P1.2.2.1 l hl, lj_eq, ite_eqn (by omega) (by omega), show (4 + nI c : Int32) = nI (4 + c) from nI_add 4 c, show (12 + nI c : Int32) = nI (12 + c) from nI_add 12 c, show (12 + nI l : Int32) = nI (12 + l) from nI_add 12 l, show (nI c + 1 : Int32) = nI (c + 1) from nI_add c 1]
    have skip : mt p f (hm p l) c = false → Sat (rec (oN (sel (mt p f (hm p l)) (R2 (wRe p f l) (sRe p f l)) c), oW (wRe p f l) (sel (mt p f (hm p l)) (R2 (wRe p f l) (sRe p f l)) c), nI (c + 1), g1)) (fun r => Fr [50] [22, 23, 24] w1 g r.2 ∧ LB p f r.2 ∧ r.1 = if a2 = 0 then oN (sel (mt p f (hm p l)) (R2 (wRe p f l) (sRe p f l)) (pK p)) else oW (wRe p f l) (sel (mt p f (hm p l)) (R2 (wRe p f l) (sRe p f l)) (pK p))) := fun m0 => hrec _ ⟨g1, by rw [sel_f m0], F1, L1, by rw [sel_f m0]; exact s1⟩
    by_cases eh : hm p c = hm p l
    · rw [if_pos eh, ag_nI (by omega) (by decide), uc.1]
      by_cases z : fup f c = 1
      · have m1' : mt p f (hm p l) c = true := by
          unfold mt
          rw [decide_eq_true eh, decide_eq_true z]
          rfl
        rw [z, if_neg (show ¬ nI 1 = 0 from i10), ag_nI (by omega) (by decide), uc.2.1, ag_nI (by omega) (by decide), up1, ck_nI (by omega) (by decide), bv_eq, nI_clamp (by omega)]
        have hk : fph f l < tu p (hm p c) := by rw [eh]; exact (hWF.2 l hl).1
        have N1' : FB p (aPh f c (fph f c)) g1 := by rw [aPh_self]; exact N1
        have N2 := FB_aPh (k := fph f l) (by omega) (by omega) N1' hc
        obtain ⟨g2, eg2⟩ : ∃ g2, g2 = sA g1 20 (12 + c) (nI (fph f l)) := ⟨_, rfl⟩
        rw [← eg2] at N2 ⊢
        have F12 : Fr [] [20] w0 g1 g2 := by rw [eg2]; exact Fr.rf.sA (by simp)
        have wf := aPh_wf (p := p) (f := f) (c := c) (v := fph f l) hWF hk
        refine (laysC hw (P1.fr F12 (by simp) (by simp)) N2 wf hc (L1.fr F12 (by simp)) (fun i hi ne t x y => by
          have := see_aPh (p := p) (f := f) (φ := fph f c) (k := fph f l) ne t x y
          rw [aPh_self] at this
          exact this)).bind ?_
        rintro g3 ⟨F3, L3⟩
        have F13 : Fr [] [20, 22] w0 g1 g3 := (F12.wd (by simp) (by simp) (by simp)).tr F3 (by simp) (by simp) (by simp)
        have P3 := P1.fr F13 (by simp) (by simp)
        have N3 := N2.fr F3 (by simp)
        have us' : us p (aPh f c (fph f l)) = us p f := rfl
        rw [upSetB hw P3 N3 wf, Option.bind_some, us']
        refine (worstByB hw P3 L3 (us p f)).bind ?_
        rintro ⟨r, g5⟩ ⟨F5, er⟩
        have F5 : Fr [50] [23, 24] w0 g3 g5 := F5
        have er : r = nI (wRe p f l c) := er
        have P5 := P3.fr F5 (by simp) (by simp)
        have N5 := N3.fr F5 (by simp)
        have L5 := L3.fr F5 (by simp)
        dsimp only
        rw [er, upSetB hw P5 N5 wf, Option.bind_some, us', scoreB hw P5 L5, Option.bind_some, ck_nI (by omega) (by decide), bv_eq]
        have es : scr p (sx2 p (aPh f c (fph f l)) (us p f)) (pY p) = sRe p f l c := rfl
        rw [es]
        have N6 := FB_aPh (k := fph f c) (by omega) (by omega) N5 hc
        obtain ⟨g6, eg6⟩ : ∃ g6, g6 = sA g5 20 (12 + c) (nI (fph f c)) := ⟨_, rfl⟩
        rw [← eg6] at N6 ⊢
        rw [aPh_self] at N6
        have F56 : Fr [] [20] w0 g5 g6 := by rw [eg6]; exact Fr.rf.sA (by simp)
        refine (laysC hw (P5.fr F56 (by simp) (by simp)) N6 hWF hc (L5.fr F56 (by simp)) (fun i hi ne t x y => by
          have := see_aPh (p := p) (f := f) (φ := fph f l) (k := fph f c) ne t x y
          rw [aPh_self] at this
          exact this)).bind ?_
        rintro g7 ⟨F7, L7⟩
        have F17 : Fr [50] [20, 22, 23, 24] w0 g1 g7 := (((F13.wd (by simp) (by simp) (by simp)).tr F5 (by simp) (by simp) (by simp)).tr F56 (by simp) (by simp) (by simp)).tr F7 (by simp) (by simp) (by simp)
        have e20 : g7.2.1 20 = g1.2.1 20 := by
          rw [F7.2.1 20 (by simp), eg6, sA_21, if_pos rfl, F5.2.1 20 (by simp), F3.2.1 20 (by simp), eg2, sA_21, if_pos rfl]
          funext j
          by_cases e : j = 12 + c
          · rw [e, upd_self, uc.2.1]
          · rw [upd_ne _ _ e, upd_ne _ _ e]
        have Fn : Fr [50] [22, 23, 24] w0 g1 g7 := F17.now e20
        rw [lj_eq]
        refine leasB (k := c) (W := wRe p f l) (J := fun b10 => rec (b10.1, b10.2.1, nI (c + 1), b10.2.2)) hfin (fun k => ww_lt hw _) (s1.fr Fn rfl) (fun b e => by have := (sel_lt e).1; omega) (fun g8 F8 s8 => ?_)
        exact hrec _ ⟨g8, by rw [sel_t m1'], (F1.tr Fn (by simp) (by simp) (by simp)).tr F8 (by simp) (by simp) (by simp), L7.fr F8 (by simp), by rw [sel_t m1']; exact s8⟩
      · have z0 : fup f c = 0 := by omega
        rw [z0, if_pos (show nI 0 = 0 from i00)]
        exact skip (by unfold mt; rw [decide_eq_false z, Bool.and_false])
    · rw [if_neg eh]
      exact skip (by unfold mt; rw [decide_eq_false eh, Bool.false_and])
  · rintro rec _ ⟨g1, rfl, F1, L1, s1⟩
    have P1 := hP.fr F1 (by simp) (by simp)
    dsimp only
    rw [P1.1.2.2.2.2.1, if_pos (nI_le (Nat.le_refl _) (by omega))]
    by_cases z : a2 = 0
    · rw [if_pos z]
      exact Sat.of ⟨F1, L1, by rw [if_pos z]⟩
    · rw [if_neg z]
      exact Sat.of ⟨F1, L1, by rw [if_neg z]⟩
theorem c_relief {p : Pl} {f : Fl} {gA gB : G} (h : RS p f gA gB) (hA : CA p f gA) (hB : CB p f gB) (a b : Int32) : Eq2 (fA_D_relief a b gA) (fB_M_relief a b gB) := by
  have hlt := h.lt
  have no : Eq2 (some ((-1 : Int32), gA)) (some (-1, gB)) := ⟨_, _, _, rfl, rfl, p, f, h, hA, hB⟩
  unfold fA_D_relief fB_M_relief
  by_cases ha : rg (pK p) a
  · obtain ⟨l, hl, rfl⟩ := ha
    have hw := h.wp (by omega)
    have h1 := hw.c
    have hhl := hw.h hl
    have ul := us_lt p f
    have ufl := (h.2.2.2.2.2.2.1.2 l hl).2.2
    rw [craftA_t h.2.2.1 hl (by omega), craftB_t h.2.2.2.1 hl (by omega), Option.bind_some, Option.bind_some, if_neg i10, if_neg i10, isUpA (u := 0) (n := 0) h.2.2.2.2.1.1 hl (by omega), Option.bind_some, show (4 + nI l : Int32) = nI (4 + l) from nI_add 4 l, ag_nI (by omega) (by decide), (h.2.2.2.2.2.1.2 l hl).1]
    by_cases ua : fup f l = 1
    · rw [ua, decide_eq_true rfl, if_neg b1, if_pos (show nI 1 = 1 from rfl)]
      exact no
    · have u0 : fup f l = 0 := by omega
      rw [u0, decide_eq_false (by decide), if_pos b0, if_neg (show ¬ nI 0 = 1 by decide), ag_nI (by omega) (by decide), h.2.2.2.1.2.2.1 l hl, upInB hw h.2.2.2.1 h.2.2.2.2.2.1 h.2.2.2.2.2.2.1 (by omega), Option.bind_some]
      have ml : ci p (hm p l) &&& us p f < 256 := Nat.lt_of_le_of_lt Nat.and_le_right ul
      have pl : pc (ci p (hm p l) &&& us p f) ≤ 8 := pc_le ml (by decide)
      by_cases hb : rg 2 b
      · obtain ⟨w, hw2, rfl⟩ := hb
        rw [two_t (show w ≤ 1 by omega)]
        obtain ⟨g1, e1, F1, Rs, C1, L1, P1, U1⟩ := look2 h hw hA
        obtain ⟨g2, e2, F2, S2, s2, n2⟩ := reliefsA hw P1 Rs.2.2.2.2.2.2.2.2.2.2.2.2.2.2.1 Rs.2.2.2.2.1 h.2.2.2.2.2.2.1 L1.1 L1.2.1 hl
        have FA2 := fresh18 (F1.tr F2 (by decide) (by decide) (by simp))
        rw [e1, Option.bind_some, e2, Option.bind_some, bv_eq]
        by_cases m0 : pc (ci p (hm p l) &&& us p f) = 0
        · have none' : sel (mt p f (hm p l)) (R2 (wRe p f l) (sRe p f l)) (pK p) = none := by
            cases e : sel (mt p f (hm p l)) (R2 (wRe p f l) (sRe p f l)) (pK p) with
            | none => rfl
            | some b =>
              have q := sel_lt e
              rw [pc_mt (by omega) f (hm p l)] at m0
              have := cn_zero.mp m0 b q.1
              rw [q.2] at this
              exact absurd this (by decide)
          rw [none'] at s2
          have k1 : (sS g2 18 0).1 13200 = m1 := s2.1.1
          have k3 : (sS g2 18 0).1 13202 = m1 := n2 none'
          rw [m0, if_pos (show nI 0 = 0 from i00), k1, k3]
          refine ⟨m1, _, _, ?_, rfl, Rel.mk2 h FA2 Fr.rf (CA.fresh S2) hB⟩
          split <;> rfl
        · rw [if_neg (show ¬ nI (pc (ci p (hm p l) &&& us p f)) = 0 from nI_ne0 (by omega) (by omega)), inB_t hw2 (by decide) (by decide), Option.bind_some, if_neg (show ¬ nI 1 = 0 from i10)]
          obtain ⟨g3, e3, F3, L3, P3, N3, C3⟩ := lays2 h hw hB
          have hx : ∃ c, c < pK p ∧ mt p f (hm p l) c = true := by
            apply Classical.byContradiction
            intro hn
            apply m0
            rw [pc_mt (by omega) f (hm p l)]
            exact cn_zero.mpr (fun i hi => by
              cases e : mt p f (hm p l) i
              · rfl
              · exact absurd ⟨i, hi, e⟩ hn)
          obtain ⟨c, hc, hmc'⟩ := hx
          obtain ⟨⟨rB, g5⟩, e5, F5, L5, er5⟩ := reliefsB hw P3 N3 h.2.2.2.2.2.2.1 L3 hl (nI w)
          have F5 : Fr [50] [22, 23, 24] w1 g3 g5 := F5
          have L5 : LB p f g5 := L5
          have rel : Rel (sS g2 18 0) g5 := Rel.mk2 h FA2 (F3.tr F5 (by decide) (by decide) (by simp)) (CA.fresh S2) (C3.trial (F5.1 47 (by simp)) L5)
          obtain ⟨bb, eb⟩ := sel_some (ok := mt p f (hm p l)) (R := R2 (wRe p f l) (sRe p f l)) (n := pK p) (k := c) hc hmc'
          rw [eb] at s2
          have er5 : rB = if nI w = 0 then oN (sel (mt p f (hm p l)) (R2 (wRe p f l) (sRe p f l)) (pK p)) else oW (wRe p f l) (sel (mt p f (hm p l)) (R2 (wRe p f l) (sRe p f l)) (pK p)) := er5
          rw [eb] at er5
          rw [e3, Option.bind_some, e5, er5]
          have k1 : (sS g2 18 0).1 13200 = oN (some bb) := s2.1.1
          have k3 : (sS g2 18 0).1 13202 = oW (wRe p f l) (some bb) := s2.2 bb rfl
          rw [k1, k3]
          by_cases z : nI w = 0
          · rw [if_pos z, if_pos z]
            exact ⟨_, _, _, rfl, rfl, rel⟩
          · rw [if_neg z, if_neg z]
            exact ⟨_, _, _, rfl, rfl, rel⟩
      · rw [two_f hb, inB_f hb (by decide) (by decide), Option.bind_some, if_pos (show nI 0 = 0 from i00)]
        split
        · exact no
        · exact no
  · rw [craftA_f h.2.2.1 ha, craftB_f h.2.2.2.1 ha (by omega), Option.bind_some, Option.bind_some, if_pos i00, if_pos i00]
    exact no
