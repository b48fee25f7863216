/-! THE CALLS: best -/
def tS : List Nat := [13200, 13201, 13202, 13300, 11802]
def tT : List Nat := [119, 121, 122, 123, 124, 125, 126, 127, 128, 129, 134, 135, 136]
/-- the score of a fleet -/
def sco (p : Pl) (f : Fl) (s : Nat) : UInt32 := scr p (sx2 p f s) (pY p)
theorem sco_b {p : Pl} (hw : WP p) (f : Fl) (s : Nat) : lz (sco p f s) (pY p * 288) ∧ gz 107 (sco p f s) := scr_b hw (sx2 p f s) (pY p) (Nat.le_refl _)
theorem sco_f {p : Pl} (hw : WP p) (F : Nat → Fl) (s : Nat → Nat) : fin32 (fun k => sco p (F k) (s k)) := fun k => Nat.le_of_lt (sco_b hw (F k) (s k)).1.1
theorem FA_aPh {p : Pl} {f : Fl} {c φ k u n : Nat} {g : G} (h : FA p (aPh f c φ) u n g) : FA p (aPh f c k) u n (sA g (n + 2) c (nI k)) := by
  refine ⟨h.1, fun q hq => ?_, fun d hd => ⟨?_, ?_⟩⟩
  · rw [sA_21, if_neg (by omega)]
    exact h.2.1 q hq
  · rw [sA_21, if_pos rfl]
    by_cases e : d = c
    · rw [e, upd_self, aPh_at]
    · rw [upd_ne _ _ e, aPh_ne _ _ e, (h.2.2 d hd).1, aPh_ne _ _ e]
  · rw [sA_21, if_neg (by omega)]
    exact (h.2.2 d hd).2
theorem see_aPh {p : Pl} {f : Fl} {c φ k d : Nat} (h : d ≠ c) (t x y : Nat) : see p (aPh f c φ) d t x y = see p (aPh f c k) d t x y := see_cg (f := aPh f c φ) (f' := aPh f c k) rfl ((aPh_ne f φ h).trans (aPh_ne f k h).symm) rfl t x y
/-- one craft drawn anew -/
theorem drawOne {p : Pl} (hw : WP p) {f : Fl} {g : G} (hP : PA p g) (hS : SK p g) (hWF : WF p f) {c φ k : Nat} (hc : c < pK p) (hk : k < tu p (hm p c)) (hA : FA p (aPh f c k) 13300 133 g) (hV : VF p (aPh f c φ) g) :
    Sat (fA_Sky_draw_2 (nI c) g) (fun g' => Fr [11802] [119, 121, 122, 123, 124, 125, 126] w0 g g' ∧ SK p g' ∧ VF p (aPh f c k) g') := by
  have hh := hw.h hc
  have e2 := (hA.2.2 c hc).1
  rw [aPh_at] at e2
  refine (drawT hw hP hS hc (n := fnd f (hm p c)) (φ := k) (r := frc f c) (hWF.1 _ hh) hk (hWF.2 c hc).2.1 (hA.2.1 _ hh) e2 (hA.2.2 c hc).2).mono ?_
  rintro g' ⟨F, S, V, U⟩
  refine ⟨F, S, fun d hd => ?_⟩
  by_cases e : d = c
  · rw [e, aPh_at]
    exact V
  · have := (hV d hd).uc U hd e
    rw [aPh_ne _ _ e] at this ⊢
    exact this
theorem mv1 {p : Pl} {f : Fl} {c : Nat} (hc : c < 8) : (((1 : Int32) <<< (nI c &&& 31)) &&& nI (us p f) : Int32) = nI (1 <<< c &&& us p f) := by
  rw [show (1 : Int32) = nI 1 from rfl, show (31 : Int32) = nI 31 from rfl, n_31 (by omega), n_shl _ (by omega), n_and]
def sBe (p : Pl) (f : Fl) (c k : Nat) : UInt32 := sco p (aPh f c k) (us p f)
set_option maxHeartbeats 1000000 in
theorem phasesA {p : Pl} (hw : WP p) {f : Fl} {g : G} (hP : PA p g) (hS : SH p g) (hF : FA p f 2700 27 g) (hWF : WF p f) (hSK : SK p g) (hV : VF p f g) {c : Nat} (hc : c < pK p) :
    Sat (fA_Trial_tryPhases (nI c) g) (fun g' => Fr tS tT w1 g g' ∧ SK p g' ∧ SA1 (sBe p f c) (sel (fun _ => true) (R1 (sBe p f c)) (tu p (hm p c))) g') := by
  have h1 := hw.c
  have hq := hw.q (hw.h hc)
  have ul := us_lt p f
  unfold fA_Trial_tryPhases
  refine (trialA ⟨by omega, by omega⟩ hF).bind ?_
  rintro g1 ⟨F1, A1, x0, _, _, _⟩
  have u1 : g1.1 2700 = nI (us p f) := (F1.1 2700 (by simp)).trans hF.1
  rw [bv_eq, u1, mv1 (by omega)]
  obtain ⟨mv, emv⟩ : ∃ mv, mv = 1 <<< c &&& us p f := ⟨_, rfl⟩
  rw [← emv, antA ul]
  have ml : mv < 256 := by rw [emv]; exact Nat.lt_of_le_of_lt Nat.and_le_right ul
  have mb : ∀ d, mv.testBit d = (decide (d = c) && (us p f).testBit d) := fun d => by rw [emv, Nat.testBit_and, one_bit (by omega)]
  refine (holdA hw (hP.fr F1 (by simp) (by simp)) (hV.fr F1 (by simp)).vv (s := ant (us p f) mv) (Nat.lt_trans (ant_lt _ _) (by decide))).bind ?_
  rintro g2 ⟨F2, H2⟩
  have F12 : Fr tS tT w1 g g2 := (F1.wd (by decide) (by decide) (by simp)).tr F2 (by simp) (by decide) (by simp)
  refine Sat.lp (fun k z => ∃ g' φ, z = (nI k, g') ∧ Fr tS tT w1 g g' ∧ SK p g' ∧ φ < tu p (hm p c) ∧ FA p (aPh f c φ) 13300 133 g' ∧ VF p (aPh f c φ) g' ∧ HH p 127 (fun t y x => ob (pK p) (fun d => see p f d t x y) (ant (us p f) mv)) g' ∧ SA1 (sBe p f c) (sel (fun _ => true) (R1 (sBe p f c)) k) g') (tu p (hm p c)) (by omega) ⟨g2, fph f c, rfl, F12, (hSK.fr F1 (by simp) (by simp)).fr F2 (by simp) (by simp), (hWF.2 c hc).1, ?_, ?_, H2, ?_, fun b e => by cases e⟩ ?_ ?_
  · rw [aPh_self]
    exact A1.fr F2 (by simp) (by simp)
  · rw [aPh_self]
    exact (hV.fr F1 (by simp)).fr F2 (by simp)
  · rw [F2.1 13200 (by simp), x0]
    rfl
  · rintro rec k _ hk ⟨g3, φ, rfl, F3, S3, hφ, A3, V3, H3, s3⟩ hrec
    have P3 := hP.fr F3 (by decide) (by decide)
    dsimp only
    rw [turnA hw P3 hc, Option.bind_some, if_neg (nI_ge hk (by omega)), ck_nI (by omega) (by decide), bv_eq, nI_clamp (by omega)]
    have A4 := FA_aPh (k := k) A3
    obtain ⟨g4, eg4⟩ : ∃ g4, g4 = sA g3 135 c (nI k) := ⟨_, rfl⟩
    have A4 : FA p (aPh f c k) 13300 133 g4 := by rw [eg4]; exact A4
    have F34 : Fr [] [135] w0 g3 g4 := by rw [eg4]; exact Fr.rf.sA (by simp)
    rw [← eg4]
    refine (drawOne hw (P3.fr F34 (by simp) (by simp)) (S3.fr F34 (by simp) (by simp)) hWF hc hk A4 (V3.fr F34 (by simp))).bind ?_
    rintro g5 ⟨F5, S5, V5⟩
    have F35 : Fr [11802] [119, 121, 122, 123, 124, 125, 126, 135] w0 g3 g5 := (F34.wd (by simp) (by simp) (by simp)).tr F5 (by simp) (by simp) (by simp)
    have P5 := P3.fr F35 (by simp) (by simp)
    refine (joinA hw P5 V5.vv (s := mv) (by omega) (H3.fr F35 (by simp))).bind ?_
    rintro g6 ⟨F6, H6⟩
    have H6 : HH p 128 (sx2 p (aPh f c k) (us p f)) g6 := H6.cg (fun t y x => by
      refine ob_split (V := fun d => see p f d t x y) (V' := fun d => see p (aPh f c k) d t x y) (by omega) (fun d hd hb => ?_) (fun d hd hb hu => ?_)
      · rw [mb d, Bool.and_eq_true] at hb
        exact hb.2
      · have hdc : d ≠ c := fun e => by
          rw [mb d, hu, e] at hb
          simp at hb
        have := see_aPh (p := p) (f := f) (φ := fph f c) (k := k) hdc t x y
        rw [aPh_self] at this
        exact this)
    have F36 : Fr [11802] [119, 121, 122, 123, 124, 125, 126, 128, 135] w0 g3 g6 := (F35.wd (by simp) (by simp) (by simp)).tr F6 (by simp) (by simp) (by simp)
    have P6 := P3.fr F36 (by simp) (by simp)
    have Fall : Fr tS tT w1 g g6 := F3.tr F36 (by decide) (by decide) (by simp)
    refine (highA hw P6 (hS.fr Fall rfl) H6 (S := sBe p f c) (sco_f hw (fun k => aPh f c k) (fun _ => us p f)) (by omega) (fun b e => by have := (sel_lt e).1; omega) rfl (s3.fr F36 (by simp) rfl)).bind ?_
    rintro g7 ⟨F7, s7⟩
    rw [show (nI k + 1 : Int32) = nI (k + 1) from nI_add k 1]
    refine hrec _ ⟨g7, k, rfl, Fall.tr F7 (by decide) (by simp) (by simp), (S5.fr F6 (by simp) (by simp)).fr F7 (by simp) (by simp), hk, ?_, (V5.fr F6 (by simp)).fr F7 (by simp), ?_, ?_⟩
    · exact ((A4.fr F5 (by simp) (by simp)).fr F6 (by simp) (by simp)).fr F7 (by simp) (by simp)
    · exact (H3.fr F36 (by simp)).fr F7 (by simp)
    · rw [sel_t rfl]
      exact s7
  · rintro rec _ ⟨g3, φ, rfl, F3, S3, hφ, A3, V3, H3, s3⟩
    have P3 := hP.fr F3 (by decide) (by decide)
    dsimp only
    rw [turnA hw P3 hc, Option.bind_some, if_pos (nI_le (Nat.le_refl _) (by omega))]
    exact Sat.of ⟨F3, S3, s3⟩
theorem Fr.now {S T : List Nat} {w : Bool × Bool × Bool} {g g' : G} (F : Fr S (20 :: T) w g g') (e : g'.2.1 20 = g.2.1 20) : Fr S T w g g' :=
  ⟨F.1, fun k hk => by
    by_cases z : k = 20
    · rw [z]; exact e
    · exact F.2.1 k (fun m => by
        rcases List.mem_cons.mp m with y | y
        · exact z y
        · exact hk y), F.2.2.1, F.2.2.2.1, F.2.2.2.2⟩
theorem FB_aPh {p : Pl} {f : Fl} {c φ k : Nat} {g : G} (hK : pK p ≤ 8) (hq : pP p ≤ 4) (h : FB p (aPh f c φ) g) (hc : c < pK p) : FB p (aPh f c k) (sA g 20 (12 + c) (nI k)) := by
  refine ⟨fun q hq => ?_, fun d hd => ⟨?_, ?_, ?_⟩⟩
  · rw [sA_21, if_pos rfl, upd_ne _ _ (by omega)]
    exact h.1 q hq
  · rw [sA_21, if_pos rfl, upd_ne _ _ (by omega)]
    exact (h.2 d hd).1
  · rw [sA_21, if_pos rfl]
    by_cases e : d = c
    · rw [e, upd_self, aPh_at]
    · rw [upd_ne _ _ (by omega), aPh_ne _ _ e, (h.2 d hd).2.1, aPh_ne _ _ e]
  · rw [sA_21, if_pos rfl, upd_ne _ _ (by omega)]
    exact (h.2 d hd).2.2
/-- a set that is laid, behind a trial -/
theorem CB.trial {p : Pl} {f : Fl} {g g' : G} (h : CB p f g) (e : g'.1 47 = g.1 47) (L : LB p f g') : CB p f g' := by
  intro w
  rcases h w with z | z
  · exact Or.inl (e.trans z)
  · exact Or.inr ⟨e.trans z.1, L⟩
theorem highB {S : Nat → UInt32} (hf : fin32 S) {k : Nat} {o : Option Nat} {g : G} (h : SB1 S o g) (ho : ∀ b, o = some b → b < 2 ^ 31) {α : Type} {J14 : Int32 × G → Option α} {P : α → Prop}
    (hJ : ∀ g', Fr [] [] w1 g g' → SB1 S (stp (R1 S) k o) g' → Sat (J14 (oN (stp (R1 S) k o), g')) P) :
    Sat (if oN o = (-1) then (bv (sF g 0 (S k)) fun g16 => J14 (nI k, g16)) else (if 0 < (Op.cmpValue (FP.fcmp (S k) (g.2.2.2.1 0)) .g) then (bv (sF g 0 (S k)) fun g16 => J14 (nI k, g16)) else J14 (oN o, g))) P := by
  have take : ∀ (e : stp (R1 S) k o = some k), Sat (bv (sF g 0 (S k)) fun g16 => J14 (nI k, g16)) P := by
    intro e
    rw [bv_eq]
    have := hJ (sF g 0 (S k)) (Fr.rf.sF rfl) (by rw [e]; intro b eb; cases eb; rfl)
    rw [e] at this
    exact this
  cases o with
  | none =>
    rw [if_pos (show oN none = -1 from rfl)]
    exact take rfl
  | some b =>
    have hb := ho b rfl
    have e2 : g.2.2.2.1 0 = S b := h b rfl
    rw [if_neg (show ¬ oN (some b) = -1 from fun z => (n_ne_m1 hb).mp z), e2]
    by_cases l : (S b).toNat < (S k).toNat
    · rw [if_pos ((cmp_gt (hf k) (hf b) _).mpr l)]
      exact take (if_pos (decide_eq_true l))
    · rw [if_neg (fun z => l ((cmp_gt (hf k) (hf b) _).mp z))]
      have e : stp (R1 S) k (some b) = some b := if_neg (fun z => l (of_decide_eq_true z))
      have := hJ g Fr.rf (by rw [e]; exact h)
      rw [e] at this
      exact this
