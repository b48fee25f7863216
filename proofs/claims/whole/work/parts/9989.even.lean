/-! THE CALLS: even -/
theorem mt_sp {p : Pl} {f : Fl} {q a : Nat} : mt p (sp p f q a) q = mt p f q := by
  funext c
  unfold mt
  rw [sp_up]
theorem sp_sp {p : Pl} {f : Fl} {q a k : Nat} : sp p (sp p f q a) q k = sp p f q k := by
  funext b j
  have e1 : sp p (sp p f q a) q k b j = if b = 1 ∧ j < pK p ∧ mt p (sp p f q a) q j = true then (k + cn (mt p (sp p f q a) q) j * tu p q / cn (mt p (sp p f q a) q) (pK p)) % tu p q else sp p f q a b j := rfl
  have e2 : sp p f q k b j = if b = 1 ∧ j < pK p ∧ mt p f q j = true then (k + cn (mt p f q) j * tu p q / cn (mt p f q) (pK p)) % tu p q else f b j := rfl
  rw [e1, e2, mt_sp]
  by_cases c : b = 1 ∧ j < pK p ∧ mt p f q j = true
  · rw [if_pos c, if_pos c]
  · rw [if_neg c, if_neg c]
    show (if b = 1 ∧ j < pK p ∧ mt p f q j = true then _ else f b j) = f b j
    rw [if_neg c]
theorem see_sp {p : Pl} {f : Fl} {q k d : Nat} (hd : d < pK p) (h : mt p f q d = false) (t x y : Nat) : see p f d t x y = see p (sp p f q k) d t x y := by
  refine see_cg (f := f) (f' := sp p f q k) sp_nd.symm ?_ sp_rc.symm t x y
  rw [sp_ph hd, if_neg (by rw [h]; decide)]
theorem pc_z0 {m : Nat} (hm : m < 256) : pc m = 0 ↔ m = 0 := by
  constructor
  · intro z
    apply Nat.eq_of_testBit_eq
    intro i
    rw [Nat.zero_testBit]
    by_cases l : i < 32
    · exact cn_zero.mp z i l
    · exact bit_hi (n := 8) hm (by omega)
  · intro z
    rw [z]
    exact pc_0
def wEv (p : Pl) (f : Fl) (q k : Nat) : Nat := ww p (sx2 p (sp p f q k) (us p f))
def sEv (p : Pl) (f : Fl) (q k : Nat) : UInt32 := sco p (sp p f q k) (us p f)
set_option maxHeartbeats 1000000 in
theorem spreadsA {p : Pl} (hw : WP p) {f : Fl} {g : G} (hP : PA p g) (hS : SH p g) (hF : FA p f 2700 27 g) (hWF : WF p f) (hSK : SK p g) (hV : VF p f g) {q : Nat} (hq : q < pP p) :
    Sat (fA_Trial_trySpreads (nI q) g) (fun g' => Fr tS tT w1 g g' ∧ SK p g' ∧ (ci p q &&& us p f = 0 → g'.1 13200 = m1 ∧ g'.1 13202 = m1) ∧ (ci p q &&& us p f ≠ 0 → SA2 (wEv p f q) (sEv p f q) (sel (fun _ => true) (R2 (wEv p f q) (sEv p f q)) (tu p q)) g')) := by
  have h1 := hw.c
  have tq := hw.q hq
  have ul := us_lt p f
  unfold fA_Trial_trySpreads
  refine (trialA ⟨by omega, by omega⟩ hF).bind ?_
  rintro g1 ⟨F1, A1, x0, _, x2, _⟩
  have u1 : g1.1 2700 = nI (us p f) := (F1.1 2700 (by simp)).trans hF.1
  rw [craftInA (by omega) (fun c hc => by have := hw.h hc; omega) (hP.fr F1 (by simp) (by simp)) (by omega), Option.bind_some, bv_eq, u1, n_and]
  obtain ⟨mv, emv⟩ : ∃ mv, mv = ci p q &&& us p f := ⟨_, rfl⟩
  have hcn : pc mv = cn (mt p f q) (pK p) := by rw [emv]; exact pc_mt (by omega) f q
  rw [← emv]
  have ml : mv < 256 := by rw [emv]; exact Nat.lt_of_le_of_lt Nat.and_le_right ul
  have F1' : Fr tS tT w1 g g1 := F1.wd (by decide) (by decide) (by simp)
  by_cases z : mv = 0
  · rw [z, if_pos i00]
    exact Sat.of ⟨F1', hSK.fr F1 (by simp) (by simp), fun _ => ⟨x0, x2⟩, fun y => absurd rfl y⟩
  · rw [if_neg (nI_ne0 (by omega) (by omega)), antA ul]
    have hn : 0 < cn (mt p f q) (pK p) := by
      rw [← hcn]
      exact Nat.pos_of_ne_zero (fun y => z ((pc_z0 ml).mp y))
    have mb : ∀ d, d < pK p → mv.testBit d = mt p f q d := fun d hd => by rw [emv]; exact mt_bit (by omega) hd
    have mbu : ∀ d, d < pK p → mv.testBit d = true → (us p f).testBit d = true := fun d hd hb => by
      rw [emv, Nat.testBit_and, Bool.and_eq_true] at hb
      exact hb.2
    refine (holdA hw (hP.fr F1 (by simp) (by simp)) (hV.fr F1 (by simp)).vv (s := ant (us p f) mv) (Nat.lt_trans (ant_lt _ _) (by decide))).bind ?_
    rintro g2 ⟨F2, H2⟩
    have F12 : Fr tS tT w1 g g2 := F1'.tr F2 (by simp) (by decide) (by simp)
    refine Sat.lp (fun k z => ∃ g' f', z = (nI k, g') ∧ (f' = f ∨ ∃ a, f' = sp p f q a) ∧ Fr tS tT w1 g g' ∧ SK p g' ∧ FA p f' 13300 133 g' ∧ HH p 127 (fun t y x => ob (pK p) (fun d => see p f d t x y) (ant (us p f) mv)) g' ∧ SA2 (wEv p f q) (sEv p f q) (sel (fun _ => true) (R2 (wEv p f q) (sEv p f q)) k) g') (tu p q) (by omega) ⟨g2, f, rfl, Or.inl rfl, F12, (hSK.fr F1 (by simp) (by simp)).fr F2 (by simp) (by simp), A1.fr F2 (by simp) (by simp), H2, ⟨by rw [F2.1 13200 (by simp), x0]; rfl, fun b e => by cases e⟩, fun b e => by cases e⟩ ?_ ?_
    · rintro rec k _ hk ⟨g3, f', rfl, hf', F3, S3, A3, H3, s3⟩ hrec
      have P3 := hP.fr F3 (by decide) (by decide)
      have emt : mt p f' q = mt p f q := by
        rcases hf' with e | ⟨a, e⟩
        · rw [e]
        · rw [e, mt_sp]
      have esp : sp p f' q k = sp p f q k := by
        rcases hf' with e | ⟨a, e⟩
        · rw [e]
        · rw [e, sp_sp]
      dsimp only
      rw [ag_nI (by omega) (by decide), (P3.2.1 q hq).2.1, if_neg (nI_ge hk (by omega))]
      refine (spreadT hw P3 A3 hq (φ := k) (by omega) (by rw [emt]; exact hn)).bind ?_
      rintro g4 ⟨F34, A4⟩
      rw [esp] at A4
      refine (drawAllT hw (P3.fr F34 (by simp) (by simp)) (S3.fr F34 (by simp) (by simp)) A4 (sp_wf hw hq hWF)).bind ?_
      rintro g5 ⟨F5, S5, V5⟩
      have F35 : Fr [11802] [119, 121, 122, 123, 124, 125, 126, 135] w0 g3 g5 := (F34.wd (by simp) (by simp) (by simp)).tr F5 (by simp) (by simp) (by simp)
      have P5 := P3.fr F35 (by simp) (by simp)
      refine (joinA hw P5 V5.vv (s := mv) (by omega) (H3.fr F35 (by simp))).bind ?_
      rintro g6 ⟨F6, H6⟩
      have H6 : HH p 128 (sx2 p (sp p f q k) (us p f)) g6 := H6.cg (fun t y x => by
        refine ob_split (V := fun d => see p f d t x y) (V' := fun d => see p (sp p f q k) d t x y) (by omega) (fun d hd hb => mbu d hd hb) (fun d hd hb hu => ?_)
        rw [mb d hd] at hb
        exact see_sp hd hb t x y)
      have F36 : Fr [11802] [119, 121, 122, 123, 124, 125, 126, 128, 135] w0 g3 g6 := (F35.wd (by simp) (by simp) (by simp)).tr F6 (by simp) (by simp) (by simp)
      have P6 := P3.fr F36 (by simp) (by simp)
      have Fall : Fr tS tT w1 g g6 := F3.tr F36 (by decide) (by decide) (by simp)
      have S6 := S5.fr F6 (by simp) (by simp)
      refine (lesserA hw P6 S6.1.1 (hS.fr Fall rfl) H6 (W := wEv p f q) (S := sEv p f q) (sco_f hw (fun k => sp p f q k) (fun _ => us p f)) (fun k => ww_lt hw _) (by omega) (fun b e => by have := (sel_lt e).1; omega) rfl rfl (s3.fr F36 (by simp) rfl)).bind ?_
      rintro g7 ⟨F7, s7⟩
      rw [show (nI k + 1 : Int32) = nI (k + 1) from nI_add k 1]
      refine hrec _ ⟨g7, sp p f q k, rfl, Or.inr ⟨k, rfl⟩, Fall.tr F7 (by decide) (by decide) (by simp), S6.fr F7 (by simp) (by simp), ?_, ?_, ?_⟩
      · exact ((A4.fr F5 (by simp) (by simp)).fr F6 (by simp) (by simp)).fr F7 (by simp) (by simp)
      · exact (H3.fr F36 (by simp)).fr F7 (by simp)
      · rw [sel_t rfl]
        exact s7
    · rintro rec _ ⟨g3, f', rfl, hf', F3, S3, A3, H3, s3⟩
      have P3 := hP.fr F3 (by decide) (by decide)
      dsimp only
      rw [ag_nI (by omega) (by decide), (P3.2.1 q hq).2.1, if_pos (nI_le (Nat.le_refl _) (by omega))]
      exact Sat.of ⟨F3, S3, fun y => absurd y z, fun _ => s3⟩
theorem lessB {W : Nat → Nat} {S : Nat → UInt32} (hf : fin32 S) (hWl : ∀ k, W k < 2 ^ 31) {k : Nat} {o : Option Nat} {g : G} (h : SB1 S o g) (ho : ∀ b, o = some b → b < 2 ^ 31) {α : Type} {J : Int32 × Int32 × G → Option α} {P : α → Prop}
    (hJ : ∀ g', Fr [] [] w1 g g' → SB1 S (stp (R2 W S) k o) g' → Sat (J (oN (stp (R2 W S) k o), oW W (stp (R2 W S) k o), g')) P) :
    Sat (if oN o = (-1) then (if oN o = (-1) then (bv (sF g 0 (S k)) fun g14 => J (nI k, nI (W k), g14)) else (if nI (W k) = oW W o then (if 0 < (Op.cmpValue (FP.fcmp (S k) (g.2.2.2.1 0)) .g) then (bv (sF g 0 (S k)) fun g14 => J (nI k, nI (W k), g14)) else J (oN o, oW W o, g)) else (bv (sF g 0 (S k)) fun g14 => J (nI k, nI (W k), g14))))
      else (if nI (W k) ≤ oW W o then (if oN o = (-1) then (bv (sF g 0 (S k)) fun g14 => J (nI k, nI (W k), g14)) else (if nI (W k) = oW W o then (if 0 < (Op.cmpValue (FP.fcmp (S k) (g.2.2.2.1 0)) .g) then (bv (sF g 0 (S k)) fun g14 => J (nI k, nI (W k), g14)) else J (oN o, oW W o, g)) else (bv (sF g 0 (S k)) fun g14 => J (nI k, nI (W k), g14)))) else J (oN o, oW W o, g))) P := by
  have take : ∀ (e : stp (R2 W S) k o = some k), Sat (bv (sF g 0 (S k)) fun g14 => J (nI k, nI (W k), g14)) P := by
    intro e
    rw [bv_eq]
    have := hJ (sF g 0 (S k)) (Fr.rf.sF rfl) (by rw [e]; intro b eb; cases eb; rfl)
    rw [e] at this
    exact this
  have skip : ∀ (e : stp (R2 W S) k o = o), Sat (J (oN o, oW W o, g)) P := by
    intro e
    have := hJ g Fr.rf (by rw [e]; exact h)
    rw [e] at this
    exact this
  cases o with
  | none =>
    rw [if_pos (show oN none = -1 from rfl), if_pos (show oN none = -1 from rfl)]
    exact take rfl
  | some b =>
    have hb := ho b rfl
    have e2 : g.2.2.2.1 0 = S b := h b rfl
    have nb : ¬ oN (some b) = -1 := fun z => (n_ne_m1 hb).mp z
    rw [if_neg nb, if_neg nb, e2, show oW W (some b) = nI (W b) from rfl, ite_len (hWl k) (hWl b), ite_eqn (hWl k) (hWl b)]
    by_cases l : W k ≤ W b
    · rw [if_pos l]
      by_cases l2 : W k = W b
      · rw [if_pos l2]
        by_cases l3 : (S b).toNat < (S k).toNat
        · rw [if_pos ((cmp_gt (hf k) (hf b) _).mpr l3)]
          exact take (if_pos (decide_eq_true (Or.inr ⟨l2, l3⟩)))
        · rw [if_neg (fun z => l3 ((cmp_gt (hf k) (hf b) _).mp z))]
          exact skip (if_neg (fun z => by have := of_decide_eq_true z; omega))
      · rw [if_neg l2]
        exact take (if_pos (decide_eq_true (Or.inl (by omega))))
    · rw [if_neg l]
      exact skip (if_neg (fun z => by have := of_decide_eq_true z; omega))
set_option maxHeartbeats 2000000 in
theorem evenB {p : Pl} (hw : WP p) {f : Fl} {g : G} (hP : PB p g) (hF : FB p f g) (hWF : WF p f) (hL : LB p f g) {q : Nat} (hq : q < pP p) (hn : 0 < cn (mt p f q) (pK p)) (a2 : Int32) :
    Sat (Lp (α := Int32 × G) (fun rec5 s5 => (if 28 ≤ s5.1 then Lp (α := Int32 × Int32 × Int32 × G) (fun rec6 s6 => ag 4 (s6.2.2.2.2.1 3) (nI q) fun x7 => (if x7 ≤ s6.2.2.1 then Lp (α := Int32 × G) (fun rec8 s8 => (if 28 ≤ s8.1 then Option.bind (fB_M_laysPlane (nI q) s8.2) fun x9 => (if a2 = 0 then some (s6.1, x9) else some (s6.2.1, x9)) else ag 28 (s8.2.2.1 25) s8.1 fun x10 => ck 28 s8.1 (bv (sA s8.2 20 (s8.1 : Int32).toNatClampNeg x10) fun g11 => rec8 (s8.1 + 1, g11)))) FU (0, s6.2.2.2) else Option.bind (fB_M_spreads (nI q) s6.2.2.1 s6.2.2.2) fun x12 => Option.bind (fB_M_laysPlane (nI q) x12) fun x13 => Option.bind (fB_M_upSet x13) fun x14 => Option.bind (fB_M_worstBy x14 x13) fun x15 => lj (α := Int32 × Int32 × G) (fun b16 => rec6 (b16.1, b16.2.1, s6.2.2.1 + 1, b16.2.2)) fun J16 => lj (α := Unit) (fun b17 => Option.bind (fB_M_upSet x15.2) fun x18 => Option.bind (fB_M_scoreBy x18 x15.2) fun x19 => lj (α := Unit) (fun b20 => bv (sF x15.2 0 x19) fun g21 => J16 (s6.2.2.1, x15.1, g21)) fun J20 => (if s6.1 = (-1) then J20 () else (if x15.1 = s6.2.1 then (if 0 < (Op.cmpValue (FP.fcmp x19 (x15.2.2.2.2.1 0)) .g) then J20 () else J16 (s6.1, s6.2.1, x15.2)) else J20 ()))) fun J17 => (if s6.1 = (-1) then J17 () else (if x15.1 ≤ s6.2.1 then J17 () else J16 (s6.1, s6.2.1, x15.2))))) FU ((-1), 0, 0, s5.2) else ag 28 (s5.2.2.1 20) s5.1 fun x22 => ck 28 s5.1 (bv (sA s5.2 25 (s5.1 : Int32).toNatClampNeg x22) fun g23 => rec5 (s5.1 + 1, g23)))) FU (0, g)) (fun r => Fr [50] [22, 23, 24, 25] w1 g r.2 ∧ LB p f r.2 ∧ r.1 = if a2 = 0 then oN (sel (fun _ => true) (R2 (wEv p f q) (sEv p f q)) (tu p q)) else oW (wEv p f q) (sel (fun _ => true) (R2 (wEv p f q) (sEv p f q)) (tu p q))) := by
  have h1 := hw.c
  have tq := hw.q hq
  have hfin : fin32 (sEv p f q) := sco_f hw (fun k => sp p f q k) (fun _ => us p f)
  obtain ⟨Q, hQ⟩ : ∃ Q : Int32 × G → Prop, Q = fun r => Fr [50] [22, 23, 24, 25] w1 g r.2 ∧ LB p f r.2 ∧ r.1 = if a2 = 0 then oN (sel (fun _ => true) (R2 (wEv p f q) (sEv p f q)) (tu p q)) else oW (wEv p f q) (sel (fun _ => true) (R2 (wEv p f q) (sEv p f q)) (tu p q)) := ⟨_, rfl⟩
  rw [← hQ]
  refine Sat.lp (fun i z => ∃ g', z = (nI i, g') ∧ Fr [] [25] w0 g g' ∧ ∀ j, j < i → g'.2.1 25 j = g.2.1 20 j) 28 (by decide) ⟨g, rfl, Fr.rf, fun j hj => absurd hj (Nat.not_lt_zero j)⟩ ?_ ?_
  · rintro rec i _ hi ⟨g1, rfl, F1, k1⟩ hrec
    dsimp only
    rw [if_neg (show ¬ 28 ≤ nI i from nI_ge (b := 28) hi (by decide)), ag_nI (by omega) (by decide), ck_nI (by omega) (by decide), bv_eq, nI_clamp (by omega), show (nI i + 1 : Int32) = nI (i + 1) from nI_add i 1]
    refine hrec _ ⟨_, rfl, F1.sA (by simp), fun j hj => ?_⟩
    rw [sA_21, if_pos rfl]
    by_cases e : j = i
    · rw [e, upd_self, F1.2.1 20 (by simp)]
    · rw [upd_ne _ _ e]
      exact k1 j (by omega)
  · rintro rec _ ⟨g1, rfl, F1, k1⟩
    dsimp only
    rw [if_pos (show (28 : Int32) ≤ nI 28 by decide)]
    have N1 := hF.fr F1 (by simp)
    have L1 := hL.fr F1 (by simp)
    refine Sat.lp (fun k z => ∃ g' f', z = (oN (sel (fun _ => true) (R2 (wEv p f q) (sEv p f q)) k), oW (wEv p f q) (sel (fun _ => true) (R2 (wEv p f q) (sEv p f q)) k), nI k, g') ∧ (f' = f ∨ ∃ a, f' = sp p f q a) ∧ Fr [50] [20, 22, 23, 24] w1 g1 g' ∧ FB p f' g' ∧ LB p f' g' ∧ SB1 (sEv p f q) (sel (fun _ => true) (R2 (wEv p f q) (sEv p f q)) k) g' ∧ ∀ j, 28 ≤ j → g'.2.1 20 j = g1.2.1 20 j) (tu p q) (by omega) ⟨g1, f, rfl, Or.inl rfl, Fr.rf, N1, L1, (fun b e => by cases e), fun j _ => rfl⟩ ?_ ?_
    · rintro rec2 k _ hk ⟨g2, f', rfl, hf', F2, N2, L2, s2, k2⟩ hrec2
      have P2 := (hP.fr F1 (by simp) (by simp)).fr F2 (by simp) (by simp)
      have emt : mt p f' q = mt p f q := by
        rcases hf' with e | ⟨a, e⟩
        · rw [e]
        · rw [e, mt_sp]
      have esp : sp p f' q k = sp p f q k := by
        rcases hf' with e | ⟨a, e⟩
        · rw [e]
        · rw [e, sp_sp]
      have wf' : WF p f' := by
        rcases hf' with e | ⟨a, e⟩
        · rw [e]; exact hWF
        · rw [e]; exact sp_wf hw hq hWF
      dsimp only
      rw [ag_nI (by omega) (by decide), (P2.2.1 q hq).2, if_neg (nI_ge hk (by omega))]
      refine (spreadB hw P2 N2 wf' hq (φ := k) (by omega) (by rw [emt]; exact hn)).bind ?_
      rintro g3 ⟨F3, N3, j3⟩
      rw [esp] at N3
      have wf := sp_wf (φ := k) hw hq hWF
      refine (laysP hw (P2.fr F3 (by simp) (by simp)) N3 wf hq (L2.fr F3 (by simp)) (fun i hi ne t x y => by
        have m0 : mt p f' q i = false := by
          unfold mt
          rw [decide_eq_false ne]
          rfl
        rw [← esp]
        exact see_sp hi m0 t x y)).bind ?_
      rintro g4 ⟨F4, L4⟩
      have F24 : Fr [] [20, 22] w0 g2 g4 := (F3.wd (by simp) (by simp) (by simp)).tr F4 (by simp) (by simp) (by simp)
      have P4 := P2.fr F24 (by simp) (by simp)
      have N4 := N3.fr F4 (by simp)
      rw [upSetB hw P4 N4 wf, Option.bind_some, sp_us]
      refine (worstByB hw P4 L4 (us p f)).bind ?_
      rintro ⟨r, g5⟩ ⟨F5, er⟩
      have F5 : Fr [50] [23, 24] w0 g4 g5 := F5
      have er : r = nI (wEv p f q k) := er
      have P5 := P4.fr F5 (by simp) (by simp)
      have N5 := N4.fr F5 (by simp)
      have L5 := L4.fr F5 (by simp)
      dsimp only
      rw [er, lj_eq, lj_eq, upSetB hw P5 N5 wf, Option.bind_some, sp_us, scoreB hw P5 L5, Option.bind_some, lj_eq]
      have es : scr p (sx2 p (sp p f q k) (us p f)) (pY p) = sEv p f q k := rfl
      rw [es, show (nI k + 1 : Int32) = nI (k + 1) from nI_add k 1]
      have F25 : Fr [50] [20, 22, 23, 24] w0 g2 g5 := (F24.wd (by simp) (by simp) (by simp)).tr F5 (by simp) (by simp) (by simp)
      refine lessB (k := k) (W := wEv p f q) (J := fun b16 => rec2 (b16.1, b16.2.1, nI (k + 1), b16.2.2)) hfin (fun k => ww_lt hw _) (s2.fr F25 rfl) (fun b e => by have := (sel_lt e).1; omega) (fun g6 F6 s6 => ?_)
      refine hrec2 _ ⟨g6, sp p f q k, by rw [sel_t rfl], Or.inr ⟨k, rfl⟩, (F2.tr F25 (by simp) (by simp) (by simp)).tr F6 (by simp) (by simp) (by simp), N5.fr F6 (by simp), L5.fr F6 (by simp), by rw [sel_t rfl]; exact s6, fun j hj => ?_⟩
      rw [F6.2.1 20 (by simp), F5.2.1 20 (by simp), F4.2.1 20 (by simp), j3 j (Or.inr (by omega))]
      exact k2 j hj
    · rintro rec2 _ ⟨g2, f', rfl, hf', F2, N2, L2, s2, k2⟩
      have P2 := (hP.fr F1 (by simp) (by simp)).fr F2 (by simp) (by simp)
      dsimp only
      rw [ag_nI (by omega) (by decide), (P2.2.1 q hq).2, if_pos (nI_le (Nat.le_refl _) (by omega))]
      refine Sat.lp (fun i z => ∃ g', z = (nI i, g') ∧ Fr [] [20] w0 g2 g' ∧ (∀ j, j < i → g'.2.1 20 j = g.2.1 20 j) ∧ ∀ j, i ≤ j → g'.2.1 20 j = g2.2.1 20 j) 28 (by decide) ⟨g2, rfl, Fr.rf, (fun j hj => absurd hj (Nat.not_lt_zero j)), fun j _ => rfl⟩ ?_ ?_
      · rintro rec3 i _ hi ⟨g3, rfl, F3, k3, j3⟩ hrec3
        dsimp only
        rw [if_neg (show ¬ 28 ≤ nI i from nI_ge (b := 28) hi (by decide)), ag_nI (by omega) (by decide), ck_nI (by omega) (by decide), bv_eq, nI_clamp (by omega), show (nI i + 1 : Int32) = nI (i + 1) from nI_add i 1]
        refine hrec3 _ ⟨_, rfl, F3.sA (by simp), fun j hj => ?_, fun j hj => ?_⟩
        · rw [sA_21, if_pos rfl]
          by_cases e : j = i
          · rw [e, upd_self, F3.2.1 25 (by simp), F2.2.1 25 (by simp), k1 i (by omega)]
          · rw [upd_ne _ _ e]
            exact k3 j (by omega)
        · rw [sA_21, if_pos rfl, upd_ne _ _ (by omega)]
          exact j3 j (by omega)
      · rintro rec3 _ ⟨g3, rfl, F3, k3, j3⟩
        dsimp only
        rw [if_pos (show (28 : Int32) ≤ nI 28 by decide)]
        have e20 : g3.2.1 20 = g.2.1 20 := by
          funext j
          by_cases l : j < 28
          · exact k3 j l
          · rw [j3 j (by omega), k2 j (by omega), F1.2.1 20 (by simp)]
        have N3 : FB p f g3 := by
          unfold FB
          rw [e20]
          exact hF
        refine (laysP hw (P2.fr F3 (by simp) (by simp)) N3 hWF hq (L2.fr F3 (by simp)) (fun i hi ne t x y => by
          rcases hf' with e | ⟨a, e⟩
          · rw [e]
          · have m0 : mt p f q i = false := by
              unfold mt
              rw [decide_eq_false ne]
              rfl
            rw [e]
            exact (see_sp hi m0 t x y).symm)).bind ?_
        rintro g4 ⟨F4, L4⟩
        have Fall : Fr [50] [20, 22, 23, 24, 25] w1 g g4 := (((F1.wd (by simp) (by simp) (by simp)).tr F2 (by simp) (by simp) (by simp)).tr F3 (by simp) (by simp) (by simp)).tr F4 (by simp) (by simp) (by simp)
        have Fn : Fr [50] [22, 23, 24, 25] w1 g g4 := Fall.now (by rw [F4.2.1 20 (by simp)]; exact e20)
        rw [hQ]
        by_cases z : a2 = 0
        · rw [if_pos z]
          exact Sat.of ⟨Fn, L4, by rw [if_pos z]⟩
        · rw [if_neg z]
          exact Sat.of ⟨Fn, L4, by rw [if_neg z]⟩
theorem c_even {p : Pl} {f : Fl} {gA gB : G} (h : RS p f gA gB) (hA : CA p f gA) (hB : CB p f gB) (a b : Int32) : Eq2 (fA_D_even a b gA) (fB_M_even a b gB) := by
  have hl := h.lt
  have no : Eq2 (some ((-1 : Int32), gA)) (some (-1, gB)) := ⟨_, _, _, rfl, rfl, p, f, h, hA, hB⟩
  unfold fA_D_even fB_M_even
  by_cases ha : rg (pP p) a
  · obtain ⟨q, hq, rfl⟩ := ha
    have hw := h.wp (by omega)
    have h1 := hw.c
    have tq := hw.q hq
    have ul := us_lt p f
    have ml : ci p q &&& us p f < 256 := Nat.lt_of_le_of_lt Nat.and_le_right ul
    have pl : pc (ci p q &&& us p f) ≤ 8 := pc_le ml (by decide)
    rw [planeA_t h.2.2.1 hq (by omega), planeB_t h.2.2.2.1 hq (by omega), Option.bind_some, Option.bind_some, if_neg i10, if_neg i10, upInB hw h.2.2.2.1 h.2.2.2.2.2.1 h.2.2.2.2.2.2.1 (by omega), Option.bind_some]
    by_cases hb : rg 2 b
    · obtain ⟨w, hw2, rfl⟩ := hb
      rw [two_t (show w ≤ 1 by omega)]
      obtain ⟨g1, e1, F1, Rs, C1, L1, P1, U1⟩ := look2 h hw hA
      obtain ⟨g2, e2, F2, S2, s2z, s2⟩ := spreadsA hw P1 Rs.2.2.2.2.2.2.2.2.2.2.2.2.2.2.1 Rs.2.2.2.2.1 h.2.2.2.2.2.2.1 L1.1 L1.2.1 hq
      have FA2 := fresh18 (F1.tr F2 (by decide) (by decide) (by simp))
      rw [e1, Option.bind_some, e2, Option.bind_some, bv_eq]
      by_cases m0 : ci p q &&& us p f = 0
      · have k1 : (sS g2 18 0).1 13200 = m1 := (s2z m0).1
        have k3 : (sS g2 18 0).1 13202 = m1 := (s2z m0).2
        rw [m0, pc_0, if_pos (show nI 0 = 0 from i00), k1, k3]
        refine ⟨m1, _, _, ?_, rfl, Rel.mk2 h FA2 Fr.rf (CA.fresh S2) hB⟩
        split <;> rfl
      · have pn : pc (ci p q &&& us p f) ≠ 0 := fun z => m0 ((pc_z0 ml).mp z)
        rw [if_neg (show ¬ nI (pc (ci p q &&& us p f)) = 0 from nI_ne0 (by omega) (by omega)), inB_t hw2 (by decide) (by decide), Option.bind_some, if_neg (show ¬ nI 1 = 0 from i10)]
        obtain ⟨g3, e3, F3, L3, P3, N3, C3⟩ := lays2 h hw hB
        have hn : 0 < cn (mt p f q) (pK p) := by
          rw [← pc_mt (by omega) f q]
          omega
        obtain ⟨⟨rB, g5⟩, e5, F5, L5, er5⟩ := evenB hw P3 N3 h.2.2.2.2.2.2.1 L3 hq hn (nI w)
        have F5 : Fr [50] [22, 23, 24, 25] w1 g3 g5 := F5
        have L5 : LB p f g5 := L5
        have rel : Rel (sS g2 18 0) g5 := Rel.mk2 h FA2 (F3.tr F5 (by decide) (by decide) (by simp)) (CA.fresh S2) (C3.trial (F5.1 47 (by simp)) L5)
        obtain ⟨bb, eb⟩ := sel_some (ok := fun _ => true) (R := R2 (wEv p f q) (sEv p f q)) (n := tu p q) (k := 0) (by omega) rfl
        have s2 := s2 m0
        rw [eb] at s2
        have er5 : rB = if nI w = 0 then oN (sel (fun _ => true) (R2 (wEv p f q) (sEv p f q)) (tu p q)) else oW (wEv p f q) (sel (fun _ => true) (R2 (wEv p f q) (sEv p f q)) (tu p q)) := er5
        rw [eb] at er5
        rw [e3, Option.bind_some, e5, er5]
        have k1 : (sS g2 18 0).1 13200 = oN (some bb) := s2.1.1
        have k3 : (sS g2 18 0).1 13202 = oW (wEv p f q) (some bb) := s2.2 bb rfl
        rw [k1, k3]
        by_cases z : nI w = 0
        · rw [if_pos z, if_pos z]
          exact ⟨_, _, _, rfl, rfl, rel⟩
        · rw [if_neg z, if_neg z]
          exact ⟨_, _, _, rfl, rfl, rel⟩
    · rw [two_f hb, inB_f hb (by decide) (by decide), Option.bind_some, if_pos (show nI 0 = 0 from i00)]
      split
      · exact no
      · exact no
  · rw [planeA_f h.2.2.1 ha, planeB_f h.2.2.2.1 ha (by omega), Option.bind_some, Option.bind_some, if_pos i00, if_pos i00]
    exact no
