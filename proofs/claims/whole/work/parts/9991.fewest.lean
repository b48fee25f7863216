/-! THE CALLS: fewest -/
theorem wr_row {p : Pl} {H H' : Nat → Nat → Nat → Bool} {y : Nat} (h : ∀ t x, H t y x = H' t y x) : wr p H y = wr p H' y := by
  have e : ub p H y = ub p H' y := by
    funext x t
    unfold ub
    simp only [h]
  unfold wr
  rw [e]
theorem ww_iff {p : Pl} {H : Nat → Nat → Nat → Bool} {m : Nat} : ww p H ≤ m ↔ ∀ y, y < pR p → wr p H y ≤ m :=
  ⟨fun h y hy => Nat.le_trans (mx_ge (f := wr p H) hy) h, fun h => mx_le h⟩
theorem gapsFitA {p : Pl} (hw : WP p) {f : Fl} {g : G} (hP : PA p g) (hK : g.1 11801 = nI (2 ^ pC p - 1)) (hV : VF p f g) (hH : HH p 127 (fun _ _ _ => false) g) (h8 : ∃ H, HH p 128 H g) {s m : Nat} (hs : s < 256) (hm : m < 2 ^ 31) :
    Sat (fA_Sky_gapsFit (nI s) (nI m) g) (fun r => Fr [] [128, 129] w0 g r.2 ∧ (∃ H, HH p 128 H r.2) ∧ r.1 = bI (decide (ww p (sx2 p f s) ≤ m))) := by
  have h1 := hw.c
  unfold fA_Sky_gapsFit
  refine Sat.lp (fun y z => ∃ g', z = (nI y, g') ∧ Fr [] [128, 129] w0 g g' ∧ (∃ H, HH p 128 H g') ∧ ∀ j, j < y → wr p (sx2 p f s) j ≤ m) (pR p) (by omega) ⟨g, rfl, Fr.rf, h8, fun j hj => absurd hj (Nat.not_lt_zero j)⟩ ?_ ?_
  · rintro rec y _ hy ⟨g1, rfl, F1, ⟨H, h8⟩, k1⟩ hrec
    have P1 := hP.fr F1 (by simp) (by simp)
    dsimp only
    rw [P1.1.2.1, if_neg (nI_ge hy (by omega))]
    refine (joinRowA hw P1 (hV.fr F1 (by simp)).vv (s := s) (by omega) hy (hH.fr F1 (by simp))).bind ?_
    rintro g2 ⟨F2, j2, k2⟩
    have F12 : Fr [] [128, 129] w0 g g2 := F1.tr F2 (by simp) (by simp) (by simp)
    have H2 : HH p 128 (fun t y2 x => if y2 = y then sx2 p f s t y2 x else H t y2 x) g2 := by
      intro t y2 ht hy2
      by_cases e : y2 = y
      · rw [e, j2 t ht]
        congr 1
        apply mk_cong
        intro x _
        dsimp only
        rw [Bool.false_or, if_pos rfl]
        rfl
      · rw [k2 _ (by omega), h8 t y2 ht hy2]
        congr 1
        apply mk_cong
        intro x _
        dsimp only
        rw [if_neg e]
    refine (worstRowA hw (P1.fr F2 (by simp) (by simp)) ((F12.1 11801 (by simp)).trans hK) H2 hy).bind ?_
    rintro ⟨r, g3⟩ ⟨F3, er⟩
    have F3 : Fr [] [129] w0 g2 g3 := F3
    have er : r = nI (wr p (fun t y2 x => if y2 = y then sx2 p f s t y2 x else H t y2 x) y) := er
    rw [wr_row (H' := sx2 p f s) (fun t x => if_pos rfl)] at er
    have wl : wr p (sx2 p f s) y ≤ pY p := wr_le p _ y
    dsimp only
    rw [er, ite_len (by omega) hm, show (nI y + 1 : Int32) = nI (y + 1) from nI_add y 1]
    have F13 := F12.tr F3 (by simp) (by simp) (by simp)
    by_cases l : wr p (sx2 p f s) y ≤ m
    · rw [if_pos l]
      refine hrec _ ⟨g3, rfl, F13, ⟨_, H2.fr F3 (by simp)⟩, fun j hj => ?_⟩
      by_cases e : j = y
      · rw [e]; exact l
      · exact k1 j (by omega)
    · rw [if_neg l]
      refine Sat.of ⟨F13, ⟨_, H2.fr F3 (by simp)⟩, ?_⟩
      rw [decide_eq_false (fun z => l (ww_iff.mp z y hy))]
      rfl
  · rintro rec _ ⟨g1, rfl, F1, h8, k1⟩
    have P1 := hP.fr F1 (by simp) (by simp)
    dsimp only
    rw [P1.1.2.1, if_pos (nI_le (Nat.le_refl _) (by omega))]
    refine Sat.of ⟨F1, h8, ?_⟩
    rw [decide_eq_true (ww_iff.mpr k1)]
    rfl
theorem withinB {p : Pl} (hw : WP p) {f : Fl} {g : G} (hP : PB p g) (hL : LB p f g) (s : Nat) {m : Nat} (hm : m < 2 ^ 31) :
    Sat (fB_M_isWithin (nI s) (nI m) g) (fun r => Fr [50] [23, 24] w0 g r.2 ∧ r.1 = bI (decide (ww p (sx2 p f s) ≤ m))) := by
  have h1 := hw.c
  have hcr := crY hw
  unfold fB_M_isWithin
  rw [← ww_gg hw]
  refine Sat.lp (fun k z => ∃ g', z = (nI k, g') ∧ Fr [50] [23, 24] w0 g g' ∧ ∀ j, j < k → gg p f s j ≤ m) (pC p * pR p) (by omega) ⟨g, rfl, Fr.rf, fun j hj => absurd hj (Nat.not_lt_zero j)⟩ ?_ ?_
  · rintro rec k _ hk ⟨g1, rfl, F1, k1⟩ hrec
    have P1 := hP.fr F1 (by simp) (by simp)
    have L1 := hL.fr F1 (by simp)
    dsimp only
    rw [P1.1.2.2.2.2.2.2.2.1, if_neg (nI_ge hk (by omega))]
    refine (greatestB hw P1 L1 hk).bind ?_
    rintro ⟨r, g2⟩ ⟨F2, er⟩
    have F2 : Fr [50] [23, 24] w0 g1 g2 := F2
    have er : r = nI (gg p f s k) := er
    have gl : gg p f s k ≤ pY p := mg_le _ _ _
    dsimp only
    rw [er, ite_len (by omega) hm, show (nI k + 1 : Int32) = nI (k + 1) from nI_add k 1]
    have F12 := F1.tr F2 (by simp) (by simp) (by simp)
    by_cases l : gg p f s k ≤ m
    · rw [if_pos l]
      refine hrec _ ⟨g2, rfl, F12, fun j hj => ?_⟩
      by_cases e : j = k
      · rw [e]; exact l
      · exact k1 j (by omega)
    · rw [if_neg l]
      refine Sat.of ⟨F12, ?_⟩
      rw [decide_eq_false (fun z => l (Nat.le_trans (mx_ge (f := gg p f s) hk) z))]
      rfl
  · rintro rec _ ⟨g1, rfl, F1, k1⟩
    have P1 := hP.fr F1 (by simp) (by simp)
    dsimp only
    rw [P1.1.2.2.2.2.2.2.2.1, if_pos (nI_le (Nat.le_refl _) (by omega))]
    refine Sat.of ⟨F1, ?_⟩
    rw [decide_eq_true (mx_le k1)]
    rfl
/-- a set that will do -/
def okf (p : Pl) (f : Fl) (m s : Nat) : Prop := ant s (us p f) = 0 ∧ ww p (sx2 p f s) ≤ m
def lex (r s : Nat) : Prop := pc r < pc s ∨ pc r = pc s ∧ r ≤ s
theorem lex.tr {a b c : Nat} (h : lex a b) (k : lex b c) : lex a c := by
  unfold lex at *
  omega
theorem lex.rf (a : Nat) : lex a a := Or.inr ⟨rfl, Nat.le_refl _⟩
/-- the fewest -/
def Mn (p : Pl) (f : Fl) (m r : Nat) : Prop := okf p f m r ∧ r ≤ us p f ∧ ∀ s, s ≤ us p f → okf p f m s → lex r s
theorem Mn.eq {p : Pl} {f : Fl} {m r r' : Nat} (h : Mn p f m r) (h' : Mn p f m r') : r = r' := by
  have a := h.2.2 r' h'.2.1 h'.1
  have b := h'.2.2 r h.2.1 h.1
  unfold lex at a b
  omega
theorem ant_self (u : Nat) : ant u u = 0 := mk_zero.mpr (fun i _ => by cases u.testBit i <;> rfl)
set_option maxHeartbeats 2000000 in
theorem fewestA {p : Pl} (hw : WP p) {f : Fl} {g : G} (hP : PA p g) (hF : FA p f 2700 27 g) (hSK : SK p g) (hV : VF p f g) (h8 : ∃ H, HH p 128 H g) {m : Nat} (hm : m < 2 ^ 31) :
    Sat (fA_Trial_tryFewest (nI m) g) (fun g' => Fr tS tT w1 g g' ∧ SK p g' ∧ ((¬ ww p (sx2 p f (us p f)) ≤ m ∧ g'.1 13200 = m1) ∨ (ww p (sx2 p f (us p f)) ≤ m ∧ ∃ r, Mn p f m r ∧ g'.1 13200 = nI r))) := by
  have h1 := hw.c
  have ul := us_lt p f
  have pu : pc (us p f) ≤ pK p := by
    rw [pc_us (by omega)]
    exact cn_le _ _
  unfold fA_Trial_tryFewest
  refine (trialA ⟨by omega, by omega⟩ hF).bind ?_
  rintro g1 ⟨F1, A1, x0, _, _, _⟩
  refine (holdA hw (hP.fr F1 (by simp) (by simp)) (hV.fr F1 (by simp)).vv (s := 0) (by decide)).bind ?_
  rintro g2 ⟨F2, H2⟩
  have H2 : HH p 127 (fun _ _ _ => false) g2 := H2.cg (fun t y x => by unfold ob; simp)
  have F12 : Fr tS [127, 128, 129, 134, 135, 136] w1 g g2 := (F1.wd (by decide) (by decide) (by simp)).tr F2 (by simp) (by simp) (by simp)
  have u2 : g2.1 2700 = nI (us p f) := (F12.1 2700 (by decide)).trans hF.1
  have K2 : g2.1 11801 = nI (2 ^ pC p - 1) := (F12.1 11801 (by decide)).trans hSK.1.1
  have P2 := hP.fr F12 (by decide) (by decide)
  have V2 := hV.fr F12 (by decide)
  have x2 : g2.1 13200 = m1 := by rw [F2.1 13200 (by simp), x0]
  have S2 : SK p g2 := (hSK.fr F1 (by simp) (by simp)).fr F2 (by simp) (by simp)
  obtain ⟨H, h8⟩ := h8
  have h82 : HH p 128 H g2 := (h8.fr F1 (by simp)).fr F2 (by simp)
  rw [u2]
  refine (gapsFitA hw P2 K2 V2 H2 ⟨H, h82⟩ ul hm).bind ?_
  rintro ⟨r3, g3⟩ ⟨F3, h83, er3⟩
  have F3 : Fr [] [128, 129] w0 g2 g3 := F3
  have h83 : ∃ H, HH p 128 H g3 := h83
  have er3 : r3 = bI (decide (ww p (sx2 p f (us p f)) ≤ m)) := er3
  dsimp only
  rw [er3]
  by_cases fit : ww p (sx2 p f (us p f)) ≤ m
  · rw [decide_eq_true fit, if_neg b1]
    have oku : okf p f m (us p f) := ⟨ant_self _, fit⟩
    obtain ⟨Q, hQ⟩ : ∃ Q : G → Prop, Q = fun g' => Fr tS tT w1 g g' ∧ SK p g' ∧ ((¬ ww p (sx2 p f (us p f)) ≤ m ∧ g'.1 13200 = m1) ∨ (ww p (sx2 p f (us p f)) ≤ m ∧ ∃ r, Mn p f m r ∧ g'.1 13200 = nI r)) := ⟨_, rfl⟩
    rw [← hQ]
    refine Sat.lp (fun n z => ∃ g', z = (nI n, g') ∧ Fr [] [128, 129] w0 g2 g' ∧ (∃ H, HH p 128 H g') ∧ ∀ s, s ≤ us p f → okf p f m s → n ≤ pc s) (pK p + 1) (by omega) ⟨g3, rfl, F3, h83, fun s _ _ => Nat.zero_le _⟩ ?_ ?_
    · rintro rec n _ hn ⟨g4, rfl, F4, h84, k4⟩ hrec
      have P4 := P2.fr F4 (by simp) (by simp)
      dsimp only
      rw [P4.1.2.2.2.2.2.2.1, if_neg (nI_nlt (by omega) (by omega))]
      refine Sat.lp (fun k z => ∃ g', z = (nI k, g') ∧ Fr [] [128, 129] w0 g2 g' ∧ (∃ H, HH p 128 H g') ∧ ∀ s, s < k → okf p f m s → pc s ≠ n) (us p f + 1) (by omega) ⟨g4, rfl, F4, h84, fun s hs => absurd hs (Nat.not_lt_zero s)⟩ ?_ ?_
      · rintro rec2 k _ hk ⟨g5, rfl, F5, h85, k5⟩ hrec2
        have P5 := P2.fr F5 (by simp) (by simp)
        have u5 : g5.1 2700 = nI (us p f) := (F5.1 2700 (by simp)).trans u2
        have pk : pc k ≤ 8 := pc_le (n := 8) (show k < 2 ^ 8 by omega) (by decide)
        have skip : ∀ g', Fr [] [128, 129] w0 g2 g' → (∃ H, HH p 128 H g') → (okf p f m k → pc k ≠ n) → Sat (rec2 (nI k + 1, g')) Q := by
          intro g' Fg hg ng
          rw [show (nI k + 1 : Int32) = nI (k + 1) from nI_add k 1]
          refine hrec2 _ ⟨g', rfl, Fg, hg, fun s hs ho => ?_⟩
          by_cases e : s = k
          · rw [e] at ho ⊢
            exact ng ho
          · exact k5 s (by omega) ho
        dsimp only
        rw [u5, if_neg (nI_nlt (by omega) (by omega)), antA (show k < 256 by omega), lj_eq, lj_eq, bitCount_eq (by omega), Option.bind_some]
        have al : ant k (us p f) < 256 := ant_lt _ _
        by_cases a0 : ant k (us p f) = 0
        · rw [a0, if_pos i00, ite_eqn (by omega) (by omega)]
          by_cases e : pc k = n
          · rw [if_pos e]
            dsimp only
            rw [lj_eq, if_neg (by decide)]
            refine (gapsFitA hw P5 ((F5.1 11801 (by simp)).trans K2) (V2.fr F5 (by simp)) (H2.fr F5 (by simp)) h85 (s := k) (by omega) hm).bind ?_
            rintro ⟨r6, g6⟩ ⟨F6, h86, er6⟩
            have F6 : Fr [] [128, 129] w0 g5 g6 := F6
            have h86 : ∃ H, HH p 128 H g6 := h86
            have er6 : r6 = bI (decide (ww p (sx2 p f k) ≤ m)) := er6
            have F26 : Fr [] [128, 129] w0 g2 g6 := F5.tr F6 (by simp) (by simp) (by simp)
            dsimp only
            rw [er6]
            by_cases fk : ww p (sx2 p f k) ≤ m
            · rw [decide_eq_true fk, if_neg b1, bv_eq, hQ]
              have Fz : Fr [13200] [128, 129] w0 g2 (sS g6 13200 (nI k)) := (F26.wd (by simp) (by simp) (by simp)).sS (by simp)
              refine Sat.of ⟨(F12.wd (by simp) (by decide) (by simp)).tr Fz (by decide) (by decide) (by simp), S2.fr Fz (by simp) (by simp), Or.inr ⟨fit, k, ⟨⟨a0, fk⟩, by omega, fun s hs ho => ?_⟩, rfl⟩⟩
              have q1 := k4 s hs ho
              unfold lex
              by_cases ls : s < k
              · have := k5 s ls ho
                omega
              · omega
            · rw [decide_eq_false fk, if_pos b0]
              exact skip g6 F26 h86 (fun ho => absurd ho.2 fk)
          · rw [if_neg e]
            dsimp only
            rw [lj_eq, if_pos rfl]
            exact skip g5 F5 h85 (fun _ => e)
        · rw [if_neg (nI_ne0 (by omega) (by omega))]
          dsimp only
          rw [lj_eq, if_pos rfl]
          exact skip g5 F5 h85 (fun ho => absurd ho.1 a0)
      · rintro rec2 _ ⟨g5, rfl, F5, h85, k5⟩
        have u5 : g5.1 2700 = nI (us p f) := (F5.1 2700 (by simp)).trans u2
        dsimp only
        rw [u5, if_pos (nI_lt (by omega) (by omega)), show (nI n + 1 : Int32) = nI (n + 1) from nI_add n 1]
        refine hrec _ ⟨g5, rfl, F5, h85, fun s hs ho => ?_⟩
        have q1 := k4 s hs ho
        have q2 := k5 s (by omega) ho
        omega
    · rintro rec _ ⟨g4, rfl, F4, h84, k4⟩
      have := k4 (us p f) (Nat.le_refl _) oku
      omega
  · rw [decide_eq_false fit, if_pos b0]
    have F13 : Fr tS tT w1 g g3 := (F12.wd (by simp) (by decide) (by simp)).tr F3 (by simp) (by decide) (by simp)
    exact Sat.of ⟨F13, S2.fr F3 (by simp) (by simp), Or.inl ⟨fit, by rw [F3.1 13200 (by simp), x2]⟩⟩
set_option maxHeartbeats 2000000 in
theorem fewestB {p : Pl} (hw : WP p) {f : Fl} {g : G} (hP : PB p g) (hL : LB p f g) {m : Nat} (hm : m < 2 ^ 31) (fit : ww p (sx2 p f (us p f)) ≤ m) (a2 : Int32) :
    Sat (Lp (α := Int32 × Int32 × G) (fun rec5 s5 => (if (nI (us p f)) ≤ s5.2.1 then (if a2 = 0 then some (s5.1, s5.2.2) else Option.bind (fB_M_manyIn s5.1 s5.2.2) fun x6 => some (x6, s5.2.2)) else lj (α := Int32 × G) (fun b7 => rec5 (b7.1, s5.2.1 + 1, b7.2)) fun J7 => (if (s5.2.1 &&& ((nI (us p f)) ^^^ (-1))) = 0 then Option.bind (fB_M_manyIn s5.2.1 s5.2.2) fun x8 => Option.bind (fB_M_manyIn s5.1 s5.2.2) fun x9 => (if x9 < x8 then J7 (s5.1, s5.2.2) else Option.bind (fB_M_manyIn s5.2.1 s5.2.2) fun x10 => Option.bind (fB_M_manyIn s5.1 s5.2.2) fun x11 => lj (α := Unit) (fun b12 => Option.bind (fB_M_isWithin s5.2.1 (nI m) s5.2.2) fun x13 => (if x13.1 = 0 then J7 (s5.1, x13.2) else J7 (s5.2.1, x13.2))) fun J12 => (if x10 = x11 then (if s5.1 < s5.2.1 then J7 (s5.1, s5.2.2) else J12 ()) else J12 ())) else J7 (s5.1, s5.2.2)))) FU (nI (us p f), 0, g)) (fun r => Fr [50] [23, 24] w0 g r.2 ∧ ∃ b, Mn p f m b ∧ r.1 = if a2 = 0 then nI b else nI (pc b)) := by
  have h1 := hw.c
  have ul := us_lt p f
  obtain ⟨Q, hQ⟩ : ∃ Q : Int32 × G → Prop, Q = fun r => Fr [50] [23, 24] w0 g r.2 ∧ ∃ b, Mn p f m b ∧ r.1 = if a2 = 0 then nI b else nI (pc b) := ⟨_, rfl⟩
  rw [← hQ]
  refine Sat.lp (fun k z => ∃ g' b, z = (nI b, nI k, g') ∧ Fr [50] [23, 24] w0 g g' ∧ okf p f m b ∧ b ≤ us p f ∧ lex b (us p f) ∧ ∀ s, s < k → okf p f m s → lex b s) (us p f) (by omega) ⟨g, us p f, rfl, Fr.rf, ⟨ant_self _, fit⟩, Nat.le_refl _, lex.rf _, fun s hs => absurd hs (Nat.not_lt_zero s)⟩ ?_ ?_
  · rintro rec k _ hk ⟨g1, b, rfl, F1, ob1, bl, lu, k1⟩ hrec
    have P1 := hP.fr F1 (by simp) (by simp)
    have L1 := hL.fr F1 (by simp)
    have pk : pc k ≤ 8 := pc_le (n := 8) (show k < 2 ^ 8 by omega) (by decide)
    have pb : pc b ≤ 8 := pc_le (n := 8) (show b < 2 ^ 8 by omega) (by decide)
    have keep : ∀ g', Fr [50] [23, 24] w0 g g' → (okf p f m k → lex b k) → Sat (rec (nI b, nI k + 1, g')) Q := by
      intro g' Fg ng
      rw [show (nI k + 1 : Int32) = nI (k + 1) from nI_add k 1]
      refine hrec _ ⟨g', b, rfl, Fg, ob1, bl, lu, fun s hs ho => ?_⟩
      by_cases e : s = k
      · rw [e] at ho ⊢
        exact ng ho
      · exact k1 s (by omega) ho
    dsimp only
    rw [if_neg (nI_ge hk (by omega)), antA (show k < 256 by omega), lj_eq, manyB (show k < 256 by omega), Option.bind_some, manyB (show b < 256 by omega), Option.bind_some, ite_ltn (by omega) (by omega), Option.bind_some, Option.bind_some, lj_eq, ite_eqn (a := pc k) (b := pc b) (by omega) (by omega), ite_ltn (a := b) (b := k) (by omega) (by omega)]
    have al : ant k (us p f) < 256 := ant_lt _ _
    by_cases a0 : ant k (us p f) = 0
    · rw [a0, if_pos i00]
      by_cases l1 : pc b < pc k
      · rw [if_pos l1]
        exact keep g1 F1 (fun _ => Or.inl l1)
      · rw [if_neg l1]
        have try' : lex k b → Sat (Option.bind (fB_M_isWithin (nI k) (nI m) g1) fun x13 => (if x13.1 = 0 then rec (nI b, nI k + 1, x13.2) else rec (nI k, nI k + 1, x13.2))) Q := by
          intro lk
          refine (withinB hw P1 L1 k hm).bind ?_
          rintro ⟨r2, g2⟩ ⟨F2, er2⟩
          have F2 : Fr [50] [23, 24] w0 g1 g2 := F2
          have er2 : r2 = bI (decide (ww p (sx2 p f k) ≤ m)) := er2
          have F12 : Fr [50] [23, 24] w0 g g2 := F1.tr F2 (by simp) (by simp) (by simp)
          dsimp only
          rw [er2]
          by_cases fk : ww p (sx2 p f k) ≤ m
          · rw [decide_eq_true fk, if_neg b1, show (nI k + 1 : Int32) = nI (k + 1) from nI_add k 1]
            refine hrec _ ⟨g2, k, rfl, F12, ⟨a0, fk⟩, by omega, lk.tr lu, fun s hs ho => ?_⟩
            by_cases e : s = k
            · rw [e]; exact lex.rf k
            · exact lk.tr (k1 s (by omega) ho)
          · rw [decide_eq_false fk, if_pos b0]
            exact keep g2 F12 (fun ho => absurd ho.2 fk)
        by_cases l2 : pc k = pc b
        · rw [if_pos l2]
          by_cases l3 : b < k
          · rw [if_pos l3]
            exact keep g1 F1 (fun _ => Or.inr ⟨l2.symm, by omega⟩)
          · rw [if_neg l3]
            exact try' (Or.inr ⟨l2, by omega⟩)
        · rw [if_neg l2]
          exact try' (Or.inl (by omega))
    · rw [if_neg (nI_ne0 (by omega) (by omega))]
      exact keep g1 F1 (fun ho => absurd ho.1 a0)
  · rintro rec _ ⟨g1, b, rfl, F1, ob1, bl, lu, k1⟩
    dsimp only
    rw [if_pos (nI_le (Nat.le_refl _) (by omega)), manyB (show b < 256 by omega), Option.bind_some, hQ]
    have mn : Mn p f m b := ⟨ob1, bl, fun s hs ho => by
      by_cases e : s = us p f
      · rw [e]; exact lu
      · exact k1 s (by omega) ho⟩
    by_cases z : a2 = 0
    · rw [if_pos z]
      exact Sat.of ⟨F1, b, mn, by rw [if_pos z]⟩
    · rw [if_neg z]
      exact Sat.of ⟨F1, b, mn, by rw [if_neg z]⟩
theorem c_fewest {p : Pl} {f : Fl} {gA gB : G} (h : RS p f gA gB) (hA : CA p f gA) (hB : CB p f gB) (a b : Int32) : Eq2 (fA_D_fewest a b gA) (fB_M_fewest a b gB) := by
  have no : Eq2 (some ((-1 : Int32), gA)) (some (-1, gB)) := ⟨_, _, _, rfl, rfl, p, f, h, hA, hB⟩
  unfold fA_D_fewest fB_M_fewest
  rcases standsA h with ⟨hw, e1, e2⟩ | ⟨hz, e1, e2⟩
  · have h1 := hw.c
    have ul := us_lt p f
    rw [e2, if_neg i10, e1, Option.bind_some, if_neg i10]
    by_cases ha : a < 0
    · rw [if_pos ha, if_pos ha]
      exact no
    · rw [if_neg ha, if_neg ha]
      obtain ⟨m, hm, rfl⟩ := nI_of ha
      by_cases hb : rg 2 b
      · obtain ⟨w, hw2, rfl⟩ := hb
        rw [two_t (show w ≤ 1 by omega), inB_t hw2 (by decide) (by decide), Option.bind_some, if_neg (show ¬ nI 1 = 0 from i10)]
        obtain ⟨g1, e1, F1, Rs, C1, L1, P1, U1⟩ := look2 h hw hA
        obtain ⟨g2, e2, F2, S2, s2⟩ := fewestA hw P1 Rs.2.2.2.2.1 L1.1 L1.2.1 ⟨_, L1.2.2⟩ hm
        obtain ⟨g3, e3, F3, L3, P3, N3, C3⟩ := lays2 h hw hB
        obtain ⟨⟨r4, g4⟩, e4, F4, er4⟩ := withinB hw P3 L3 (us p f) hm
        have F4 : Fr [50] [23, 24] w0 g3 g4 := F4
        have er4 : r4 = bI (decide (ww p (sx2 p f (us p f)) ≤ m)) := er4
        have FA2 := fresh18 (F1.tr F2 (by decide) (by decide) (by simp))
        rw [e1, Option.bind_some, e2, Option.bind_some, bv_eq, lj_eq, e3, Option.bind_some, upSetB hw P3 N3 h.2.2.2.2.2.2.1, Option.bind_some, e4, Option.bind_some]
        dsimp only
        rw [er4]
        rcases s2 with ⟨nf, k2⟩ | ⟨fit, r, mr, k2⟩
        · have k2 : (sS g2 18 0).1 13200 = m1 := k2
          rw [decide_eq_false nf, if_pos b0, k2, if_pos (show m1 = -1 from rfl)]
          refine ⟨m1, _, _, ?_, rfl, Rel.mk2 h FA2 (F3.tr F4 (by decide) (by decide) (by simp)) (CA.fresh S2) (C3.fr F4 (by simp) (by simp))⟩
          split <;> rfl
        · have k2 : (sS g2 18 0).1 13200 = nI r := k2
          have rl : r < 256 := Nat.lt_of_le_of_lt mr.2.1 ul
          rw [decide_eq_true fit, if_neg b1, k2, if_neg (show ¬ nI r = -1 from fun z => (n_ne_m1 (by omega)).mp z), bitCount_eq (by omega), Option.bind_some]
          obtain ⟨⟨rB, g5⟩, e5, F5, b5, mb5, er5⟩ := fewestB hw (P3.fr F4 (by simp) (by simp)) (L3.fr F4 (by simp)) hm fit (nI w)
          have F5 : Fr [50] [23, 24] w0 g4 g5 := F5
          have er5 : rB = if nI w = 0 then nI b5 else nI (pc b5) := er5
          rw [e5, er5, ← mr.eq mb5]
          have rel : Rel (sS g2 18 0) g5 := Rel.mk2 h FA2 ((F3.tr F4 (by decide) (by decide) (by simp)).tr F5 (by decide) (by decide) (by simp)) (CA.fresh S2) ((C3.fr F4 (by simp) (by simp)).fr F5 (by simp) (by simp))
          by_cases z : nI w = 0
          · rw [if_pos z, if_pos z]
            exact ⟨_, _, _, rfl, rfl, rel⟩
          · rw [if_neg z, if_neg z]
            exact ⟨_, _, _, rfl, rfl, rel⟩
      · rw [two_f hb, inB_f hb (by decide) (by decide), Option.bind_some, if_pos (show nI 0 = 0 from i00)]
        exact no
  · rw [e2, if_pos i00, e1, Option.bind_some, if_pos i00]
    exact no
