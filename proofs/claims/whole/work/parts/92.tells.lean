/-! THE CALLS: tells, told -/
theorem mx_pick {F : Nat → Nat} {S : Nat → Bool} {N k c : Nat} (hc : c < N) (hs : S c = true) (hk : cn S c = k) :
    mx (fun i => if S i = true ∧ cn S i < k + 1 then F i else 0) N = if mx (fun i => if S i = true ∧ cn S i < k then F i else 0) N < F c then F c else mx (fun i => if S i = true ∧ cn S i < k then F i else 0) N := by
  have uniq : ∀ i, S i = true → cn S i = k → i = c := by
    intro i hi ei
    rcases Nat.lt_trichotomy i c with z | z | z
    · have m := cn_mono S (show i + 1 ≤ c by omega)
      rw [cn_t hi] at m
      omega
    · exact z
    · have m := cn_mono S (show c + 1 ≤ i by omega)
      rw [cn_t hs] at m
      omega
  have g1 : F c ≤ mx (fun i => if S i = true ∧ cn S i < k + 1 then F i else 0) N := by
    have := mx_ge (f := fun i => if S i = true ∧ cn S i < k + 1 then F i else 0) hc
    rw [if_pos ⟨hs, by omega⟩] at this
    exact this
  have g2 : mx (fun i => if S i = true ∧ cn S i < k then F i else 0) N ≤ mx (fun i => if S i = true ∧ cn S i < k + 1 then F i else 0) N := by
    apply mx_le
    intro i hi
    have := mx_ge (f := fun i => if S i = true ∧ cn S i < k + 1 then F i else 0) hi
    by_cases l : S i = true ∧ cn S i < k
    · rw [if_pos l]
      rw [if_pos ⟨l.1, by omega⟩] at this
      exact this
    · rw [if_neg l]
      exact Nat.zero_le _
  have g3 : ∀ m, F c ≤ m → mx (fun i => if S i = true ∧ cn S i < k then F i else 0) N ≤ m → mx (fun i => if S i = true ∧ cn S i < k + 1 then F i else 0) N ≤ m := by
    intro m h1 h2
    apply mx_le
    intro i hi
    by_cases l : S i = true ∧ cn S i < k + 1
    · rw [if_pos l]
      by_cases e : cn S i = k
      · rw [uniq i l.1 e]
        exact h1
      · have := mx_ge (f := fun i => if S i = true ∧ cn S i < k then F i else 0) hi
        rw [if_pos ⟨l.1, by omega⟩] at this
        omega
    · rw [if_neg l]
      exact Nat.zero_le _
  by_cases l : mx (fun i => if S i = true ∧ cn S i < k then F i else 0) N < F c
  · rw [if_pos l]
    exact Nat.le_antisymm (g3 _ (Nat.le_refl _) (by omega)) g1
  · rw [if_neg l]
    exact Nat.le_antisymm (g3 _ (by omega) (Nat.le_refl _)) g2
set_option maxHeartbeats 2000000 in
theorem tellB {p : Pl} (hw : WP p) {f : Fl} {gA g : G} (hP : PB p g) (hF : FB p f g) (hW : WF p f) (hL : LB p f g) {n : Nat} {q : Nat → Nat → Nat} (hq : NQ p n q gA g) {a : Int32} {S : Nat → Bool} (hS : S = su p f n q) {d : Nat → Nat} (hd : d = fun t => ml S (cv p f t) (pK p + 1)) :
    Sat (Lp (α := Int32 × Int32 × G) (fun rec3 s3 => (if (s3.2.2.1 5) < s3.2.1 then (if s3.1 = 0 then some ((-1 : Int32), s3.2.2) else Lp (α := Int32 × Int32 × Int32 × G) (fun rec4 s4 => (if (s4.2.2.2.1 7) ≤ s4.2.2.1 then (if a = 0 then some (s4.1, s4.2.2.2) else some (s4.2.1, s4.2.2.2)) else Lp (α := Int32 × G) (fun rec5 s5 => (if s3.1 ≤ s5.1 then Lp (α := Int32 × Int32) (fun rec6 s6 => (if s3.1 ≤ s6.2 then lj (α := Int32 × Int32) (fun b7 => rec4 (b7.1, b7.2, s4.2.2.1 + 1, s5.2)) fun J7 => (if s6.1 < s4.2.1 then J7 (s4.2.2.1, s6.1) else J7 (s4.1, s4.2.1)) else Lp (α := Int32 × Int32) (fun rec8 s8 => (if s3.1 ≤ s8.2 then Option.bind (fB_M_greater s6.1 s8.1 s5.2) fun x9 => rec6 (x9, s6.2 + 1) else ag 9 (s5.2.2.1 28) s8.2 fun x10 => ag 9 (s5.2.2.1 28) s6.2 fun x11 => lj (α := Int32) (fun b12 => bv (s8.1 + b12) fun x13 => rec8 (x13, s8.2 + 1)) fun J12 => (if x10 = x11 then J12 1 else J12 0))) FU (0, 0))) FU (0, 0) else ag 9 (s5.2.2.1 27) s5.1 fun x14 => Option.bind (fB_M_without x14 s5.2) fun x15 => Option.bind (fB_M_coveredBy s4.2.2.1 x15 s5.2) fun x16 => ck 9 s5.1 (bv (sA s5.2 28 (s5.1 : Int32).toNatClampNeg x16) fun g17 => rec5 (s5.1 + 1, g17)))) FU (0, s4.2.2.2))) FU ((-1), 1000000, 0, s3.2.2)) else Option.bind (fB_M_isSuspect s3.2.1 s3.2.2) fun x18 => lj (α := Int32 × G) (fun b19 => rec3 (b19.1, s3.2.1 + 1, b19.2)) fun J19 => (if x18 = 0 then J19 (s3.1, s3.2.2) else ck 9 s3.1 (bv (sA s3.2.2 27 (s3.1 : Int32).toNatClampNeg s3.2.1) fun g20 => J19 (s3.1 + 1, g20))))) FU (0, 0, g))
      (fun r => Fr [] [27, 28] w0 g r.2 ∧ r.1 = if cn S (pK p + 1) = 0 then -1 else if a = 0 then nI (xt false d (pY p)) else nI (d (xt false d (pY p)))) := by
  have h1 := hw.c
  have clN := cn_le S (pK p + 1)
  have dl : ∀ t, d t ≤ pK p + 1 := fun t => by rw [hd]; exact ml_le _ _ _
  have frq : ∀ g', Fr [] [27, 28] w0 g g' → NQ p n q gA g' := fun g' F => hq.frB (F.wd (by decide) (by decide) (by decide))
  refine Sat.lp (fun c st => ∃ g', st = (nI (cn S c), nI c, g') ∧ Fr [] [27, 28] w0 g g' ∧ ∀ i, i < c → S i = true → g'.2.1 27 (cn S i) = nI i) (pK p + 1) (by omega) ⟨g, rfl, Fr.rf, fun i hi => by omega⟩ ?_ ?_
  · rintro rec c _ hc ⟨g1, rfl, F1, a1⟩ hrec
    have P1 := hP.fr F1 (by simp) (by simp)
    have N1 := hF.fr F1 (by simp)
    have clc := cn_le S c
    simp only []
    rw [P1.1.2.2.2.2.1, if_neg (nI_nlt (by omega) (by omega)), isSuspB hw P1 N1 hW (hL.fr F1 (by simp)) (frq g1 F1) (by omega), Option.bind_some, lj_eq, ← hS]
    dsimp only
    rw [show (nI c + 1 : Int32) = nI (c + 1) from nI_add c 1]
    cases hb : S c
    · rw [if_pos (show bI false = (0 : Int32) from rfl)]
      refine hrec _ ⟨g1, by rw [cn_f hb], F1, fun i hi hs => ?_⟩
      by_cases e : i = c
      · rw [e, hb] at hs
        exact absurd hs (by decide)
      · exact a1 i (by omega) hs
    · rw [if_neg (show ¬ bI true = (0 : Int32) from z1), ck_nI (by omega) (by decide), nI_clamp (by omega), bv_eq, show (nI (cn S c) + 1 : Int32) = nI (cn S c + 1) from nI_add _ 1]
      refine hrec _ ⟨_, by rw [cn_t hb], F1.sA (by simp), fun i hi hs => ?_⟩
      rw [sA_21, if_pos rfl]
      by_cases e : i = c
      · subst e
        rw [upd_self]
      · have m := cn_mono S (show i + 1 ≤ c by omega)
        rw [cn_t hs] at m
        rw [upd_ne _ _ (by omega)]
        exact a1 i (by omega) hs
  · rintro rec _ ⟨g1, rfl, F1, a1⟩
    have P1 := hP.fr F1 (by simp) (by simp)
    simp only []
    rw [P1.1.2.2.2.2.1, if_pos (nI_lt (by omega) (by omega))]
    by_cases z : cn S (pK p + 1) = 0
    · rw [z, if_pos (show nI 0 = (0 : Int32) from rfl)]
      exact Sat.of ⟨F1, rfl⟩
    · rw [if_neg (show ¬ nI (cn S (pK p + 1)) = (0 : Int32) from nI_ne0 (by omega) (by omega)), if_neg z]
      refine Sat.lp (fun t st => ∃ g', st = ((if t = 0 then -1 else nI (xt false d t)), nI (if t = 0 then 1000000 else d (xt false d t)), nI t, g') ∧ Fr [] [27, 28] w0 g g' ∧ ∀ i, i < pK p + 1 → S i = true → g'.2.1 27 (cn S i) = nI i) (pY p) (by omega) ⟨g1, rfl, F1, a1⟩ ?_ ?_
      · rintro rec4 t _ ht ⟨g2, rfl, F2, a2⟩ hrec4
        have P2 := hP.fr F2 (by simp) (by simp)
        have cvl : ∀ c, cv p f t c < 2 ^ 20 := fun c => Nat.lt_of_le_of_lt (cs_le hw _ _) (by decide)
        simp only []
        rw [P2.1.2.2.2.2.2.2.1, if_neg (nI_ge ht (by omega))]
        refine Sat.lp (fun k st => ∃ g', st = (nI k, g') ∧ Fr [] [27, 28] w0 g g' ∧ (∀ i, i < pK p + 1 → S i = true → g'.2.1 27 (cn S i) = nI i) ∧ ∀ i, i < pK p + 1 → S i = true → cn S i < k → g'.2.1 28 (cn S i) = nI (cv p f t i)) (cn S (pK p + 1)) (by omega) ⟨g2, rfl, F2, a2, fun _ _ _ hl => by omega⟩ ?_ ?_
        · rintro rec5 k _ hk ⟨g3, rfl, F3, a3, a4⟩ hrec5
          have P3 := hP.fr F3 (by simp) (by simp)
          have N3 := hF.fr F3 (by simp)
          obtain ⟨c, hc, hs, ec⟩ := cn_kth hk
          have e27 : g3.2.1 27 k = nI c := by rw [← ec]; exact a3 c hc hs
          simp only []
          rw [if_neg (nI_ge hk (by omega)), ag_nI (by omega) (by decide), e27, withoutB hw P3 N3 hW (by omega), Option.bind_some, coveredB hw P3 (hL.fr F3 (by simp)) (by omega), Option.bind_some, ck_nI (by omega) (by decide), nI_clamp (by omega), bv_eq, show (nI k + 1 : Int32) = nI (k + 1) from nI_add k 1]
          refine hrec5 _ ⟨_, rfl, F3.sA (by simp), a3, fun i hi hs2 hl => ?_⟩
          rw [sA_21, if_pos rfl]
          by_cases e : cn S i = k
          · have : i = c := by
              rcases Nat.lt_trichotomy i c with z | z | z
              · have m := cn_mono S (show i + 1 ≤ c by omega)
                rw [cn_t hs2] at m
                omega
              · exact z
              · have m := cn_mono S (show c + 1 ≤ i by omega)
                rw [cn_t hs] at m
                omega
            rw [e, upd_self, this]
          · rw [upd_ne _ _ e]
            exact a4 i hi hs2 (by omega)
        · rintro rec5 _ ⟨g3, rfl, F3, a3, a4⟩
          have all : ∀ i, i < pK p + 1 → S i = true → g3.2.1 28 (cn S i) = nI (cv p f t i) := fun i hi hs => a4 i hi hs (by
            have m := cn_mono S (show i + 1 ≤ pK p + 1 by omega)
            rw [cn_t hs] at m
            omega)
          simp only []
          rw [if_pos (nI_le (Nat.le_refl _) (by omega))]
          refine Sat.lp (fun k st => st = (nI (mx (fun i => if S i = true ∧ cn S i < k then aq S (cv p f t) (pK p + 1) i else 0) (pK p + 1)), nI k)) (cn S (pK p + 1)) (by omega) ?_ ?_ ?_
          · have : mx (fun i => if S i = true ∧ cn S i < 0 then aq S (cv p f t) (pK p + 1) i else 0) (pK p + 1) = 0 := Nat.le_antisymm (mx_le (fun i _ => by rw [if_neg (by omega)]; exact Nat.le_refl _)) (Nat.zero_le _)
            rw [this]
            rfl
          · rintro rec6 k _ hk rfl hrec6
            obtain ⟨c, hc, hs, ec⟩ := cn_kth hk
            have e28 : g3.2.1 28 k = nI (cv p f t c) := by rw [← ec]; exact all c hc hs
            have ml6 : mx (fun i => if S i = true ∧ cn S i < k then aq S (cv p f t) (pK p + 1) i else 0) (pK p + 1) ≤ pK p + 1 := mx_le (fun i _ => by
              split
              · exact aq_le _ _ _ _
              · exact Nat.zero_le _)
            have al6 := aq_le S (cv p f t) (pK p + 1) c
            simp only []
            rw [if_neg (nI_ge hk (by omega))]
            refine Sat.lp (fun i st => st = (nI (sm (fun j => if cn S j < i then (S j && decide (cv p f t j = cv p f t c)).toNat else 0) (pK p + 1)), nI i)) (cn S (pK p + 1)) (by omega) ?_ ?_ ?_
            · rw [sm_tail (k := 0) (Nat.zero_le _) (fun i _ _ => by rw [if_neg (by omega)])]
              rfl
            · rintro rec8 i _ hi rfl hrec8
              obtain ⟨b, hb, hs2, eb⟩ := cn_kth hi
              have e28b : g3.2.1 28 i = nI (cv p f t b) := by rw [← eb]; exact all b hb hs2
              have vb1 := cvl b
              have vc1 := cvl c
              have pk := sm_pick (F := fun j => (S j && decide (cv p f t j = cv p f t c)).toNat) (q := S) (k := i) (fun j _ hj => by rw [hj]; rfl) hb hs2 eb
              simp only []
              rw [if_neg (nI_ge hi (by omega)), ag_nI (by omega) (by decide), e28b, ag_nI (by omega) (by decide), e28, lj_eq, ite_eqn (by omega) (by omega)]
              dsimp only
              rw [bv_eq, bv_eq, show (nI i + 1 : Int32) = nI (i + 1) from nI_add i 1, nl, nI_add, nl, nI_add]
              rw [hs2, Bool.true_and] at pk
              by_cases e : cv p f t b = cv p f t c
              · rw [if_pos e]
                rw [decide_eq_true e] at pk
                exact hrec8 _ (by rw [pk]; rfl)
              · rw [if_neg e]
                rw [decide_eq_false e] at pk
                exact hrec8 _ (by rw [pk]; rfl)
            · rintro rec8 _ rfl
              have e1 : sm (fun j => if cn S j < cn S (pK p + 1) then (S j && decide (cv p f t j = cv p f t c)).toNat else 0) (pK p + 1) = aq S (cv p f t) (pK p + 1) c := by
                rw [sm_all (F := fun j => (S j && decide (cv p f t j = cv p f t c)).toNat) (fun j _ hj => by rw [hj]; rfl), sm_cn]
                rfl
              simp only []
              rw [if_pos (nI_le (Nat.le_refl _) (by omega)), e1, greaterB (by omega) (by omega), Option.bind_some, show (nI k + 1 : Int32) = nI (k + 1) from nI_add k 1]
              exact hrec6 _ (by rw [mx_pick (F := aq S (cv p f t) (pK p + 1)) hc hs ec])
          · rintro rec6 _ rfl
            have e1 : mx (fun i => if S i = true ∧ cn S i < cn S (pK p + 1) then aq S (cv p f t) (pK p + 1) i else 0) (pK p + 1) = d t := by
              rw [hd]
              unfold ml
              apply mx_cong
              intro i hi
              cases hs : S i
              · simp
              · have m := cn_mono S (show i + 1 ≤ pK p + 1 by omega)
                rw [cn_t hs] at m
                have : cn S i < cn S (pK p + 1) := by omega
                simp [this]
            have dt := dl t
            have dx := dl (xt false d t)
            have ex : xt false d (t + 1) = if (false = true ∧ d (xt false d t) < d t) ∨ (false = false ∧ d t < d (xt false d t)) then t else xt false d t := rfl
            simp only []
            rw [if_pos (nI_le (Nat.le_refl _) (by omega)), e1, lj_eq]
            dsimp only
            rw [show (nI t + 1 : Int32) = nI (t + 1) from nI_add t 1]
            by_cases t0 : t = 0
            · subst t0
              rw [if_pos rfl, if_pos (nI_lt (by omega) (by decide))]
              refine hrec4 _ ⟨g3, ?_, F3, a3⟩
              rw [xt_1]
              rfl
            · rw [if_neg t0, if_neg t0, ite_ltn (by omega) (by omega)]
              by_cases l : d t < d (xt false d t)
              · rw [if_pos l]
                rw [if_pos (by simp; omega)] at ex
                exact hrec4 _ ⟨g3, by rw [if_neg (by omega), if_neg (by omega), ex], F3, a3⟩
              · rw [if_neg l]
                rw [if_neg (by simp; omega)] at ex
                exact hrec4 _ ⟨g3, by rw [if_neg (by omega), if_neg (by omega), ex], F3, a3⟩
      · rintro rec4 _ ⟨g2, rfl, F2, a2⟩
        have P2 := hP.fr F2 (by simp) (by simp)
        simp only []
        rw [P2.1.2.2.2.2.2.2.1, if_pos (nI_le (Nat.le_refl _) (by omega)), if_neg (show ¬ pY p = 0 by omega), if_neg (show ¬ pY p = 0 by omega)]
        by_cases a0 : a = 0
        · rw [if_pos a0]
          exact Sat.of ⟨F2, by rw [if_pos a0]⟩
        · rw [if_neg a0]
          exact Sat.of ⟨F2, by rw [if_neg a0]⟩
theorem c_tells {p : Pl} {f : Fl} {gA gB : G} (h : RS p f gA gB) (hA : CA p f gA) (hB : CB p f gB) (a : Int32) : Eq2 (fA_D_tells a gA) (fB_M_tells a gB) := by
  have hl := h.lt
  have no : ∃ z gA' gB', some ((-1 : Int32), gA) = some (z, gA') ∧ some ((-1 : Int32), gB) = some (z, gB') ∧ Rel gA' gB' := ⟨_, _, _, rfl, rfl, p, f, h, hA, hB⟩
  unfold fA_D_tells fB_M_tells
  rcases standsA h with ⟨hw, e1, e2⟩ | ⟨hz, e1, e2⟩
  · have h1 := hw.c
    rw [e1, e2, Option.bind_some, if_neg i10, if_neg i10]
    by_cases ha : rg 2 a
    · obtain ⟨w, hw2, rfl⟩ := ha
      obtain ⟨g1, e3, F1, R1, C1, L1, P1, U1⟩ := look2 h hw hA
      obtain ⟨g3, e4, F3, L3, P3, N3, C3⟩ := lays2 h hw hB
      obtain ⟨n, q, hq⟩ := h.2.2.2.2.2.2.2.2.2.2.2.2.2.1.get ⟨by omega, by omega, by omega⟩
      have hq1 := hq.frA F1
      have hq3 := hq.frB F3
      obtain ⟨S, hS⟩ : ∃ S, S = su p f n q := ⟨_, rfl⟩
      obtain ⟨d, hd⟩ : ∃ d : Nat → Nat, d = fun t => ml S (cv p f t) (pK p + 1) := ⟨_, rfl⟩
      obtain ⟨M, hM⟩ : ∃ M, M = mk (fun c => decide (c < pK p + 1) && su p f n q c) 9 := ⟨_, rfl⟩
      have Ml : M < 2 ^ 9 := by rw [hM]; exact mk_lt _ 9
      have Mb : ∀ c, c < pK p + 1 → M.testBit c = S c := by
        intro c hc
        rw [hM, mk_bit, hS]
        have : c < 9 := by omega
        simp [this, hc]
      have Mz : M = 0 ↔ cn S (pK p + 1) = 0 := by
        rw [cn_zero, hM, mk_zero, hS]
        constructor
        · intro hh i hi
          have := hh i (by omega)
          simpa [hi] using this
        · intro hh i hi
          by_cases l : i < pK p + 1
          · rw [hh i l]
            simp
          · simp [l]
      obtain ⟨⟨rB, gB'⟩, eb, Fb, erb⟩ := tellB hw P3 N3 h.2.2.2.2.2.2.1 L3 hq3 (a := nI w) hS hd
      have erb : rB = if cn S (pK p + 1) = 0 then -1 else if nI w = 0 then nI (xt false d (pY p)) else nI (d (xt false d (pY p))) := erb
      have Fb2 : Fr qB tB w1 gB gB' := F3.tr Fb (by decide) (by decide) (by decide)
      have Cb := C3.fr Fb (by simp) (by simp)
      rw [show (1 : Int32) = nI 1 from rfl, three_t (n := 1) (show w ≤ 1 by omega) (by decide), e3, Option.bind_some, U1, suspectsA hw P1 L1.2.1 hq1, Option.bind_some, ← hM, inB_t hw2 (by decide) (by decide), Option.bind_some, if_neg (show ¬ nI 1 = 0 by decide), e4, Option.bind_some]
      by_cases z : cn S (pK p + 1) = 0
      · rw [if_pos z] at erb
        rw [if_pos (show nI M = 0 by rw [Mz.mpr z]; rfl)]
        exact ⟨_, _, _, rfl, eb.trans (congrArg (fun z => some (z, gB')) erb), Rel.mk2 h F1 Fb2 C1 Cb⟩
      · rw [if_neg z] at erb
        have Mnz : M ≠ 0 := fun e => z (Mz.mp e)
        obtain ⟨g2, e5, F2, t1, t2⟩ := tellA hw P1 L1.2.1 (s := S) Ml Mb
        rw [← hd] at t1 t2
        have t3 : g2.1 13802 = nI (d (xt false d (pY p))) := by rw [t2, hd]
        rw [if_neg (show ¬ nI M = 0 from nI_ne0 (by omega) (by omega)), e5, Option.bind_some, t1, t3]
        have F12 : Fr qA tA w1 gA g2 := F1.tr F2 (by decide) (by decide) (by decide)
        have rel := Rel.mk2 h F12 Fb2 (C1.fr F2 (by simp) (by simp)) Cb
        by_cases w0' : nI w = 0
        · rw [if_pos w0'] at erb ⊢
          exact ⟨_, _, _, rfl, eb.trans (congrArg (fun z => some (z, gB')) erb), rel⟩
        · rw [if_neg w0'] at erb ⊢
          exact ⟨_, _, _, rfl, eb.trans (congrArg (fun z => some (z, gB')) erb), rel⟩
    · rw [show (1 : Int32) = nI 1 from rfl, three_f (n := 1) ha (by decide), inB_f ha (by decide) (by decide), Option.bind_some, if_pos (show nI 0 = (0 : Int32) from rfl)]
      exact no
  · rw [e1, e2, Option.bind_some, if_pos i00, if_pos i00]
    exact no
