/-! THE CALLS: tells -/
/-- how many would be alike -/
def aq (s : Nat → Bool) (v : Nat → Nat) (N i : Nat) : Nat := cn (fun k => s k && decide (v k = v i)) N
def ml (s : Nat → Bool) (v : Nat → Nat) (N : Nat) : Nat := mx (fun i => if s i then aq s v N i else 0) N
theorem aq_le (s : Nat → Bool) (v : Nat → Nat) (N i : Nat) : aq s v N i ≤ N := cn_le _ _
theorem ml_le (s : Nat → Bool) (v : Nat → Nat) (N : Nat) : ml s v N ≤ N := mx_le (fun i _ => by
  split
  · exact aq_le s v N i
  · exact Nat.zero_le _)
/-- what would be seen with one lost -/
abbrev cv (p : Pl) (f : Fl) (t c : Nat) : Nat := cs p (sx2 p f (wo p f c)) t
theorem alikeA {g : G} {s : Nat → Bool} {v : Nat → Nat} {N : Nat} (hN : N ≤ 9) (hv : ∀ c, c < N → v c < 2 ^ 20) (h : ∀ c, c < N → g.2.1 143 c = if s c then nI (v c) else -1) : fA_Notes_mostAlike (nI N) g = some (nI (ml s v N)) := by
  apply Sat.eq
  unfold fA_Notes_mostAlike
  refine Sat.lp (fun i st => st = (nI (mx (fun i => if s i then aq s v N i else 0) i), nI i)) N (by omega) rfl ?_ ?_
  · rintro rec i _ hi rfl hrec
    simp only []
    rw [if_neg (nI_ge hi (by omega))]
    have ei := h i hi
    have vi := hv i hi
    refine Sat.lp (fun k st => st = (nI (if s i then cn (fun k => s k && decide (v k = v i)) k else 0), nI k)) N (by omega) (by split <;> rfl) ?_ ?_
    · rintro rec2 k _ hk rfl hrec2
      have ek := h k hk
      have vk := hv k hk
      simp only []
      simp only [lj_eq]
      rw [if_neg (nI_ge hk (by omega)), ag_nI (by omega) (by decide), ag_nI (by omega) (by decide), ag_nI (by omega) (by decide), bv_eq, bv_eq, ei, ek]
      cases hs : s i
      · rw [if_neg (show ¬ false = true by decide), if_neg (show ¬ false = true by decide), if_pos rfl]
        rw [hs] at hrec2
        refine hrec2 _ ?_
        rw [if_neg (show ¬ false = true by decide), show (nI 0 + 0 : Int32) = nI 0 from by decide, show (nI k + 1 : Int32) = nI (k + 1) from nI_add k 1]
      · rw [if_pos rfl, if_pos rfl, if_neg (show ¬ nI (v i) = -1 from fun z => (n_ne_m1 (by omega)).mp z)]
        rw [hs] at hrec2
        cases hk2 : s k
        · rw [if_neg (show ¬ false = true by decide), if_neg (show ¬ (-1 : Int32) = nI (v i) from fun z => (m1_ne_n (by omega)).mp z)]
          refine hrec2 _ ?_
          rw [if_pos rfl, cn_f (b := fun k => s k && decide (v k = v i)) (by rw [hk2]; rfl), show (nI (cn (fun k => s k && decide (v k = v i)) k) + 0 : Int32) = nI (cn (fun k => s k && decide (v k = v i)) k) from nI_add _ 0, show (nI k + 1 : Int32) = nI (k + 1) from nI_add k 1]
        · rw [if_pos rfl, ite_eqn (by omega) (by omega)]
          by_cases e : v k = v i
          · rw [if_pos e]
            refine hrec2 _ ?_
            rw [if_pos rfl, cn_t (b := fun k => s k && decide (v k = v i)) (by rw [hk2, decide_eq_true e]; rfl), show (nI (cn (fun k => s k && decide (v k = v i)) k) + 1 : Int32) = nI (cn (fun k => s k && decide (v k = v i)) k + 1) from nI_add _ 1, show (nI k + 1 : Int32) = nI (k + 1) from nI_add k 1]
          · rw [if_neg e]
            refine hrec2 _ ?_
            rw [if_pos rfl, cn_f (b := fun k => s k && decide (v k = v i)) (by rw [hk2, decide_eq_false e]; rfl), show (nI (cn (fun k => s k && decide (v k = v i)) k) + 0 : Int32) = nI (cn (fun k => s k && decide (v k = v i)) k) from nI_add _ 0, show (nI k + 1 : Int32) = nI (k + 1) from nI_add k 1]
    · rintro rec2 _ rfl
      have l1 : mx (fun i => if s i then aq s v N i else 0) i ≤ N := mx_le (fun j _ => by
        split
        · exact aq_le s v N j
        · exact Nat.zero_le _)
      have l2 := aq_le s v N i
      have em : mx (fun i => if s i then aq s v N i else 0) (i + 1) = if mx (fun i => if s i then aq s v N i else 0) i < (if s i then aq s v N i else 0) then (if s i then aq s v N i else 0) else mx (fun i => if s i then aq s v N i else 0) i := rfl
      have ea : (if s i then cn (fun k => s k && decide (v k = v i)) N else 0) = (if s i then aq s v N i else 0) := rfl
      have l3 : (if s i then aq s v N i else 0) ≤ N := by split <;> omega
      simp only []
      rw [if_pos (nI_le (Nat.le_refl _) (by omega)), ea, ite_ltn (by omega) (by omega), bv_eq, show (nI i + 1 : Int32) = nI (i + 1) from nI_add i 1]
      refine hrec _ ?_
      rw [em]
      by_cases l : mx (fun i => if s i then aq s v N i else 0) i < (if s i then aq s v N i else 0)
      · rw [if_pos l, if_pos l]
      · rw [if_neg l, if_neg l]
  · rintro rec _ rfl
    simp only []
    rw [if_pos (nI_le (Nat.le_refl _) (by omega))]
    exact Sat.of rfl
set_option maxHeartbeats 1000000 in
theorem tellA {p : Pl} (hw : WP p) {f : Fl} {g : G} (hP : PA p g) (hV : VF p f g) {s : Nat → Bool} {M : Nat} (Ml : M < 2 ^ 9) (hM : ∀ c, c < pK p + 1 → M.testBit c = s c) :
    Sat (fA_Notes_findTelling (nI (us p f)) (nI M) g) (fun g' => Fr [13801, 13802] [143] w0 g g' ∧ g'.1 13801 = nI (xt false (fun t => ml s (cv p f t) (pK p + 1)) (pY p)) ∧ g'.1 13802 = nI (ml s (cv p f (xt false (fun t => ml s (cv p f t) (pK p + 1)) (pY p))) (pK p + 1))) := by
  have h1 := hw.c
  obtain ⟨d, hd⟩ : ∃ d : Nat → Nat, d = fun t => ml s (cv p f t) (pK p + 1) := ⟨_, rfl⟩
  have dl : ∀ t, d t ≤ pK p + 1 := fun t => by rw [hd]; exact ml_le _ _ _
  have ed : ∀ t, ml s (cv p f t) (pK p + 1) = d t := fun t => by rw [hd]
  rw [← hd, ed]
  unfold fA_Notes_findTelling
  rw [bv_eq]
  refine Sat.lp (fun t st => ∃ g', st = (nI t, g') ∧ Fr [13801, 13802] [143] w0 g g' ∧ (0 < t → g'.1 13801 = nI (xt false d t)) ∧ g'.1 13802 = nI (if t = 0 then 10 else d (xt false d t))) (pY p) (by omega) ⟨_, rfl, Fr.rf.sS (by simp), fun z => by omega, rfl⟩ ?_ ?_
  · rintro rec t _ ht ⟨g1, rfl, F1, a1, a2⟩ hrec
    have P1 := hP.fr F1 (by simp) (by simp)
    simp only []
    rw [P1.1.2.2.2.1, if_neg (nI_ge ht (by omega))]
    refine Sat.lp (fun c st => ∃ g', st = (nI c, g') ∧ Fr [13801, 13802] [143] w0 g g' ∧ g'.1 13801 = g1.1 13801 ∧ g'.1 13802 = g1.1 13802 ∧ ∀ j, j < c → g'.2.1 143 j = if s j then nI (cv p f t j) else -1) (pK p + 1) (by omega) ⟨g1, rfl, F1, rfl, rfl, fun j hj => by omega⟩ ?_ ?_
    · rintro rec2 c _ hc ⟨g2, rfl, F2, b1, b2, b3⟩ hrec2
      have P2 := hP.fr F2 (by simp) (by simp)
      have V2 := hV.fr F2 (by simp)
      simp only []
      simp only [lj_eq]
      rw [P2.1.2.2.2.2.2.2.1, if_neg (nI_nlt (by omega) (by omega)), woI (by omega), countByA hw P2 V2 (Nat.lt_trans (wo_lt p f c) (by decide)) ht, Option.bind_some, show (nI c + 1 : Int32) = nI (c + 1) from nI_add c 1]
      have eb : (nI M >>> (nI c &&& 31)) &&& 1 = nI (if s c then 1 else 0) := by
        simp only [nl]
        rw [n_31 (k := c) (by omega), n_shr (by omega) (by omega), n_and, n_bit, hM c hc]
      have go : ∀ v : Int32, v = (if s c then nI (cv p f t c) else -1) → Sat (ck 9 (nI c) (bv (sA g2 143 (nI c : Int32).toNatClampNeg v) fun g10 => rec2 (nI (c + 1), g10))) (fun g' => Fr [13801, 13802] [143] w0 g g' ∧ g'.1 13801 = nI (xt false d (pY p)) ∧ g'.1 13802 = nI (d (xt false d (pY p)))) := by
        intro v ev
        rw [ck_nI (by omega) (by decide), nI_clamp (by omega), bv_eq]
        refine hrec2 _ ⟨sA g2 143 c v, rfl, F2.sA (by simp), b1, b2, fun j hj => ?_⟩
        show upd (g2.2.1 143) c v j = _
        by_cases e : j = c
        · subst e
          rw [upd_self, ev]
        · rw [upd_ne _ _ e]
          exact b3 j (by omega)
      rw [eb]
      cases hs : s c
      · rw [if_pos (show nI (if false = true then 1 else 0) = 0 by decide), if_pos trivial]
        exact go (-1) (by rw [hs]; rfl)
      · rw [if_neg (show ¬ nI (if true = true then 1 else 0) = 0 by decide), if_neg (show ¬ (1 : Int32) = 0 by decide)]
        exact go _ (by rw [hs, if_pos rfl])
    · rintro rec2 _ ⟨g2, rfl, F2, b1, b2, b3⟩
      have P2 := hP.fr F2 (by simp) (by simp)
      have dt := dl t
      have dx := dl (xt false d t)
      have ex : xt false d (t + 1) = if (false = true ∧ d (xt false d t) < d t) ∨ (false = false ∧ d t < d (xt false d t)) then t else xt false d t := rfl
      simp only []
      simp only [lj_eq]
      rw [P2.1.2.2.2.2.2.2.1, if_pos (nI_lt (by omega) (by omega)), show (nI (pK p) + 1 : Int32) = nI (pK p + 1) from nI_add _ 1, alikeA (s := s) (v := cv p f t) (by omega) (fun c _ => Nat.lt_of_le_of_lt (cs_le hw _ _) (by decide)) b3, Option.bind_some, ed, b2, a2, show (nI t + 1 : Int32) = nI (t + 1) from nI_add t 1, bv_eq, bv_eq]
      by_cases t0 : t = 0
      · subst t0
        rw [if_pos rfl, if_neg (nI_ge (by omega) (by decide))]
        refine hrec _ ⟨_, rfl, (F2.sS (by simp)).sS (by simp), fun _ => by rw [xt_1]; rfl, ?_⟩
        rw [if_neg (by omega), xt_1]
        rfl
      · rw [if_neg t0, ite_len (by omega) (by omega)]
        by_cases l : d (xt false d t) ≤ d t
        · rw [if_pos l]
          rw [if_neg (by simp; omega)] at ex
          refine hrec _ ⟨g2, rfl, F2, fun _ => by rw [b1, a1 (by omega), ex], ?_⟩
          rw [b2, a2, if_neg t0, if_neg (by omega), ex]
        · rw [if_neg l]
          rw [if_pos (by simp; omega)] at ex
          refine hrec _ ⟨_, rfl, (F2.sS (by simp)).sS (by simp), fun _ => by rw [ex]; rfl, ?_⟩
          rw [if_neg (by omega), ex]
          rfl
  · rintro rec _ ⟨g1, rfl, F1, a1, a2⟩
    have P1 := hP.fr F1 (by simp) (by simp)
    simp only []
    rw [P1.1.2.2.2.1, if_pos (nI_le (Nat.le_refl _) (by omega))]
    refine Sat.of ⟨F1, a1 (by omega), ?_⟩
    rw [a2, if_neg (by omega)]
