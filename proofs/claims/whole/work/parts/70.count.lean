/-! THE CALLS: covered, extreme, never, soon -/
theorem cn_cells {C : Nat} (hC : 0 < C) (P : Nat → Nat → Bool) : ∀ R, cn (fun k => P (k % C) (k / C)) (C * R) = sm (fun y => cn (fun x => P x y) C) R
  | 0 => by rw [Nat.mul_zero]; rfl
  | R + 1 => by
    rw [Nat.mul_succ, cn_add, cn_cells hC P R, sm]
    congr 1
    apply cn_cong
    intro x hx
    rw [Nat.mul_add_mod, Nat.mod_eq_of_lt hx, Nat.mul_add_div hC, Nat.div_eq_of_lt hx, Nat.add_zero]
/-- how many cells are seen at a tick -/
def cs (p : Pl) (H : Nat → Nat → Nat → Bool) (t : Nat) : Nat := sm (fun y => cn (H t y) (pC p)) (pR p)
theorem cs_le {p : Pl} (hw : WP p) (H : Nat → Nat → Nat → Bool) (t : Nat) : cs p H t ≤ 288 := by
  have h1 := hw.c
  have := sm_le (a := fun y => cn (H t y) (pC p)) (m := 24) (n := pR p) (fun i _ => Nat.le_trans (cn_le _ _) (by omega))
  unfold cs
  have h2 : pR p * 24 ≤ 12 * 24 := Nat.mul_le_mul_right _ (by omega)
  omega
theorem countSeenA {p : Pl} (hw : WP p) {g : G} (hP : PA p g) {H : Nat → Nat → Nat → Bool} (hH : HH p 128 H g) {t : Nat} (ht : t < pY p) : fA_Sky_countSeen (nI t) g = some (nI (cs p H t)) := by
  have h1 := hw.c
  apply Sat.eq
  unfold fA_Sky_countSeen
  refine Sat.lp (fun y s => s = (nI (sm (fun y => cn (H t y) (pC p)) y), nI y)) (pR p) (by omega) rfl ?_ ?_
  · rintro rec y _ hy rfl hrec
    simp only []
    simp only [nl]
    rw [hP.1.2.1, if_neg (nI_ge hy (by omega)), nI_mul, nI_add, ag_nI (by omega) (by decide), hH t y ht hy, bitCount_eq (Nat.lt_trans (mk_lt31 (by omega)) (by decide)), Option.bind_some, pc_mk (by omega), nI_add, bv_eq, nI_add]
    exact hrec _ rfl
  · rintro rec _ rfl
    simp only []
    rw [hP.1.2.1, if_pos (nI_le (Nat.le_refl _) (by omega))]
    exact Sat.of rfl
theorem coveredB {p : Pl} (hw : WP p) {f : Fl} {g : G} (hP : PB p g) (hL : LB p f g) {s t : Nat} (ht : t < 2 ^ 20) : fB_M_coveredBy (nI t) (nI s) g = some (nI (cs p (fun t y x => sb p f s t x y) t)) := by
  have h1 := hw.c
  have hm := crY hw
  apply Sat.eq
  unfold fB_M_coveredBy
  refine Sat.lp (fun k s1 => s1 = (nI (cn (fun k => sb p f s t (k % pC p) (k / pC p)) k), nI k)) (pC p * pR p) (by omega) rfl ?_ ?_
  · rintro rec k _ hk rfl hrec
    simp only []
    simp only [nl]
    rw [hP.1.2.2.2.2.2.2.2.1, if_neg (nI_ge hk (by omega)), isByB hw hP hL hk ht, Option.bind_some, lj_eq]
    dsimp only
    rw [bv_eq, bv_eq, nI_add, nI_add, nI_add]
    cases hb : sb p f s t (k % pC p) (k / pC p)
    · rw [if_pos z0]
      exact hrec _ (by rw [cn_f (b := fun k => sb p f s t (k % pC p) (k / pC p)) hb]; rfl)
    · rw [if_neg z1]
      exact hrec _ (by rw [cn_t (b := fun k => sb p f s t (k % pC p) (k / pC p)) hb])
  · rintro rec _ rfl
    simp only []
    rw [hP.1.2.2.2.2.2.2.2.1, if_pos (nI_le (Nat.le_refl _) (by omega)), cn_cells (by omega) (fun x y => sb p f s t x y)]
    exact Sat.of rfl
/-- what the looked-at sky shows -/
abbrev sk (p : Pl) (f : Fl) : Nat → Nat → Nat → Bool := fun t y x => sb p f (us p f) t x y
theorem cs_per {p : Pl} (hw : WP p) (f : Fl) (t : Nat) : cs p (sk p f) (t % pY p) = cs p (sk p f) t := by
  unfold cs
  apply sm_cong
  intro y _
  apply cn_cong
  intro x _
  exact sb_per hw f _ t x y
theorem tick2 {p : Pl} {f : Fl} {gA gB : G} (h : RS p f gA gB) (a : Int32) : (WP p ∧ ∃ t, t ≤ 9999 ∧ a = nI t ∧ fA_D_isTick a gA = some (nI 1) ∧ fB_M_isTick a gB = some (nI 1) ∧ gB.1 0 = nI 1) ∨
    (fA_D_isTick a gA = some (nI 0) ∧ (gB.1 0 = nI 0 ∨ gB.1 0 = nI 1 ∧ fB_M_isTick a gB = some (nI 0))) := by
  by_cases ht : rg 10000 a
  · obtain ⟨t, ht, rfl⟩ := ht
    rcases h.1 with ⟨w, e⟩ | ⟨z, e⟩
    · exact Or.inl ⟨w, t, by omega, rfl, tickA_t h w (by omega), tickB_t (by omega) _, e⟩
    · refine Or.inr ⟨?_, Or.inl e⟩
      have : ¬ WP p := fun w => by
        have := w.c
        unfold ZP at z
        omega
      exact tick_z h this _
  · refine Or.inr ⟨(tick_f h ht).1, ?_⟩
    rcases h.1 with ⟨w, e⟩ | ⟨z, e⟩
    · exact Or.inr ⟨e, (tick_f h ht).2 _⟩
    · exact Or.inl e
theorem c_covered {p : Pl} {f : Fl} {gA gB : G} (h : RS p f gA gB) (hA : CA p f gA) (hB : CB p f gB) (a : Int32) : Eq2 (fA_D_covered a gA) (fB_M_covered a gB) := by
  unfold fA_D_covered fB_M_covered
  rcases tick2 h a with ⟨hw, t, ht, rfl, t1, t2, t3⟩ | ⟨t1, t2⟩
  · have h1 := hw.c
    have hm : t % pY p < pY p := Nat.mod_lt _ (by omega)
    obtain ⟨g1, e1, F1, R1, C1, L1, P1, U1⟩ := look2 h hw hA
    obtain ⟨g3, e3, F3, L3, P3, N3, C3⟩ := lays2 h hw hB
    rw [t1, t2, t3, Option.bind_some, Option.bind_some, if_neg i10, if_neg i10, if_neg i10, e1, Option.bind_some, inCycleA hw P1 (by omega), Option.bind_some, countSeenA (H := sk p f) hw P1 L1.2.2 hm, Option.bind_some, e3, Option.bind_some, upSetB hw P3 N3 h.2.2.2.2.2.2.1, Option.bind_some, coveredB hw P3 L3 (by omega), Option.bind_some]
    exact ⟨_, _, _, congrArg (fun z => some (nI z, g1)) (cs_per hw f t), rfl, Rel.mk2 h F1 F3 C1 C3⟩
  · rw [t1, Option.bind_some, if_pos i00]
    rcases t2 with e | ⟨e, e2⟩
    · rw [e, if_pos i00]
      exact ⟨_, _, _, rfl, rfl, p, f, h, hA, hB⟩
    · rw [e, if_neg i10, e2, Option.bind_some, if_pos i00]
      exact ⟨_, _, _, rfl, rfl, p, f, h, hA, hB⟩
/-- the first extreme -/
def xt (m : Bool) (d : Nat → Nat) : Nat → Nat
  | 0 => 0
  | n + 1 => if (m = true ∧ d (xt m d n) < d n) ∨ (m = false ∧ d n < d (xt m d n)) then n else xt m d n
theorem xt_lt (m : Bool) (d : Nat → Nat) : ∀ n, 0 < n → xt m d n < n
  | 0, h => absurd h (Nat.lt_irrefl 0)
  | n + 1, _ => by
    unfold xt
    split
    · omega
    · by_cases e : n = 0
      · subst e
        exact Nat.lt_succ_self 0
      · have := xt_lt m d n (by omega)
        omega
theorem xt_1 (m : Bool) (d : Nat → Nat) : xt m d 1 = 0 := by
  unfold xt
  split <;> rfl
theorem c_extreme {p : Pl} {f : Fl} {gA gB : G} (h : RS p f gA gB) (hA : CA p f gA) (hB : CB p f gB) (a b : Int32) : Eq2 (fA_D_extreme a b gA) (fB_M_extreme a b gB) := by
  have no : ∃ z gA' gB', some ((-1 : Int32), gA) = some (z, gA') ∧ some ((-1 : Int32), gB) = some (z, gB') ∧ Rel gA' gB' := ⟨_, _, _, rfl, rfl, p, f, h, hA, hB⟩
  unfold fA_D_extreme fB_M_extreme
  rcases standsA h with ⟨hw, e1, e2⟩ | ⟨hz, e1, e2⟩
  · have h1 := hw.c
    rw [e1, e2, Option.bind_some, if_neg i10, if_neg i10]
    by_cases hb : rg 2 b
    · obtain ⟨w, hw2, rfl⟩ := hb
      obtain ⟨g1, e1, F1, R1, C1, L1, P1, U1⟩ := look2 h hw hA
      obtain ⟨g3, e3, F3, L3, P3, N3, C3⟩ := lays2 h hw hB
      obtain ⟨m, hm⟩ : ∃ m : Bool, m = !decide (a = 0) := ⟨_, rfl⟩
      have dl := cs_le hw (sk p f)
      have l1 := xt_lt m (cs p (sk p f)) (pY p) (by omega)
      have eA : fA_Sky_extremeTick a g1 = some (nI (xt m (cs p (sk p f)) (pY p))) := by
        apply Sat.eq
        unfold fA_Sky_extremeTick
        have ez : fA_Sky_countSeen 0 g1 = some (nI (cs p (sk p f) 0)) := countSeenA (H := sk p f) (t := 0) hw P1 L1.2.2 (by omega)
        rw [ez, Option.bind_some]
        refine Sat.lp (fun i s => s = (nI (xt m (cs p (sk p f)) (i + 1)), nI (cs p (sk p f) (xt m (cs p (sk p f)) (i + 1))), nI (i + 1))) (pY p - 1) (by omega) (by rw [xt_1]; rfl) ?_ ?_
        · rintro rec i _ hi rfl hrec
          have := dl (i + 1)
          have := dl (xt m (cs p (sk p f)) (i + 1))
          have ex : xt m (cs p (sk p f)) (i + 1 + 1) = if (m = true ∧ cs p (sk p f) (xt m (cs p (sk p f)) (i + 1)) < cs p (sk p f) (i + 1)) ∨ (m = false ∧ cs p (sk p f) (i + 1) < cs p (sk p f) (xt m (cs p (sk p f)) (i + 1))) then i + 1 else xt m (cs p (sk p f)) (i + 1) := rfl
          simp only []
          simp only [lj_eq]
          rw [P1.1.2.2.2.1, if_neg (nI_ge (by omega) (by omega)), countSeenA (H := sk p f) hw P1 L1.2.2 (by omega), Option.bind_some, ite_len (by omega) (by omega), ite_len (by omega) (by omega)]
          by_cases a0 : a = 0
          · have em : m = false := by rw [hm, decide_eq_true a0]; rfl
            rw [em] at ex hrec ⊢
            rw [if_pos a0, nl, nI_add]
            by_cases l : cs p (sk p f) (xt false (cs p (sk p f)) (i + 1)) ≤ cs p (sk p f) (i + 1)
            · rw [if_pos l]
              exact hrec _ (by rw [ex, if_neg (by simp; omega)])
            · rw [if_neg l]
              exact hrec _ (by rw [ex, if_pos (by simp; omega)])
          · have em : m = true := by rw [hm, decide_eq_false a0]; rfl
            rw [em] at ex hrec ⊢
            rw [if_neg a0, nl, nI_add]
            by_cases l : cs p (sk p f) (i + 1) ≤ cs p (sk p f) (xt true (cs p (sk p f)) (i + 1))
            · rw [if_pos l]
              exact hrec _ (by rw [ex, if_neg (by simp; omega)])
            · rw [if_neg l]
              exact hrec _ (by rw [ex, if_pos (by simp; omega)])
        · rintro rec _ rfl
          simp only []
          rw [P1.1.2.2.2.1, if_pos (nI_le (by omega) (by omega)), show pY p - 1 + 1 = pY p by omega]
          exact Sat.of rfl
      have eB : (Lp (α := Int32 × Int32 × Int32) (fun rec5 s5 => (if (g3.1 7) ≤ s5.2.2 then (if nI w = 0 then some (s5.1, g3) else some (s5.2.1, g3)) else Option.bind (some (nI (us p f))) fun x6 => Option.bind (fB_M_coveredBy s5.2.2 x6 g3) fun x7 => lj (α := Int32 × Int32) (fun b8 => rec5 (b8.1, b8.2, s5.2.2 + 1)) fun J8 => lj (α := Unit) (fun b9 => J8 (s5.2.2, x7)) fun J9 => (if a = 0 then (if x7 < s5.2.1 then J9 () else J8 (s5.1, s5.2.1)) else (if s5.2.1 < x7 then J9 () else J8 (s5.1, s5.2.1))))) FU (0, nI (cs p (sk p f) 0), 1)) = (if nI w = 0 then some (nI (xt m (cs p (sk p f)) (pY p)), g3) else some (nI (cs p (sk p f) (xt m (cs p (sk p f)) (pY p))), g3)) := by
        obtain ⟨r, er⟩ : ∃ r, (if nI w = 0 then some (nI (xt m (cs p (sk p f)) (pY p)), g3) else some (nI (cs p (sk p f) (xt m (cs p (sk p f)) (pY p))), g3)) = some r := by
          split <;> exact ⟨_, rfl⟩
        rw [er]
        apply Sat.eq
        refine Sat.lp (fun i s => s = (nI (xt m (cs p (sk p f)) (i + 1)), nI (cs p (sk p f) (xt m (cs p (sk p f)) (i + 1))), nI (i + 1))) (pY p - 1) (by omega) (by rw [xt_1]; rfl) ?_ ?_
        · rintro rec i _ hi rfl hrec
          have := dl (i + 1)
          have := dl (xt m (cs p (sk p f)) (i + 1))
          have ex : xt m (cs p (sk p f)) (i + 1 + 1) = if (m = true ∧ cs p (sk p f) (xt m (cs p (sk p f)) (i + 1)) < cs p (sk p f) (i + 1)) ∨ (m = false ∧ cs p (sk p f) (i + 1) < cs p (sk p f) (xt m (cs p (sk p f)) (i + 1))) then i + 1 else xt m (cs p (sk p f)) (i + 1) := rfl
          simp only []
          simp only [lj_eq]
          rw [P3.1.2.2.2.2.2.2.1, if_neg (nI_ge (by omega) (by omega)), Option.bind_some, coveredB hw P3 L3 (by omega), Option.bind_some]
          change Sat (if a = 0 then (if nI (cs p (sk p f) (i + 1)) < nI (cs p (sk p f) (xt m (cs p (sk p f)) (i + 1))) then _ else _) else (if nI (cs p (sk p f) (xt m (cs p (sk p f)) (i + 1))) < nI (cs p (sk p f) (i + 1)) then _ else _)) _
          rw [ite_ltn (by omega) (by omega), ite_ltn (by omega) (by omega)]
          by_cases a0 : a = 0
          · have em : m = false := by rw [hm, decide_eq_true a0]; rfl
            rw [em] at ex hrec ⊢
            rw [if_pos a0, nl, nI_add]
            by_cases l : cs p (sk p f) (i + 1) < cs p (sk p f) (xt false (cs p (sk p f)) (i + 1))
            · rw [if_pos l]
              exact hrec _ (by rw [ex, if_pos (by simp; omega)])
            · rw [if_neg l]
              exact hrec _ (by rw [ex, if_neg (by simp; omega)])
          · have em : m = true := by rw [hm, decide_eq_false a0]; rfl
            rw [em] at ex hrec ⊢
            rw [if_neg a0, nl, nI_add]
            by_cases l : cs p (sk p f) (xt true (cs p (sk p f)) (i + 1)) < cs p (sk p f) (i + 1)
            · rw [if_pos l]
              exact hrec _ (by rw [ex, if_pos (by simp; omega)])
            · rw [if_neg l]
              exact hrec _ (by rw [ex, if_neg (by simp; omega)])
        · rintro rec _ rfl
          simp only []
          rw [P3.1.2.2.2.2.2.2.1, if_pos (nI_le (by omega) (by omega)), show pY p - 1 + 1 = pY p by omega, er]
          exact Sat.of rfl
      have ec : fB_M_coveredBy 0 (nI (us p f)) g3 = some (nI (cs p (sk p f) 0)) := coveredB hw P3 L3 (t := 0) (by decide)
      have l01 : nI w ≤ (1 : Int32) := nI_le (b := 1) (by omega) (by decide)
      rw [if_neg (nI_pos (by omega)), if_pos l01, e1, Option.bind_some, eA, Option.bind_some, countSeenA (H := sk p f) hw P1 L1.2.2 l1, Option.bind_some, inB_t hw2 (by decide) (by decide), Option.bind_some, if_neg i10, e3, Option.bind_some, upSetB hw P3 N3 h.2.2.2.2.2.2.1, Option.bind_some, ec, Option.bind_some, eB]
      split
      · exact ⟨_, _, _, rfl, rfl, Rel.mk2 h F1 F3 C1 C3⟩
      · exact ⟨_, _, _, rfl, rfl, Rel.mk2 h F1 F3 C1 C3⟩
    · have eA : ∀ z : Option (Int32 × G), (if b < 0 then some ((-1), gA) else if b ≤ 1 then z else some ((-1), gA)) = some ((-1), gA) := by
        intro z
        by_cases l : b < 0
        · rw [if_pos l]
        · rw [if_neg l]
          obtain ⟨j, hj, rfl⟩ := nI_of l
          have : 1 < j := by
            apply Classical.byContradiction
            intro hl
            exact hb ⟨j, by omega, rfl⟩
          rw [show (1 : Int32) = nI 1 from rfl, if_neg (nI_ge this hj)]
      rw [eA, inB_f hb (by decide) (by decide), Option.bind_some, if_pos i00]
      exact no
  · rw [e1, e2, Option.bind_some, if_pos i00, if_pos i00]
    exact no
theorem mg_all {b : Nat → Bool} {Y : Nat} (hp : Per Y b) (hY : 0 < Y) : mg b Y Y = Y ↔ ∀ t, t < Y → b t = true := by
  constructor
  · intro h t ht
    cases hb : b t
    · rcases mg_is b Y Y with e | ⟨u, hu, hbu, e⟩
      · omega
      · have := (ln_lt hp (t := u) ht hb).1
        omega
    · rfl
  · intro h
    have hall : ∀ t, b t = true := fun t => by rw [← hp t]; exact h _ (Nat.mod_lt _ hY)
    have l0 : ln b Y 0 = Y := fi_eq (Nat.le_refl _) (fun j hj => by rw [hall]; rfl) (fun h => absurd h (Nat.lt_irrefl _))
    have hb : bg b Y 0 = true := by
      unfold bg
      rw [hall, l0]
      simp
    have := mg_ge b Y Y 0 hY hb
    have := mg_le b Y Y
    omega
theorem c_never {p : Pl} {f : Fl} {gA gB : G} (h : RS p f gA gB) (hA : CA p f gA) (hB : CB p f gB) : Eq2 (fA_D_never gA) (fB_M_never gB) := by
  unfold fA_D_never fB_M_never
  rcases standsA h with ⟨hw, e1, e2⟩ | ⟨hz, e1, e2⟩
  · have h1 := hw.c
    have hm := crY hw
    rw [e1, e2, Option.bind_some, if_neg i10, if_neg i10]
    obtain ⟨g1, e1, F1, R1, C1, L1, P1, U1⟩ := look2 h hw hA
    obtain ⟨g3, e3, F3, L3, P3, N3, C3⟩ := lays2 h hw hB
    obtain ⟨N, hN⟩ : ∃ N : Nat → Nat → Bool, N = fun x y => decide (∀ t, t < pY p → sk p f t y x = false) := ⟨_, rfl⟩
    have eA : fA_Sky_countNever g1 = some (nI (sm (fun y => cn (fun x => N x y) (pC p)) (pR p))) := by
      apply Sat.eq
      unfold fA_Sky_countNever
      refine Sat.lp (fun y s => s = (nI (sm (fun y => cn (fun x => N x y) (pC p)) y), nI y)) (pR p) (by omega) rfl ?_ ?_
      · rintro rec y _ hy rfl hrec
        simp only []
        simp only [nl]
        rw [P1.1.2.1, if_neg (nI_ge hy (by omega))]
        refine Sat.lp (fun t s => s = (nI (mk (fun x => decide (∃ t2, t2 < t ∧ sk p f t2 y x = true)) (pC p)), nI t)) (pY p) (by omega) ?_ ?_ ?_
        · rw [mk_zero.mpr (fun i _ => decide_eq_false (by rintro ⟨t2, hl, _⟩; omega))]
        · rintro rec2 t _ ht rfl hrec2
          simp only []
          rw [P1.1.2.2.2.1, if_neg (nI_ge ht (by omega)), nI_mul, nI_add, ag_nI (by omega) (by decide), L1.2.2 t y ht hy, mk_or, bv_eq, nI_add]
          refine hrec2 _ ?_
          congr 2
          apply mk_cong
          intro x _
          apply Bool.eq_iff_iff.mpr
          rw [Bool.or_eq_true, decide_eq_true_iff, decide_eq_true_iff]
          constructor
          · rintro (⟨t2, l, s⟩ | s)
            · exact ⟨t2, by omega, s⟩
            · exact ⟨t, by omega, s⟩
          · rintro ⟨t2, l, s⟩
            by_cases e : t2 = t
            · subst e
              exact Or.inr s
            · exact Or.inl ⟨t2, by omega, s⟩
        · rintro rec2 _ rfl
          have hcn : cn (fun x => decide (∃ t2, t2 < pY p ∧ sk p f t2 y x = true)) (pC p) + cn (fun x => N x y) (pC p) = pC p := by
            have : ∀ n, cn (fun x => decide (∃ t2, t2 < pY p ∧ sk p f t2 y x = true)) n + cn (fun x => N x y) n = n := by
              intro n
              induction n with
              | zero => rfl
              | succ n ih =>
                by_cases ex : ∃ t2, t2 < pY p ∧ sk p f t2 y n = true
                · rw [cn_t (decide_eq_true ex), cn_f (b := fun x => N x y)]
                  · omega
                  · rw [hN]
                    refine decide_eq_false ?_
                    intro hall
                    obtain ⟨t2, l, s⟩ := ex
                    rw [hall t2 l] at s
                    exact absurd s (by decide)
                · rw [cn_f (decide_eq_false ex), cn_t (b := fun x => N x y)]
                  · omega
                  · rw [hN]
                    refine decide_eq_true ?_
                    intro t2 l
                    cases s : sk p f t2 y n
                    · rfl
                    · exact absurd ⟨t2, l, s⟩ ex
            exact this _
          simp only []
          rw [P1.1.2.2.2.1, if_pos (nI_le (Nat.le_refl _) (by omega)), bitCount_eq (Nat.lt_trans (mk_lt31 (by omega)) (by decide)), Option.bind_some, pc_mk (by omega), P1.1.1, nI_sub (by omega), nI_add, bv_eq, nI_add]
          refine hrec _ ?_
          rw [sm, show pC p - cn (fun x => decide (∃ t2, t2 < pY p ∧ sk p f t2 y x = true)) (pC p) = cn (fun x => N x y) (pC p) by omega]
      · rintro rec _ rfl
        simp only []
        rw [P1.1.2.1, if_pos (nI_le (Nat.le_refl _) (by omega))]
        exact Sat.of rfl
    have eB : Sat (Lp (α := Int32 × Int32 × G) (fun rec2 s2 => (if (s2.2.2.1 8) ≤ s2.2.1 then some (s2.1, s2.2.2) else Option.bind (fB_M_upSet s2.2.2) fun x3 => Option.bind (fB_M_greatestOf s2.2.1 x3 s2.2.2) fun x4 => lj (α := Int32) (fun b5 => bv (s2.1 + b5) fun x6 => rec2 (x6, s2.2.1 + 1, x4.2)) fun J5 => (if x4.1 = (x4.2.1 7) then J5 1 else J5 0))) FU (0, 0, g3)) (fun r => r.1 = nI (cn (fun k => N (k % pC p) (k / pC p)) (pC p * pR p)) ∧ Fr qB tB w1 gB r.2 ∧ CB p f r.2) := by
      refine Sat.lp (fun k s => ∃ g', s = (nI (cn (fun k => N (k % pC p) (k / pC p)) k), nI k, g') ∧ Fr qB tB w1 gB g' ∧ CB p f g' ∧ LB p f g') (pC p * pR p) (by omega) ⟨g3, rfl, F3, C3, L3⟩ ?_ ?_
      · rintro rec k _ hk ⟨g4, rfl, F4, C4, L4⟩ hrec
        have P4 := h.2.2.2.1.ok F4
        have N4 := h.2.2.2.2.2.1.ok F4
        simp only []
        simp only [lj_eq, nl]
        rw [P4.1.2.2.2.2.2.2.2.1, if_neg (nI_ge hk (by omega)), upSetB hw P4 N4 h.2.2.2.2.2.2.1, Option.bind_some]
        refine (greatestB hw P4 L4 hk).bind ?_
        rintro ⟨n, g5⟩ ⟨F5, en⟩
        have en : n = nI (mg (bs p f (us p f) k false) (pY p) (pY p)) := en
        have F45 : Fr qB tB w1 gB g5 := F4.tr F5 (by decide) (by decide) (by decide)
        have e7 : g5.1 7 = nI (pY p) := (h.2.2.2.1.ok F45).1.2.2.2.2.2.2.1
        have ml := mg_le (bs p f (us p f) k false) (pY p) (pY p)
        dsimp only
        rw [en, e7, ite_eqn (by omega) (by omega), bv_eq, bv_eq, nI_add, nI_add, nI_add]
        have key : (mg (bs p f (us p f) k false) (pY p) (pY p) = pY p) ↔ N (k % pC p) (k / pC p) = true := by
          rw [mg_all (bs_per hw f _ k false) (by omega), hN, decide_eq_true_iff]
          constructor
          · intro hh t ht
            exact of_decide_eq_true (hh t ht)
          · intro hh t ht
            exact decide_eq_true (hh t ht)
        by_cases z : mg (bs p f (us p f) k false) (pY p) (pY p) = pY p
        · rw [if_pos z]
          exact hrec _ ⟨g5, by rw [cn_t (b := fun k => N (k % pC p) (k / pC p)) (key.mp z)], F45, C4.fr F5 (by simp) (by simp), L4.fr F5 (by simp)⟩
        · rw [if_neg z]
          have zf : N (k % pC p) (k / pC p) = false := by
            cases e : N (k % pC p) (k / pC p)
            · rfl
            · exact absurd (key.mpr e) z
          exact hrec _ ⟨g5, by rw [cn_f (b := fun k => N (k % pC p) (k / pC p)) zf]; rfl, F45, C4.fr F5 (by simp) (by simp), L4.fr F5 (by simp)⟩
      · rintro rec _ ⟨g4, rfl, F4, C4, L4⟩
        have P4 := h.2.2.2.1.ok F4
        simp only []
        rw [P4.1.2.2.2.2.2.2.2.1, if_pos (nI_le (Nat.le_refl _) (by omega))]
        exact Sat.of ⟨rfl, F4, C4⟩
    obtain ⟨⟨n, gB'⟩, eb, en, Fb, Cb⟩ := eB
    have en : n = nI (cn (fun k => N (k % pC p) (k / pC p)) (pC p * pR p)) := en
    rw [e1, Option.bind_some, eA, Option.bind_some, e3, Option.bind_some, eb, en, cn_cells (by omega) N]
    exact ⟨_, _, _, rfl, rfl, Rel.mk2 h F1 Fb C1 Cb⟩
  · rw [e1, e2, Option.bind_some, if_pos i00, if_pos i00]
    exact ⟨_, _, _, rfl, rfl, p, f, h, hA, hB⟩
