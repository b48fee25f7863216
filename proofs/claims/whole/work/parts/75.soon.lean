/-! THE CALLS: soon -/
/-- behind how many ticks a column is seen -/
def es (p : Pl) (f : Fl) (t x y : Nat) : Nat := fi (fun n => sb p f (us p f) (t + n) x y) (pY p)
theorem es_le (p : Pl) (f : Fl) (t x y : Nat) : es p f t x y ≤ pY p := (fi_all _ _).1
theorem untilAllA {p : Pl} (hw : WP p) {f : Fl} {g : G} (hP : PA p g) (hK : g.1 11801 = nI (2 ^ pC p - 1)) (hH : HH p 128 (sk p f) g) {t : Nat} (ht : t < 2 ^ 20) :
    fA_Sky_ticksUntilAll (nI t) g = some (if mx (fun y => mx (fun x => es p f t x y + 1) (pC p)) (pR p) ≤ pY p then nI (mx (fun y => mx (fun x => es p f t x y + 1) (pC p)) (pR p)) else m1) := by
  have h1 := hw.c
  obtain ⟨rw', hrw⟩ : ∃ rw' : Nat → Nat, rw' = fun y => mx (fun x => es p f t x y + 1) (pC p) := ⟨_, rfl⟩
  rw [← hrw]
  apply Sat.eq
  unfold fA_Sky_ticksUntilAll
  refine Sat.lp (fun y s => s = (nI (mx rw' y), nI y) ∧ mx rw' y ≤ pY p) (pR p) (by omega) ⟨rfl, Nat.zero_le _⟩ ?_ ?_
  · rintro rec y _ hy ⟨rfl, hl⟩ hrec
    have hfull : ∀ n, nI (mk (fun x => decide (es p f t x y < n)) (pC p)) = nI (2 ^ pC p - 1) ↔ rw' y ≤ n := by
      intro n
      rw [mk_full (by omega)]
      constructor
      · intro hh
        rw [hrw]
        apply mx_le
        intro x hx
        have := of_decide_eq_true (hh x hx)
        omega
      · intro hh x hx
        have := mx_ge (f := fun x => es p f t x y + 1) hx
        rw [hrw] at hh
        apply decide_eq_true
        have t2 : es p f t x y + 1 ≤ mx (fun x => es p f t x y + 1) (pC p) := this
        have t3 : mx (fun x => es p f t x y + 1) (pC p) ≤ n := hh
        omega
    have em : mx rw' (y + 1) = if mx rw' y < rw' y then rw' y else mx rw' y := rfl
    simp only []
    simp only [nl]
    rw [hP.1.2.1, if_neg (nI_ge hy (by omega))]
    have jn : ∀ n, n ≤ pY p → (rw' y ≤ n → n = rw' y) → (n < pY p → rw' y ≤ n) → Sat (if nI (mk (fun x => decide (es p f t x y < n)) (pC p)) = nI (2 ^ pC p - 1) then bv (if nI (mx rw' y) < nI n then nI n else nI (mx rw' y)) fun x4 => rec (x4, nI y + nI 1) else some (-nI 1)) (fun z => z = if mx rw' (pR p) ≤ pY p then nI (mx rw' (pR p)) else m1) := by
      intro n hn h2 h3
      by_cases c : rw' y ≤ n
      · rw [if_pos ((hfull n).mpr c), ite_ltn (by omega) (by omega), bv_eq, nI_add]
        have en := h2 c
        refine hrec _ ⟨?_, ?_⟩
        · rw [em, ← en]
          split <;> rfl
        · rw [em]
          split <;> omega
      · rw [if_neg (fun z => c ((hfull n).mp z))]
        refine Sat.of ?_
        have l1 := mx_ge (f := rw') hy
        have : n = pY p := by
          apply Classical.byContradiction
          intro hne
          exact c (h3 (by omega))
        rw [if_neg (by omega)]
        rfl
    refine Sat.lp (fun n s => s = (nI (mk (fun x => decide (es p f t x y < n)) (pC p)), nI n) ∧ (0 < n → ¬ rw' y ≤ n - 1)) (pY p) (by omega) ⟨by rw [mk_zero.mpr (fun i _ => by simp)], fun z => by omega⟩ ?_ ?_
    · rintro rec2 n _ hn ⟨rfl, hp2⟩ hrec2
      simp only []
      rw [hP.1.2.2.2.1, lj_eq, if_neg (nI_ge hn (by omega)), hK]
      by_cases c : rw' y ≤ n
      · rw [if_pos ((hfull n).mpr c)]
        refine jn n (by omega) (fun _ => ?_) (fun _ => c)
        by_cases z : n = 0
        · subst z
          omega
        · have := hp2 (by omega)
          omega
      · rw [if_neg (fun z => c ((hfull n).mp z)), nI_add, restA (by omega) (by omega) (by omega), Option.bind_some, nI_mul, nI_add, ag_nI (by have := Nat.mod_lt (t + n) (show 0 < pY p by omega); omega) (by decide), hH _ y (Nat.mod_lt _ (by omega)) hy, mk_or, bv_eq, nI_add]
        refine hrec2 _ ⟨?_, fun _ => ?_⟩
        · congr 2
          apply mk_cong
          intro x _
          have ha := fi_all (fun n => sb p f (us p f) (t + n) x y) (pY p)
          show (decide (es p f t x y < n) || sb p f (us p f) ((t + n) % pY p) x y) = decide (es p f t x y < n + 1)
          rw [sb_per hw]
          apply Bool.eq_iff_iff.mpr
          rw [Bool.or_eq_true, decide_eq_true_iff, decide_eq_true_iff]
          unfold es
          constructor
          · rintro (l | l)
            · omega
            · apply Classical.byContradiction
              intro hne
              have := ha.2.1 n (by omega)
              rw [l] at this
              exact absurd this (by decide)
          · intro l
            by_cases e : fi (fun n => sb p f (us p f) (t + n) x y) (pY p) = n
            · have := ha.2.2 (by omega)
              rw [e] at this
              exact Or.inr this
            · exact Or.inl (by omega)
        · rw [Nat.add_sub_cancel]
          exact c
    · rintro rec2 _ ⟨rfl, hp2⟩
      simp only []
      rw [hP.1.2.2.2.1, lj_eq, if_pos (nI_le (Nat.le_refl _) (by omega)), hK]
      refine jn (pY p) (Nat.le_refl _) (fun c => ?_) (fun z => by omega)
      have := hp2 (by omega)
      omega
  · rintro rec _ ⟨rfl, hl⟩
    simp only []
    rw [hP.1.2.1, if_pos (nI_le (Nat.le_refl _) (by omega)), if_pos hl]
    exact Sat.of rfl
theorem c_soon {p : Pl} {f : Fl} {gA gB : G} (h : RS p f gA gB) (hA : CA p f gA) (hB : CB p f gB) (a : Int32) : Eq2 (fA_D_soon a gA) (fB_M_soon a gB) := by
  unfold fA_D_soon fB_M_soon
  rcases tick2 h a with ⟨hw, t, ht, rfl, t1, t2, t3⟩ | ⟨t1, t2⟩
  · have h1 := hw.c
    have hmm := crY hw
    have hm : t % pY p < pY p := Nat.mod_lt _ (by omega)
    obtain ⟨g1, e1, F1, R1, C1, L1, P1, U1⟩ := look2 h hw hA
    obtain ⟨g3, e3, F3, L3, P3, N3, C3⟩ := lays2 h hw hB
    have eper : ∀ x y, es p f (t % pY p) x y = es p f t x y := by
      intro x y
      unfold es
      congr 1
      funext n
      rw [← sb_per hw f _ (t % pY p + n), ← sb_per hw f _ (t + n), Nat.mod_add_mod]
    have eM : mx (fun y => mx (fun x => es p f (t % pY p) x y + 1) (pC p)) (pR p) = mx (fun k => es p f t (k % pC p) (k / pC p) + 1) (pC p * pR p) := by
      rw [mx_cells (by omega) (fun x y => es p f t x y + 1)]
      apply mx_cong
      intro y _
      apply mx_cong
      intro x _
      rw [eper]
    have hpos : 0 < pC p * pR p := Nat.mul_pos (by omega) (by omega)
    have eS : ∀ n, mx (fun k => es p f t (k % pC p) (k / pC p)) n ≤ pY p := fun n => mx_le (fun _ _ => es_le _ _ _ _ _)
    have eB : (Lp (α := Int32 × Int32) (fun rec3 s3 => (if (g3.1 8) ≤ s3.2 then some (s3.1 + 1, g3) else Option.bind (fB_M_upSet g3) fun x4 => Option.bind (fB_M_nextOf s3.2 (nI t) x4 g3) fun x5 => (if x5 = (-1) then some ((-1), g3) else Option.bind (fB_M_greater s3.1 x5 g3) fun x6 => rec3 (x6, s3.2 + 1)))) FU (0, 0)) = some ((if mx (fun k => es p f t (k % pC p) (k / pC p) + 1) (pC p * pR p) ≤ pY p then nI (mx (fun k => es p f t (k % pC p) (k / pC p) + 1) (pC p * pR p)) else m1), g3) := by
      apply Sat.eq
      refine Sat.lp (fun k s => s = (nI (mx (fun k => es p f t (k % pC p) (k / pC p)) k), nI k) ∧ ∀ j, j < k → es p f t (j % pC p) (j / pC p) < pY p) (pC p * pR p) (by omega) ⟨rfl, fun j hj => by omega⟩ ?_ ?_
      · rintro rec k _ hk ⟨rfl, hj⟩ hrec
        have l1 := es_le p f t (k % pC p) (k / pC p)
        have l2 := eS k
        simp only []
        rw [P3.1.2.2.2.2.2.2.2.1, if_neg (nI_ge hk (by omega)), upSetB hw P3 N3 h.2.2.2.2.2.2.1, Option.bind_some, nextB hw P3 L3 hk (by omega), Option.bind_some]
        change Sat (if (if es p f t (k % pC p) (k / pC p) < pY p then nI (es p f t (k % pC p) (k / pC p)) else m1) = -1 then _ else Option.bind (fB_M_greater _ (if es p f t (k % pC p) (k / pC p) < pY p then nI (es p f t (k % pC p) (k / pC p)) else m1) g3) _) _
        by_cases c : es p f t (k % pC p) (k / pC p) < pY p
        · rw [if_pos c, if_neg (show ¬ nI (es p f t (k % pC p) (k / pC p)) = -1 from fun e => (n_ne_m1 (by omega)).mp e), greaterB (by omega) (by omega), Option.bind_some, nl, nI_add]
          refine hrec _ ⟨rfl, fun j hj2 => ?_⟩
          by_cases e : j = k
          · rw [e]; exact c
          · exact hj j (by omega)
        · rw [if_neg c, if_pos (show m1 = -1 from rfl)]
          refine Sat.of ?_
          have := mx_ge (f := fun k => es p f t (k % pC p) (k / pC p) + 1) hk
          have t2 : es p f t (k % pC p) (k / pC p) + 1 ≤ mx (fun k => es p f t (k % pC p) (k / pC p) + 1) (pC p * pR p) := this
          rw [if_neg (by omega)]
          rfl
      · rintro rec _ ⟨rfl, hj⟩
        simp only []
        rw [P3.1.2.2.2.2.2.2.2.1, if_pos (nI_le (Nat.le_refl _) (by omega)), nl, nI_add]
        have e1 : mx (fun k => es p f t (k % pC p) (k / pC p) + 1) (pC p * pR p) = mx (fun k => es p f t (k % pC p) (k / pC p)) (pC p * pR p) + 1 := by
          apply Nat.le_antisymm
          · apply mx_le
            intro k hk
            have := mx_ge (f := fun k => es p f t (k % pC p) (k / pC p)) hk
            have t2 : es p f t (k % pC p) (k / pC p) ≤ mx (fun k => es p f t (k % pC p) (k / pC p)) (pC p * pR p) := this
            omega
          · rcases mx_is (f := fun k => es p f t (k % pC p) (k / pC p)) (n := pC p * pR p) with e | ⟨k, hk, e⟩
            · have := mx_ge (f := fun k => es p f t (k % pC p) (k / pC p) + 1) hpos
              have t2 : es p f t (0 % pC p) (0 / pC p) + 1 ≤ mx (fun k => es p f t (k % pC p) (k / pC p) + 1) (pC p * pR p) := this
              omega
            · have := mx_ge (f := fun k => es p f t (k % pC p) (k / pC p) + 1) hk
              have t2 : es p f t (k % pC p) (k / pC p) + 1 ≤ mx (fun k => es p f t (k % pC p) (k / pC p) + 1) (pC p * pR p) := this
              omega
        have l3 : mx (fun k => es p f t (k % pC p) (k / pC p)) (pC p * pR p) < pY p := by
          rcases mx_is (f := fun k => es p f t (k % pC p) (k / pC p)) (n := pC p * pR p) with e | ⟨k, hk, e⟩
          · omega
          · rw [e]
            exact hj k hk
        rw [e1, if_pos (by omega)]
        exact Sat.of rfl
    rw [t1, t2, t3, Option.bind_some, Option.bind_some, if_neg i10, if_neg i10, if_neg i10, e1, Option.bind_some, inCycleA hw P1 (by omega), Option.bind_some, untilAllA hw P1 L1.1.1.1 L1.2.2 (by omega), Option.bind_some, e3, Option.bind_some, eB, eM]
    exact ⟨_, _, _, rfl, rfl, Rel.mk2 h F1 F3 C1 C3⟩
  · rw [t1, Option.bind_some, if_pos i00]
    rcases t2 with e | ⟨e, e2⟩
    · rw [e, if_pos i00]
      exact ⟨_, _, _, rfl, rfl, p, f, h, hA, hB⟩
    · rw [e, if_neg i10, e2, Option.bind_some, if_pos i00]
      exact ⟨_, _, _, rfl, rfl, p, f, h, hA, hB⟩
