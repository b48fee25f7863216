/-! THE CALLS: has, depth, covered, extreme -/
theorem c_has {p : Pl} {f : Fl} {gA gB : G} (h : RS p f gA gB) (a : Int32) : Eq1 (fA_D_has a gA) (fB_M_has a gB) := by
  have hl := h.lt
  have hz := h.zc
  obtain ⟨r1, r2, r3, r4, r5, r6, r7, r8, r9, r10, r11, ⟨s, hs, s1, s2⟩, ⟨n, t, hn, ht, n1, n2, n3, n4⟩, ⟨m, hm, m1, m2, m3⟩, r15, r16⟩ := h
  have es : (gA.2.2.1 : Int64).toInt32 = nI s := by rw [s1]; simp
  have eu : fA_Integer_bitCount (gA.1 2700) gA = some (nI (pc (us p f))) := by rw [r5.1]; exact bitCount_eq (Nat.lt_trans (us_lt p f) (by decide)) _
  unfold fA_D_has fB_M_has
  rw [es, eu, Option.bind_some, r3.1.1, r3.1.2.1, r3.1.2.2.1, r3.1.2.2.2.1, r3.1.2.2.2.2.1, r3.1.2.2.2.2.2.1, r3.1.2.2.2.2.2.2.1, r3.1.2.2.2.2.2.2.2, m1, n1, s2]
  by_cases e11 : a = 11
  · subst e11
    rw [if_pos rfl]
    exact ⟨_, rfl, rfl⟩
  · rw [if_neg e11]
    rcases r1 with ⟨w, e⟩ | ⟨z, e⟩
    · rw [e, if_neg i10, upAllB (by omega) r4 r6 r7, Option.bind_some, r4.1.1, r4.1.2.1, r4.1.2.2.1, r4.1.2.2.2.1, r4.1.2.2.2.2.1, r4.1.2.2.2.2.2.1, r4.1.2.2.2.2.2.2.1, r4.1.2.2.2.2.2.2.2.2, m2, n3]
      rw [if_neg e11]
      repeat' split
      all_goals exact ⟨_, rfl, rfl⟩
    · have zz := z
      unfold ZP at zz
      have en : n = 0 := hn.2 zz.1
      have em : m = 0 := by
        apply Classical.byContradiction
        intro hne
        obtain ⟨t, x, y, s, h1, _⟩ := m3 0 (by omega)
        omega
      have ea : al p = 0 := by unfold al; rw [zz.2.1]; rfl
      have eu0 : pc (us p f) = 0 := by rw [pc_us (by omega), zz.2.2.2.2.2.1]; rfl
      rw [e, if_pos i00, if_neg e11, zz.1, zz.2.1, zz.2.2.1, zz.2.2.2.1, zz.2.2.2.2.1, zz.2.2.2.2.2.1, zz.2.2.2.2.2.2, en, em, ea, eu0]
      by_cases hx : rg 11 a
      · obtain ⟨j, hj, rfl⟩ := hx
        rw [inB_t hj (by decide) (by decide), Option.bind_some, if_neg i10]
        refine ⟨0, ?_, rfl⟩
        have : j = 0 ∨ j = 1 ∨ j = 2 ∨ j = 3 ∨ j = 4 ∨ j = 5 ∨ j = 6 ∨ j = 7 ∨ j = 8 ∨ j = 9 ∨ j = 10 := by omega
        rcases this with rfl | rfl | rfl | rfl | rfl | rfl | rfl | rfl | rfl | rfl | rfl <;> rfl
      · rw [inB_f hx (by decide) (by decide), Option.bind_some, if_pos i00]
        rw [if_neg (show ¬ a = 0 from fun e => hx ⟨0, by decide, e⟩), if_neg (show ¬ a = 1 from fun e => hx ⟨1, by decide, e⟩), if_neg (show ¬ a = 2 from fun e => hx ⟨2, by decide, e⟩), if_neg (show ¬ a = 3 from fun e => hx ⟨3, by decide, e⟩), if_neg (show ¬ a = 4 from fun e => hx ⟨4, by decide, e⟩), if_neg (show ¬ a = 5 from fun e => hx ⟨5, by decide, e⟩), if_neg (show ¬ a = 6 from fun e => hx ⟨6, by decide, e⟩), if_neg (show ¬ a = 7 from fun e => hx ⟨7, by decide, e⟩), if_neg (show ¬ a = 8 from fun e => hx ⟨8, by decide, e⟩), if_neg (show ¬ a = 9 from fun e => hx ⟨9, by decide, e⟩), if_neg (show ¬ a = 10 from fun e => hx ⟨10, by decide, e⟩)]
        exact ⟨_, rfl, rfl⟩
/-- the first of the greatest -/
def am (d : Nat → Nat) : Nat → Nat
  | 0 => 0
  | n + 1 => if d (am d n) < d n then n else am d n
theorem am_lt (d : Nat → Nat) : ∀ n, 0 < n → am d n < n
  | 0, h => absurd h (Nat.lt_irrefl 0)
  | n + 1, _ => by
    unfold am
    split
    · omega
    · by_cases e : n = 0
      · subst e
        exact Nat.lt_succ_self 0
      · have := am_lt d n (by omega)
        omega
theorem am_1 (d : Nat → Nat) : am d 1 = 0 := by
  unfold am
  rw [if_neg (by unfold am; exact Nat.lt_irrefl _)]
  rfl
/-- how many see a cell -/
def dp (p : Pl) (f : Fl) (x y t : Nat) : Nat := pc (who p f t x y &&& us p f)
theorem dp_le (p : Pl) (f : Fl) (x y t : Nat) : dp p f x y t ≤ 8 := pc_le (n := 8) (ws_lt p f _ t x y) (by decide)
theorem depthA {p : Pl} (hw : WP p) {f : Fl} {g : G} {x y : Nat} (hS : SM p (kd p f (us p f) x y) g) {t : Nat} (ht : t < pY p) : fA_Strip_depthAt (nI t) g = some (nI (dp p f x y t)) := by
  have h1 := hw.c
  have wl := ws_lt p f (us p f) t x y
  unfold fA_Strip_depthAt dp
  rw [nl, isOfA hw hS (by decide) ht, Option.bind_some, ag_nI (by omega) (by decide), hS.2 t ht, nl, bitCount_eq (Nat.lt_trans (mk_lt _ 9) (by decide)), Option.bind_some]
  unfold kd sb
  by_cases z : who p f t x y &&& us p f = 0
  · rw [if_pos rfl, z]
    simp only [ne_eq, not_true_eq_false, decide_false, Bool.not_false]
    rw [if_neg z1, pc_0]
  · rw [if_pos rfl]
    simp only [ne_eq, z, not_false_eq_true, decide_true, Bool.not_true]
    rw [if_pos z0]
    congr 3
    symm
    apply mk_ext (by omega)
    intro i hi
    by_cases e : i = 8
    · rw [if_pos e, e, bit_hi (n := 8) wl (by decide)]
    · rw [if_neg e]
theorem c_depth {p : Pl} {f : Fl} {gA gB : G} (h : RS p f gA gB) (hA : CA p f gA) (hB : CB p f gB) (a b d : Int32) : Eq2 (fA_D_depth a b d gA) (fB_M_depth a b d gB) := by
  have hl := h.lt
  by_cases hc : rg (pC p) a ∧ rg (pR p) b
  · obtain ⟨⟨x, hx, rfl⟩, y, hy, rfl⟩ := hc
    have hw := h.wp (by omega)
    have h1 := hw.c
    have hm := crY hw
    have r7 := h.2.2.2.2.2.2.1
    obtain ⟨g1, g2, e1, e2, FA, CA', PA', SA⟩ := strip2' h hw hA hx hy
    have dl := dp_le p f x y
    have eD : fA_Strip_deepestTick g2 = some (nI (am (dp p f x y) (pY p))) := by
      apply Sat.eq
      unfold fA_Strip_deepestTick
      refine Sat.lp (fun i s => s = (nI (am (dp p f x y) (i + 1)), nI (i + 1))) (pY p - 1) (by omega) (by rw [am_1]; rfl) ?_ ?_
      · rintro rec i _ hi rfl hrec
        have l1 := am_lt (dp p f x y) (i + 1) (by omega)
        have := dl (i + 1)
        have := dl (am (dp p f x y) (i + 1))
        simp only []
        rw [SA.1, if_neg (nI_ge (by omega) (by omega)), depthA hw SA (by omega), Option.bind_some, depthA hw SA (by omega), Option.bind_some, lj_eq, ite_len (by omega) (by omega), nl, nI_add]
        have ea : am (dp p f x y) (i + 1 + 1) = if dp p f x y (am (dp p f x y) (i + 1)) < dp p f x y (i + 1) then i + 1 else am (dp p f x y) (i + 1) := rfl
        by_cases l : dp p f x y (i + 1) ≤ dp p f x y (am (dp p f x y) (i + 1))
        · rw [if_pos l]
          exact hrec _ (by rw [ea, if_neg (by omega)])
        · rw [if_neg l]
          exact hrec _ (by rw [ea, if_pos (by omega)])
      · rintro rec _ rfl
        simp only []
        rw [SA.1, if_pos (nI_le (by omega) (by omega)), show pY p - 1 + 1 = pY p by omega]
        exact Sat.of rfl
    have eC : fA_Strip_countDouble g2 = some (nI (cn (fun t => decide (2 ≤ dp p f x y t)) (pY p))) := by
      apply Sat.eq
      unfold fA_Strip_countDouble
      refine Sat.lp (fun t s => s = (nI (cn (fun t => decide (2 ≤ dp p f x y t)) t), nI t)) (pY p) (by omega) rfl ?_ ?_
      · rintro rec t _ ht rfl hrec
        have := dl t
        simp only []
        simp only [nl]
        rw [SA.1, if_neg (nI_ge ht (by omega)), depthA hw SA ht, Option.bind_some, lj_eq, ite_ltn (by omega) (by decide)]
        dsimp only
        rw [bv_eq, bv_eq, nI_add, nI_add, nI_add]
        by_cases l : dp p f x y t < 2
        · rw [if_pos l]
          exact hrec _ (by rw [cn_f (decide_eq_false (by omega))]; rfl)
        · rw [if_neg l]
          exact hrec _ (by rw [cn_t (decide_eq_true (by omega))])
      · rintro rec _ rfl
        simp only []
        rw [SA.1, if_pos (nI_le (Nat.le_refl _) (by omega))]
        exact Sat.of rfl
    have la := am_lt (dp p f x y) (pY p) (by omega)
    have eA : fA_D_depth (nI x) (nI y) d gA = (if d = 0 then some (nI (dp p f x y (am (dp p f x y) (pY p))), g2) else if d = 1 then some (nI (am (dp p f x y) (pY p)), g2) else if d = 2 then some (nI (cn (fun t => decide (2 ≤ dp p f x y t)) (pY p)), g2) else some ((-1), g2)) := by
      unfold fA_D_depth
      rw [cellA_t h.2.2.1 hx hy (by omega), Option.bind_some, if_neg i10, e1, Option.bind_some, e2, Option.bind_some, eD, Option.bind_some, eC, Option.bind_some, depthA hw SA la, Option.bind_some]
    rw [eA]
    unfold fB_M_depth
    rw [cellB_t h.2.2.2.1 hx hy (by omega), Option.bind_some, if_neg i10]
    by_cases hd : rg 3 d
    · obtain ⟨w, hw2, rfl⟩ := hd
      rw [inB_t hw2 (by decide) (by decide), Option.bind_some, if_neg i10]
      obtain ⟨g3, e3, F3, L3, P3, N3, C3⟩ := lays2 h hw hB
      rw [e3, Option.bind_some]
      have rel := Rel.mk2 h FA F3 CA' C3
      have eB : ∀ dd : Int32, (Lp (α := Int32 × Int32 × Int32 × Int32) (fun rec4 s4 => (if (g3.1 7) ≤ s4.2.2.2 then (if dd = 0 then some (s4.1, g3) else (if dd = 1 then some (s4.2.1, g3) else some (s4.2.2.1, g3))) else ag 69120 (g3.2.1 22) ((((g3.1 8) * s4.2.2.2) + ((g3.1 1) * nI y)) + nI x) fun x5 => Option.bind (fB_M_upSet g3) fun x6 => Option.bind (fB_M_manyIn (x5 &&& x6) g3) fun x7 => lj (α := Int32) (fun b8 => bv (s4.2.2.1 + b8) fun x9 => lj (α := Int32 × Int32) (fun b10 => rec4 (b10.1, b10.2, x9, s4.2.2.2 + 1)) fun J10 => (if s4.1 < x7 then J10 (x7, s4.2.2.2) else J10 (s4.1, s4.2.1))) fun J8 => (if x7 < 2 then J8 0 else J8 1))) FU ((-1), 0, 0, 0)) = (if dd = 0 then some (nI (dp p f x y (am (dp p f x y) (pY p))), g3) else (if dd = 1 then some (nI (am (dp p f x y) (pY p)), g3) else some (nI (cn (fun t => decide (2 ≤ dp p f x y t)) (pY p)), g3))) := by
        intro dd
        obtain ⟨r, er⟩ : ∃ r, (if dd = 0 then some (nI (dp p f x y (am (dp p f x y) (pY p))), g3) else (if dd = 1 then some (nI (am (dp p f x y) (pY p)), g3) else some (nI (cn (fun t => decide (2 ≤ dp p f x y t)) (pY p)), g3))) = some r := by
          split
          · exact ⟨_, rfl⟩
          · split <;> exact ⟨_, rfl⟩
        rw [er]
        apply Sat.eq
        refine Sat.lp (fun t s => s = ((if t = 0 then m1 else nI (dp p f x y (am (dp p f x y) t))), nI (am (dp p f x y) t), nI (cn (fun t => decide (2 ≤ dp p f x y t)) t), nI t)) (pY p) (by omega) rfl ?_ ?_
        · rintro rec t _ ht rfl hrec
          have hi := ixl hx hy ht
          have hd := ix (t := t) hx hy
          have := dl t
          have := dl (am (dp p f x y) t)
          simp only []
          simp only [nl, lj_eq]
          rw [P3.1.2.2.2.2.2.2.1, if_neg (nI_ge ht (by omega)), P3.1.2.2.2.2.2.2.2.1, P3.1.1, nI_mul, nI_mul, nI_add, nI_add, ag_nI (by omega) (by decide), L3 _ hi, upSetB hw P3 N3 r7, Option.bind_some, n_and]
          have ew : whK p f (pC p * pR p * t + pC p * y + x) = who p f t x y := by
            unfold whK
            rw [hd.1, hd.2.1, hd.2.2]
          rw [ew, manyB (ws_lt p f _ t x y), Option.bind_some]
          change Sat (if nI (dp p f x y t) < nI 2 then _ else _) _
          change Sat (if nI (dp p f x y t) < nI 2 then (bv _ fun x9 => if _ < nI (dp p f x y t) then rec (nI (dp p f x y t), _) else _) else (bv _ fun x9 => if _ < nI (dp p f x y t) then rec (nI (dp p f x y t), _) else _)) _
          rw [bv_eq, bv_eq, nI_add, nI_add, nI_add, ite_ltn (by omega) (by decide)]
          have ec : (if dp p f x y t < 2 then nI (cn (fun t => decide (2 ≤ dp p f x y t)) t + 0) else nI (cn (fun t => decide (2 ≤ dp p f x y t)) t + 1)) = nI (cn (fun t => decide (2 ≤ dp p f x y t)) (t + 1)) := by
            by_cases l : dp p f x y t < 2
            · rw [if_pos l, cn_f (decide_eq_false (by omega))]
              rfl
            · rw [if_neg l, cn_t (decide_eq_true (by omega))]
          have ea : am (dp p f x y) (t + 1) = if dp p f x y (am (dp p f x y) t) < dp p f x y t then t else am (dp p f x y) t := rfl
          have fin : ∀ z, z = nI (cn (fun t => decide (2 ≤ dp p f x y t)) (t + 1)) → Sat (if (if t = 0 then m1 else nI (dp p f x y (am (dp p f x y) t))) < nI (dp p f x y t) then rec (nI (dp p f x y t), nI t, z, nI (t + 1)) else rec ((if t = 0 then m1 else nI (dp p f x y (am (dp p f x y) t))), nI (am (dp p f x y) t), z, nI (t + 1))) (fun x => x = r) := by
            intro z ez
            subst ez
            by_cases t0 : t = 0
            · subst t0
              rw [if_pos (by rw [if_pos rfl, m1_lt (by omega)]; trivial)]
              exact hrec _ (by rw [am_1, if_neg (by omega)])
            · rw [if_neg t0, ite_ltn (by omega) (by omega)]
              by_cases l : dp p f x y (am (dp p f x y) t) < dp p f x y t
              · rw [if_pos l]
                exact hrec _ (by rw [ea, if_pos l, if_neg (by omega)])
              · rw [if_neg l]
                exact hrec _ (by rw [ea, if_neg l, if_neg (by omega)])
          by_cases l : dp p f x y t < 2
          · rw [if_pos l] at ec ⊢
            exact fin _ ec
          · rw [if_neg l] at ec ⊢
            exact fin _ ec
        · rintro rec _ rfl
          simp only []
          rw [P3.1.2.2.2.2.2.2.1, if_pos (nI_le (Nat.le_refl _) (by omega)), if_neg (show ¬ pY p = 0 by omega), er]
          exact Sat.of rfl
      rw [eB]
      have : w = 0 ∨ w = 1 ∨ w = 2 := by omega
      rcases this with rfl | rfl | rfl
      · rw [if_pos i00, if_pos i00]
        exact ⟨_, _, _, rfl, rfl, rel⟩
      · rw [if_neg i10, if_neg i10, if_pos (show nI 1 = 1 from rfl), if_pos (show nI 1 = 1 from rfl)]
        exact ⟨_, _, _, rfl, rfl, rel⟩
      · rw [if_neg (show ¬ nI 2 = 0 by decide), if_neg (show ¬ nI 2 = 0 by decide), if_neg (show ¬ nI 2 = 1 by decide), if_neg (show ¬ nI 2 = 1 by decide), if_pos (show nI 2 = 2 from rfl)]
        exact ⟨_, _, _, rfl, rfl, rel⟩
    · rw [inB_f hd (by decide) (by decide), Option.bind_some, if_pos i00, if_neg (show ¬ d = 0 from fun e => hd ⟨0, by decide, e⟩), if_neg (show ¬ d = 1 from fun e => hd ⟨1, by decide, e⟩), if_neg (show ¬ d = 2 from fun e => hd ⟨2, by decide, e⟩)]
      exact ⟨_, _, _, rfl, rfl, Rel.mk2 h FA Fr.rf CA' hB⟩
  · unfold fA_D_depth fB_M_depth
    rw [cellA_f h.2.2.1 hc, cellB_f h.2.2.2.1 hc (by omega), Option.bind_some, Option.bind_some, if_pos i00, if_pos i00]
    exact ⟨_, _, _, rfl, rfl, p, f, h, hA, hB⟩
