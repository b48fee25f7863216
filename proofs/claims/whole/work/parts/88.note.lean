/-! THE CALLS: note -/
def RW (p : Pl) (v : Nat → Nat) (m : Nat) : Prop := v (4 * m) < pY p ∧ v (4 * m + 1) < pC p ∧ v (4 * m + 2) < pR p ∧ v (4 * m + 3) ≤ 1
def GN (p : Pl) (v : Nat → Nat) (n : Nat) : Prop := 0 < n ∧ n % 4 = 0 ∧ n ≤ 64 ∧ ∀ m, m < n / 4 → RW p v m
theorem rg_nI {n a : Nat} (ha : a < 2 ^ 31) (hn : n < 2 ^ 31) : rg n (nI a) ↔ a < n := by
  constructor
  · rintro ⟨j, hj, e⟩
    rw [nI_eq ha (by omega)] at e
    omega
  · intro h
    exact ⟨a, h, rfl⟩
theorem notesA {p : Pl} (hw : WP p) {g : G} (hP : PA p g) (hst : fA_Plan_stands g = some (nI 1)) {n : Nat} (hn : n ≤ 1600) (e : g.1 101 = nI n) {v : Nat → Nat} (hv : ∀ i, i < n → v i < 256 ∧ g.2.1 2 i = nI (v i)) :
    Sat (fA_Notes_take g) (fun r => (r.1 = 0 ∧ r.2 = g ∧ ¬ GN p v n) ∨ (r.1 = 1 ∧ GN p v n ∧ Fr [13800] [139, 140, 141, 142] w0 g r.2 ∧ r.2.1 13800 = nI (n / 4) ∧ ∀ k, k < n / 4 → r.2.2.1 139 k = nI (v (4 * k)) ∧ r.2.2.1 140 k = nI (v (4 * k + 1)) ∧ r.2.2.1 141 k = nI (v (4 * k + 2)) ∧ r.2.2.1 142 k = nI (v (4 * k + 3)))) := by
  have h1 := hw.c
  unfold fA_Notes_take fA_Tape_size
  rw [Option.bind_some, hst, Option.bind_some, if_neg i10, e]
  simp only [nl]
  rw [ite_eqn (by omega) (by decide), n_dz (by decide) (by decide), n_div (by omega) (by decide), nI_mul, n_rem, ite_eqn (by omega) (by decide), ite_len (by omega) (by decide)]
  by_cases c0 : n = 0
  · rw [if_pos c0]
    exact Sat.of (Or.inl ⟨rfl, rfl, fun z => by have := z.1; omega⟩)
  · rw [if_neg c0]
    by_cases c1 : n % 4 = 0
    · rw [if_pos c1]
      by_cases c2 : n ≤ 64
      · rw [if_pos c2]
        refine Sat.lp (fun m s => s = nI (4 * m) ∧ ∀ k, k < m → RW p v k) (n / 4) (by omega) ⟨rfl, fun k hk => by omega⟩ ?_ ?_
        · rintro rec m _ hm ⟨rfl, hr⟩ hrec
          have b0 := hv (4 * m) (by omega)
          have b1 := hv (4 * m + 1) (by omega)
          have b2 := hv (4 * m + 2) (by omega)
          have b3 := hv (4 * m + 3) (by omega)
          have no : ¬ RW p v m → Sat (some (nI 0, g)) (fun r => (r.1 = 0 ∧ r.2 = g ∧ ¬ GN p v n) ∨ (r.1 = 1 ∧ GN p v n ∧ Fr [13800] [139, 140, 141, 142] w0 g r.2 ∧ r.2.1 13800 = nI (n / 4) ∧ ∀ k, k < n / 4 → r.2.2.1 139 k = nI (v (4 * k)) ∧ r.2.2.1 140 k = nI (v (4 * k + 1)) ∧ r.2.2.1 141 k = nI (v (4 * k + 2)) ∧ r.2.2.1 142 k = nI (v (4 * k + 3)))) := by
            intro hn2
            exact Sat.of (Or.inl ⟨rfl, rfl, fun z => hn2 (z.2.2.2 m hm)⟩)
          rw [if_neg (nI_ge (by omega) (by omega)), nI_add, byteA e (by omega) hn, Option.bind_some, nI_add, byteA e (by omega) hn, Option.bind_some, b1.2, b2.2]
          have cells : fA_Plan_hasCell (nI (v (4 * m + 1))) (nI (v (4 * m + 2))) g = some (bI (decide (v (4 * m + 1) < pC p ∧ v (4 * m + 2) < pR p))) := by
            by_cases hc : v (4 * m + 1) < pC p ∧ v (4 * m + 2) < pR p
            · rw [cellA_t hP hc.1 hc.2 (by omega), decide_eq_true hc]
              rfl
            · rw [cellA_f hP (by rw [rg_nI (by omega) (by omega), rg_nI (by omega) (by omega)]; exact hc), decide_eq_false hc]
              rfl
          rw [cells, Option.bind_some, byteA e (by omega) hn, Option.bind_some, b0.2, hP.1.2.2.2.1, ite_len (by omega) (by omega), nI_add, byteA e (by omega) hn, Option.bind_some, b3.2, ite_len (by omega) (by decide), nI_add]
          by_cases d1 : pY p ≤ v (4 * m)
          · rw [if_pos d1]
            exact no (fun z => by have := z.1; omega)
          · rw [if_neg d1]
            by_cases d2 : v (4 * m + 1) < pC p ∧ v (4 * m + 2) < pR p
            · rw [decide_eq_true d2, if_neg z1]
              by_cases d3 : v (4 * m + 3) ≤ 1
              · rw [if_pos d3]
                refine hrec _ ⟨by rw [show 4 * (m + 1) = 4 * m + 4 by omega], fun k hk => ?_⟩
                by_cases ek : k = m
                · subst ek
                  exact ⟨by omega, d2.1, d2.2, d3⟩
                · exact hr k (by omega)
              · rw [if_neg d3]
                exact no (fun z => d3 z.2.2.2)
            · rw [decide_eq_false d2, if_pos z0]
              exact no (fun z => d2 ⟨z.2.1, z.2.2.1⟩)
        · rintro rec _ ⟨rfl, hr⟩
          have gn : GN p v n := ⟨by omega, c1, c2, hr⟩
          rw [if_pos (nI_le (by omega) (by omega)), n_dz (by decide) (by decide), bv_eq]
          refine Sat.lp (fun k s => ∃ g', s = (nI k, g') ∧ Fr [13800] [139, 140, 141, 142] w0 g g' ∧ g'.1 13800 = nI (n / 4) ∧ ∀ j, j < k → g'.2.1 139 j = nI (v (4 * j)) ∧ g'.2.1 140 j = nI (v (4 * j + 1)) ∧ g'.2.1 141 j = nI (v (4 * j + 2)) ∧ g'.2.1 142 j = nI (v (4 * j + 3))) (n / 4) (by omega) ⟨_, rfl, Fr.rf.sS (by simp), rfl, fun j hj => by omega⟩ ?_ ?_
          · rintro rec2 k _ hk ⟨g1, rfl, F1, a1, a2⟩ hrec2
            have ft : ∀ (g' : G), Fr [13800] [139, 140, 141, 142] w0 g g' → ∀ k, k < n → fA_Tape_byteAt (nI k) g' = some (nI (v k)) := by
              intro g' Fg k hk
              rw [byteA ((Fg.1 101 (by simp)).trans e) hk hn, Fg.2.1 2 (by simp), (hv k hk).2]
            have F2 := F1.sA (k := 139) (i := k) (v := nI (v (4 * k))) (by simp)
            have F3 := F2.sA (k := 140) (i := k) (v := nI (v (4 * k + 1))) (by simp)
            have F4 := F3.sA (k := 141) (i := k) (v := nI (v (4 * k + 2))) (by simp)
            have F5 := F4.sA (k := 142) (i := k) (v := nI (v (4 * k + 3))) (by simp)
            simp only []
            rw [a1, if_neg (nI_ge hk (by omega)), nI_mul, ft g1 F1 _ (by omega), Option.bind_some, ck_nI (by omega) (by decide), nI_clamp (by omega), bv_eq, nI_add, ft _ F2 _ (by omega), Option.bind_some, ck_nI (by omega) (by decide), bv_eq, nI_add, ft _ F3 _ (by omega), Option.bind_some, ck_nI (by omega) (by decide), bv_eq, nI_add, ft _ F4 _ (by omega), Option.bind_some, ck_nI (by omega) (by decide), bv_eq, nI_add]
            refine hrec2 _ ⟨_, rfl, F5, a1, fun j hj => ?_⟩
            show upd (g1.2.1 139) k _ j = _ ∧ upd (g1.2.1 140) k _ j = _ ∧ upd (g1.2.1 141) k _ j = _ ∧ upd (g1.2.1 142) k _ j = _
            by_cases ej : j = k
            · subst ej
              rw [upd_self, upd_self, upd_self, upd_self]
              exact ⟨rfl, rfl, rfl, rfl⟩
            · rw [upd_ne _ _ ej, upd_ne _ _ ej, upd_ne _ _ ej, upd_ne _ _ ej]
              exact a2 j (by omega)
          · rintro rec2 _ ⟨g1, rfl, F1, a1, a2⟩
            simp only []
            rw [a1, if_pos (nI_le (Nat.le_refl _) (by omega))]
            exact Sat.of (Or.inr ⟨rfl, gn, F1, a1, a2⟩)
      · rw [if_neg c2]
        exact Sat.of (Or.inl ⟨rfl, rfl, fun z => c2 z.2.2.1⟩)
    · rw [if_neg c1]
      exact Sat.of (Or.inl ⟨rfl, rfl, fun z => c1 z.2.1⟩)
theorem c_note {p : Pl} {f : Fl} {gA gB : G} (h : RS p f gA gB) (hA : CA p f gA) (hB : CB p f gB) : Eq2 (fA_D_note gA) (fB_M_note gB) := by
  have hl := h.lt
  obtain ⟨n, v, hn, t1, t2, tv⟩ := h.2.2.2.2.2.2.2.1.get
  have FB0 : Fr [33] [] w0 gB (sS gB 33 0) := Fr.rf.sS (by simp)
  have eT : fB_M_taken gB = some (nI n, sS gB 33 0) := by
    unfold fB_M_taken
    rw [t2, bv_eq, bv_eq]
  have FA0 : Fr [101] [] w0 gA (sS gA 101 (nI 0)) := Fr.rf.sS (by simp)
  have R0 := h.tape (FA0.wd (by simp) (by simp) (by simp)) (FB0.wd (by simp) (by simp) (by simp)) rfl rfl
  have no : Eq2 (Option.bind (fA_D_refuse 5 (sS gA 101 (nI 0))) fun x3 => some (x3.1, x3.2)) (Option.bind (fB_M_refuses 5 (sS gB 33 0)) fun x9 => some (x9.1, x9.2)) :=
    no3 R0 (hA.fr FA0 (by simp) (by simp)) (hB.fr FB0 (by simp) (by simp)) (k := 5) (by decide)
  unfold fA_D_note fB_M_note
  rw [eT, Option.bind_some]
  simp only [lj_eq]
  -- the model's loop, from a truth that fails
  rcases standsA h with ⟨hw, s1, s2⟩ | ⟨hz, s1, s2⟩
  · have h1 := hw.c
    have PB0 := h.2.2.2.1.fr FB0 (by simp) (by simp)
    have b17 : ∀ i, i < n → v i < 256 ∧ (sS gB 33 0).2.1 17 i = nI (v i) := fun i hi => ⟨(tv i hi).1, (tv i hi).2.2⟩
    obtain ⟨⟨r1, g1⟩, e1, q1⟩ := notesA hw h.2.2.1 s1 hn t1 (v := v) (fun i hi => ⟨(tv i hi).1, (tv i hi).2.1⟩)
    have eB : ∀ t : Bool, (t = true ↔ (0 < n ∧ n % 4 = 0 ∧ n ≤ 64)) → Sat (Lp (α := Int32 × Int32) (fun rec3 s3 => (if s3.1 = 0 then (if s3.1 = 0 then Option.bind (fB_M_refuses 5 (sS gB 33 0)) fun x9 => some (x9.1, x9.2) else dz 4 (bv (sS (sS gB 33 0) 58 (nI n / 4)) fun g5 => Lp (α := Int32 × G) (fun rec6 s6 => (if nI n ≤ s6.1 then some (s6.2.1 58, s6.2) else ag 1600 (s6.2.2.1 17) s6.1 fun x7 => ck 64 s6.1 (bv (sA s6.2 26 (s6.1 : Int32).toNatClampNeg x7) fun g8 => rec6 (s6.1 + 1, g8)))) FU (0, g5))) else (if nI n ≤ s3.2 then (if s3.1 = 0 then Option.bind (fB_M_refuses 5 (sS gB 33 0)) fun x9 => some (x9.1, x9.2) else dz 4 (bv (sS (sS gB 33 0) 58 (nI n / 4)) fun g5 => Lp (α := Int32 × G) (fun rec6 s6 => (if nI n ≤ s6.1 then some (s6.2.1 58, s6.2) else ag 1600 (s6.2.2.1 17) s6.1 fun x7 => ck 64 s6.1 (bv (sA s6.2 26 (s6.1 : Int32).toNatClampNeg x7) fun g8 => rec6 (s6.1 + 1, g8)))) FU (0, g5))) else ag 1600 ((sS gB 33 0).2.1 17) s3.2 fun x10 => (if ((sS gB 33 0).1 7) ≤ x10 then rec3 (0, s3.2 + 4) else ag 1600 ((sS gB 33 0).2.1 17) (s3.2 + 1) fun x13 => ag 1600 ((sS gB 33 0).2.1 17) (s3.2 + 2) fun x14 => Option.bind (fB_M_isCell x13 x14 (sS gB 33 0)) fun x15 => (if x15 = 0 then rec3 (0, s3.2 + 4) else ag 1600 ((sS gB 33 0).2.1 17) (s3.2 + 3) fun x16 => (if 1 < x16 then rec3 (0, s3.2 + 4) else rec3 (1, s3.2 + 4))))))) FU (bI t, 0))
        (fun r => (¬ GN p v n ∧ (Option.bind (fB_M_refuses 5 (sS gB 33 0)) fun x9 => some (x9.1, x9.2)) = some r) ∨ (GN p v n ∧ r.1 = nI (n / 4) ∧ Fr [58] [26] w0 (sS gB 33 0) r.2 ∧ r.2.1 58 = nI (n / 4) ∧ ∀ k, k < n → r.2.2.1 26 k = nI (v k))) := by
      intro t ht
      obtain ⟨rr, hrr⟩ : ∃ rr, (Option.bind (fB_M_refuses 5 (sS gB 33 0)) fun x9 => some (x9.1, x9.2)) = some rr := ⟨_, by rw [show (5 : Int32) = nI 5 from rfl, refuseB (by decide), Option.bind_some]⟩
      refine Sat.lpm (fun s => ∃ (u : Bool) (m : Nat), s = (bI u, nI (4 * m)) ∧ 4 * m ≤ n + 3 ∧ (u = true ↔ ((0 < n ∧ n % 4 = 0 ∧ n ≤ 64) ∧ ∀ k, k < m → RW p v k))) (fun s => n + 4 - s.2.toNatClampNeg) (by show n + 4 - _ < _; omega) ⟨t, 0, rfl, by omega, by rw [ht]; exact ⟨fun z => ⟨z, fun d hd => by omega⟩, fun z => z.1⟩⟩ ?_
      rintro rec _ ⟨u, m, rfl, hm, hu⟩ hrec
      simp only []
      cases u
      · rw [if_pos (show bI false = (0 : Int32) from rfl), if_pos (show bI false = (0 : Int32) from rfl), hrr]
        refine Sat.of (Or.inl ⟨fun z => ?_, rfl⟩)
        have z4 := z.2.2.2
        exact absurd (hu.mpr ⟨⟨z.1, z.2.1, z.2.2.1⟩, fun k hk => z4 k (by have := z.2.1; omega)⟩) (by decide)
      · have hu := hu.mp rfl
        rw [if_neg (show ¬ bI true = (0 : Int32) from z1)]
        by_cases l : n ≤ 4 * m
        · rw [if_pos (nI_le l (by omega)), if_neg (show ¬ bI true = (0 : Int32) from z1), show (4 : Int32) = nI 4 from rfl, n_dz (by decide) (by decide), n_div (by omega) (by decide), bv_eq]
          have gn : GN p v n := ⟨hu.1.1, hu.1.2.1, hu.1.2.2, fun k hk => hu.2 k (by omega)⟩
          refine Sat.lp (fun k s => ∃ g', s = (nI k, g') ∧ Fr [58] [26] w0 (sS gB 33 0) g' ∧ g'.1 58 = nI (n / 4) ∧ ∀ j, j < k → g'.2.1 26 j = nI (v j)) n (by omega) ⟨_, rfl, Fr.rf.sS (by simp), rfl, fun j hj => by omega⟩ ?_ ?_
          · rintro rec2 k _ hk ⟨g2, rfl, F2, a1, a2⟩ hrec2
            have b : g2.2.1 17 k = nI (v k) := by rw [F2.2.1 17 (by simp)]; exact (b17 k hk).2
            simp only []
            rw [if_neg (nI_ge hk (by omega)), ag_nI (by omega) (by decide), b, ck_nI (by omega) (by decide), nI_clamp (by omega), bv_eq, nl, nI_add]
            refine hrec2 _ ⟨_, rfl, F2.sA (by simp), a1, fun j hj => ?_⟩
            rw [sA_21, if_pos rfl]
            by_cases ej : j = k
            · subst ej
              rw [upd_self]
            · rw [upd_ne _ _ ej]
              exact a2 j (by omega)
          · rintro rec2 _ ⟨g2, rfl, F2, a1, a2⟩
            simp only []
            rw [if_pos (nI_le (Nat.le_refl _) (by omega))]
            exact Sat.of (Or.inr ⟨gn, a1, F2, a1, a2⟩)
        · have lm : 4 * m + 4 ≤ n := by omega
          have b0 := b17 (4 * m) (by omega)
          have b1 := b17 (4 * m + 1) (by omega)
          have b2 := b17 (4 * m + 2) (by omega)
          have b3 := b17 (4 * m + 3) (by omega)
          have dn : (nI (4 * m + 4)).toNatClampNeg = 4 * m + 4 := nI_clamp (by omega)
          have dc : (nI (4 * m)).toNatClampNeg = 4 * m := nI_clamp (by omega)
          have cells : fB_M_isCell (nI (v (4 * m + 1))) (nI (v (4 * m + 2))) (sS gB 33 0) = some (bI (decide (v (4 * m + 1) < pC p ∧ v (4 * m + 2) < pR p))) := by
            by_cases hc : v (4 * m + 1) < pC p ∧ v (4 * m + 2) < pR p
            · rw [cellB_t PB0 hc.1 hc.2 (by omega), decide_eq_true hc]
              rfl
            · rw [cellB_f PB0 (by rw [rg_nI (by omega) (by omega), rg_nI (by omega) (by omega)]; exact hc) (by omega), decide_eq_false hc]
              rfl
          have go : ∀ u : Bool, (u = true ↔ RW p v m) → Sat (rec (bI u, nI (4 * m + 4))) (fun r => (¬ GN p v n ∧ (Option.bind (fB_M_refuses 5 (sS gB 33 0)) fun x9 => some (x9.1, x9.2)) = some r) ∨ (GN p v n ∧ r.1 = nI (n / 4) ∧ Fr [58] [26] w0 (sS gB 33 0) r.2 ∧ r.2.1 58 = nI (n / 4) ∧ ∀ k, k < n → r.2.2.1 26 k = nI (v k))) := by
            intro u hu2
            refine hrec _ ⟨u, m + 1, by rw [show 4 * (m + 1) = 4 * m + 4 by omega], by omega, ?_⟩ (by show n + 4 - (nI (4 * m + 4)).toNatClampNeg < n + 4 - (nI (4 * m)).toNatClampNeg; rw [dn, dc]; omega)
            rw [hu2]
            constructor
            · intro z
              refine ⟨hu.1, fun d hd => ?_⟩
              by_cases e : d = m
              · subst e
                exact z
              · exact hu.2 d (by omega)
            · intro z
              exact z.2 m (by omega)
          have PY : (sS gB 33 0).1 7 = nI (pY p) := PB0.1.2.2.2.2.2.2.1
          simp only [nl]
          simp only [nI_add]
          rw [show sS gB 33 (nI 0) = sS gB 33 0 from rfl, if_neg (nI_ge (by omega) (by omega)), ag_nI (by omega) (by decide), b0.2, PY, ite_len (by omega) (by omega), ag_nI (by omega) (by decide), b1.2, ag_nI (by omega) (by decide), b2.2, cells, Option.bind_some, ag_nI (by omega) (by decide), b3.2, ite_ltn (by decide) (by omega)]
          by_cases d1 : pY p ≤ v (4 * m)
          · rw [if_pos d1]
            exact go false ⟨fun z => absurd z (by decide), fun z => by have := z.1; omega⟩
          · rw [if_neg d1]
            by_cases d2 : v (4 * m + 1) < pC p ∧ v (4 * m + 2) < pR p
            · rw [decide_eq_true d2, if_neg z1]
              by_cases d3 : 1 < v (4 * m + 3)
              · rw [if_pos d3]
                exact go false ⟨fun z => absurd z (by decide), fun z => by have := z.2.2.2; omega⟩
              · rw [if_neg d3]
                exact go true ⟨fun _ => ⟨by omega, d2.1, d2.2, by omega⟩, fun _ => rfl⟩
            · rw [decide_eq_false d2, if_pos z0]
              exact go false ⟨fun z => absurd z (by decide), fun z => absurd ⟨z.2.1, z.2.2.1⟩ d2⟩
    have fin : ∀ t : Bool, (t = true ↔ (0 < n ∧ n % 4 = 0 ∧ n ≤ 64)) → ∀ o, o = (Lp (α := Int32 × Int32) (fun rec3 s3 => (if s3.1 = 0 then (if s3.1 = 0 then Option.bind (fB_M_refuses 5 (sS gB 33 0)) fun x9 => some (x9.1, x9.2) else dz 4 (bv (sS (sS gB 33 0) 58 (nI n / 4)) fun g5 => Lp (α := Int32 × G) (fun rec6 s6 => (if nI n ≤ s6.1 then some (s6.2.1 58, s6.2) else ag 1600 (s6.2.2.1 17) s6.1 fun x7 => ck 64 s6.1 (bv (sA s6.2 26 (s6.1 : Int32).toNatClampNeg x7) fun g8 => rec6 (s6.1 + 1, g8)))) FU (0, g5))) else (if nI n ≤ s3.2 then (if s3.1 = 0 then Option.bind (fB_M_refuses 5 (sS gB 33 0)) fun x9 => some (x9.1, x9.2) else dz 4 (bv (sS (sS gB 33 0) 58 (nI n / 4)) fun g5 => Lp (α := Int32 × G) (fun rec6 s6 => (if nI n ≤ s6.1 then some (s6.2.1 58, s6.2) else ag 1600 (s6.2.2.1 17) s6.1 fun x7 => ck 64 s6.1 (bv (sA s6.2 26 (s6.1 : Int32).toNatClampNeg x7) fun g8 => rec6 (s6.1 + 1, g8)))) FU (0, g5))) else ag 1600 ((sS gB 33 0).2.1 17) s3.2 fun x10 => (if ((sS gB 33 0).1 7) ≤ x10 then rec3 (0, s3.2 + 4) else ag 1600 ((sS gB 33 0).2.1 17) (s3.2 + 1) fun x13 => ag 1600 ((sS gB 33 0).2.1 17) (s3.2 + 2) fun x14 => Option.bind (fB_M_isCell x13 x14 (sS gB 33 0)) fun x15 => (if x15 = 0 then rec3 (0, s3.2 + 4) else ag 1600 ((sS gB 33 0).2.1 17) (s3.2 + 3) fun x16 => (if 1 < x16 then rec3 (0, s3.2 + 4) else rec3 (1, s3.2 + 4))))))) FU (bI t, 0)) → Eq2 (Option.bind (fA_Notes_take gA) fun x1 => Option.bind (fA_Tape_cutTo 0 x1.2) fun x2 => (if x1.1 = 0 then Option.bind (fA_D_refuse 5 x2) fun x3 => some (x3.1, x3.2) else some (x2.1 13800, x2))) o := by
      intro t ht o ho
      obtain ⟨⟨r2, g2⟩, e2, q2⟩ := eB t ht
      rw [ho, e2, e1, Option.bind_some]
      dsimp only at q1 q2 ⊢
      rcases q1 with ⟨rfl, rfl, ng⟩ | ⟨rfl, gn, F1, a1, a2⟩
      · rcases q2 with ⟨_, e3⟩ | ⟨gn, _⟩
        · rw [cut0 g1 n hn t1, Option.bind_some, if_pos rfl, ← e3]
          exact no
        · exact absurd gn ng
      · rcases q2 with ⟨ng, _⟩ | ⟨_, rfl, F2, b1, b2⟩
        · exact absurd gn ng
        · have t3 : g1.1 101 = nI n := (F1.1 101 (by simp)).trans t1
          rw [cut0 g1 n hn t3, Option.bind_some, if_neg (show ¬ (1 : Int32) = 0 by decide)]
          have e13 : (sS g1 101 (nI 0)).1 13800 = nI (n / 4) := a1
          rw [e13]
          have FA1 : Fr [13800] [139, 140, 141, 142] w0 (sS gA 101 (nI 0)) (sS g1 101 (nI 0)) := by
            refine ⟨fun k hk => ?_, fun k hk => F1.2.1 k hk, fun _ => F1.2.2.1 rfl, fun _ => F1.2.2.2.1 rfl, fun _ => F1.2.2.2.2 rfl⟩
            rw [sS_1, sS_1]
            split
            · rfl
            · exact F1.1 k hk
          obtain ⟨r1, r2, r3, r4, r5, r6, r7, r8, r9, r10, r11, r12, r13, r14, r15, r16⟩ := R0
          refine ⟨_, _, _, rfl, rfl, p, f, ⟨by rw [F2.1 0 (by simp)]; exact r1, r2, r3.fr FA1 (by simp) (by simp), r4.fr F2 (by simp) (by simp), r5.fr FA1 (by simp) (by simp), r6.fr F2 (by simp), r7, r8.fr FA1 F2 (by simp), by rw [FA1.2.1 145 (by simp), F2.2.1 18 (by simp)]; exact r9, by rw [FA1.1 15 (by simp), FA1.1 16 (by simp), F2.1 35 (by simp), F2.1 36 (by simp)]; exact r10, r11.fr FA1 F2 (by simp), r12.fr FA1 F2 ⟨rfl, by simp⟩, r13.fr FA1 F2 (by simp) (by simp) (by simp), ⟨n / 4, by have := gn.2.2.1; omega, e13, b1, fun k hk => ?_⟩, r15.fr FA1 rfl, by rw [F2.2.1 19 (by simp)]; exact r16⟩, (hA.fr FA0 (by simp) (by simp)).fr FA1 (by simp) (by simp), (hB.fr FB0 (by simp) (by simp)).fr F2 (by simp) (by simp)⟩
          have rw' := gn.2.2.2 k hk
          have c4 := gn.2.1
          have q := a2 k hk
          exact ⟨v (4 * k), v (4 * k + 1), v (4 * k + 2), v (4 * k + 3), rw'.1, rw'.2.1, rw'.2.2.1, rw'.2.2.2, q.1, q.2.1, q.2.2.1, q.2.2.2, b2 _ (by omega), b2 _ (by omega), b2 _ (by omega), b2 _ (by omega)⟩
    have s2' : (sS gB 33 0).1 0 = nI 1 := s2
    rw [s2', if_neg i10]
    by_cases c0 : n = 0
    · rw [if_pos (show nI n ≤ 0 by rw [c0]; decide)]
      exact fin false ⟨fun z => absurd z (by decide), fun z => by omega⟩ _ rfl
    · rw [if_neg (show ¬ nI n ≤ 0 from nI_nle (by omega) (by omega))]
      have d4 : ∀ o : Option (Int32 × G), dz (4 : Int32) o = o := fun o => if_neg (by decide)
      have em : (nI n - nI n / 4 * 4 : Int32) = nI (n % 4) := by
        rw [show (4 : Int32) = nI 4 from rfl, n_div (by omega) (by decide), nI_mul, n_rem]
      have em0 : ((nI n - nI n / 4 * 4 : Int32) = 0) ↔ n % 4 = 0 := by
        rw [em]
        exact nI_eq (b := 0) (by omega) (by decide)
      rw [d4]
      by_cases c1 : n % 4 = 0
      · rw [if_pos (em0.mpr c1)]
        by_cases c2 : n ≤ 64
        · rw [if_neg (show ¬ (64 : Int32) < nI n from nI_nlt (a := 64) c2 (by decide))]
          exact fin true ⟨fun _ => ⟨by omega, c1, c2⟩, fun _ => rfl⟩ _ rfl
        · rw [if_pos (show (64 : Int32) < nI n from nI_lt (a := 64) (by omega) (by omega))]
          exact fin false ⟨fun z => absurd z (by decide), fun z => by omega⟩ _ rfl
      · rw [if_neg (fun z => c1 (em0.mp z))]
        exact fin false ⟨fun z => absurd z (by decide), fun z => by omega⟩ _ rfl
  · have e1 : fA_Notes_take gA = some (0, gA) := by
      unfold fA_Notes_take fA_Tape_size
      rw [Option.bind_some, s1, Option.bind_some, if_pos i00]
    have s2' : (sS gB 33 0).1 0 = nI 0 := s2
    rw [e1, Option.bind_some]
    dsimp only
    rw [cut0 gA n hn t1, Option.bind_some, if_pos rfl, s2', if_pos i00]
    refine Eq.mp ?_ no
    congr 1
