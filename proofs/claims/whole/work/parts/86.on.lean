/-! THE CALLS: on -/
theorem isImageB {p : Pl} (hw : WP p) {g : G} (hP : PB p g) (e0 : g.1 0 = nI 1) {n : Nat} (hn : n ≤ 1600) {v : Nat → Nat} (hv : ∀ i, i < n → v i < 256 ∧ g.2.1 17 i = nI (v i)) :
    Sat (fB_M_isImage (nI n) g) (fun r => (r = nI 1 ∧ n = pP p + 3 * pK p + 1 ∧ IM p v) ∨ (r = nI 0 ∧ ¬ (n = pP p + 3 * pK p + 1 ∧ IM p v))) := by
  have h1 := hw.c
  unfold fB_M_isImage
  simp only [nl]
  rw [hP.1.2.2.2.1, hP.1.2.2.2.2.1, nI_mul, nI_add, bv_eq, e0, if_neg (by decide), nI_add, ite_eqn (by omega) (by omega)]
  by_cases c1 : n = pP p + 3 * pK p + 1
  · rw [if_pos c1]
    refine Sat.lp (fun k s => s = (nI (ckN v k), nI k)) (pP p + 3 * pK p) (by omega) rfl ?_ ?_
    · rintro rec k _ hk rfl hrec
      have cl := ckN_lt v k
      have q := hv k (by omega)
      simp only []
      rw [if_neg (nI_ge hk (by omega)), ag_nI (by omega) (by decide), q.2, n_dz (by decide) (by decide), nI_mul, nI_add, n_div (by omega) (by decide), nI_mul, n_rem, bv_eq, nI_add]
      exact hrec _ rfl
    · rintro rec _ rfl
      have cl := ckN_lt v (pP p + 3 * pK p)
      have q := hv (pP p + 3 * pK p) (by omega)
      simp only []
      simp only [lj_eq]
      rw [if_pos (nI_le (Nat.le_refl _) (by omega)), ag_nI (by omega) (by decide), q.2, ite_eqn (by omega) (by omega)]
      -- the second and the third loop, from a truth on
      have third : ∀ (t : Bool), (t = true ↔ (v (pP p + 3 * pK p) = ckN v (pP p + 3 * pK p) ∧ ∀ q, q < pP p → v q < pC p)) → Sat (Lp (α := Int32 × Int32) (fun rec7 s7 => (if s7.1 = nI 0 then bt s7.1 (some s7.1) else (if nI (pK p) ≤ s7.2 then bt s7.1 (some s7.1) else bv (nI (pP p) + (nI 3 * s7.2)) fun x8 => ag 1600 (g.2.1 17) x8 fun x9 => (if nI 1 < x9 then rec7 (nI 0, s7.2 + nI 1) else ag 1600 (g.2.1 17) (x8 + nI 1) fun x12 => Option.bind (fB_M_turnOf s7.2 g) fun x13 => (if x13 ≤ x12 then rec7 (nI 0, s7.2 + nI 1) else ag 1600 (g.2.1 17) (x8 + nI 2) fun x14 => (if nI 12 < x14 then rec7 (nI 0, s7.2 + nI 1) else rec7 (nI 1, s7.2 + nI 1))))))) FU (bI t, nI 0)) (fun r => (r = nI 1 ∧ n = pP p + 3 * pK p + 1 ∧ IM p v) ∨ (r = nI 0 ∧ ¬ (n = pP p + 3 * pK p + 1 ∧ IM p v))) := by
        intro t ht
        refine Sat.lpm (fun s => ∃ (u : Bool) (c : Nat), s = (bI u, nI c) ∧ c ≤ pK p ∧ (u = true ↔ ((v (pP p + 3 * pK p) = ckN v (pP p + 3 * pK p) ∧ ∀ q, q < pP p → v q < pC p) ∧ ∀ d, d < c → v (pP p + 3 * d) ≤ 1 ∧ v (pP p + 3 * d + 1) < tu p (hm p d) ∧ v (pP p + 3 * d + 2) ≤ 12))) (fun s => pK p - s.2.toNatClampNeg) (by show pK p - _ < _; omega) ⟨t, 0, rfl, by omega, by rw [ht]; exact ⟨fun z => ⟨z, fun d hd => by omega⟩, fun z => z.1⟩⟩ ?_
        rintro rec7 _ ⟨u, c, rfl, hc, hu⟩ hrec
        simp only []
        cases u
        · rw [if_pos z0]
          refine Sat.of (Or.inr ⟨rfl, fun z => ?_⟩)
          have := hu.mpr ⟨⟨z.2.1, z.2.2.1⟩, fun d hd => z.2.2.2 d (by omega)⟩
          exact absurd this (by decide)
        · rw [if_neg z1]
          have hu := hu.mp rfl
          by_cases l : pK p ≤ c
          · rw [if_pos (nI_le l (by omega))]
            have : c = pK p := by omega
            subst this
            exact Sat.of (Or.inl ⟨rfl, c1, hu.1.1, hu.1.2, hu.2⟩)
          · have hcK : c < pK p := by omega
            have tq := hw.q (hw.h hcK)
            have q0 := hv (pP p + 3 * c) (by omega)
            have q1 := hv (pP p + 3 * c + 1) (by omega)
            have q2 := hv (pP p + 3 * c + 2) (by omega)
            rw [if_neg (nI_ge hcK (by omega)), nI_mul, nI_add, bv_eq, ag_nI (by omega) (by decide), q0.2]
            simp only [nI_add]
            rw [ag_nI (by omega) (by decide), q1.2, turnB hw hP hcK, Option.bind_some, ag_nI (by omega) (by decide), q2.2, ite_ltn (by decide) (by omega), ite_len (by omega) (by omega), ite_ltn (by decide) (by omega)]
            have dn : (nI (c + 1)).toNatClampNeg = c + 1 := nI_clamp (by omega)
            have dc : (nI c).toNatClampNeg = c := nI_clamp (by omega)
            have go : ∀ u : Bool, (u = true ↔ (v (pP p + 3 * c) ≤ 1 ∧ v (pP p + 3 * c + 1) < tu p (hm p c) ∧ v (pP p + 3 * c + 2) ≤ 12)) → Sat (rec7 (bI u, nI (c + 1))) (fun r => (r = nI 1 ∧ n = pP p + 3 * pK p + 1 ∧ IM p v) ∨ (r = nI 0 ∧ ¬ (n = pP p + 3 * pK p + 1 ∧ IM p v))) := by
              intro u hu2
              refine hrec _ ⟨u, c + 1, rfl, by omega, ?_⟩ (by show pK p - (nI (c + 1)).toNatClampNeg < pK p - (nI c).toNatClampNeg; rw [dn, dc]; omega)
              rw [hu2]
              constructor
              · intro z
                refine ⟨hu.1, fun d hd => ?_⟩
                by_cases e : d = c
                · subst e
                  exact z
                · exact hu.2 d (by omega)
              · intro z
                exact z.2 c (by omega)
            by_cases d1 : 1 < v (pP p + 3 * c)
            · rw [if_pos d1]
              exact go false (by constructor <;> intro z; exact absurd z (by decide); omega)
            · rw [if_neg d1]
              by_cases d2 : tu p (hm p c) ≤ v (pP p + 3 * c + 1)
              · rw [if_pos d2]
                exact go false (by constructor <;> intro z; exact absurd z (by decide); omega)
              · rw [if_neg d2]
                by_cases d3 : 12 < v (pP p + 3 * c + 2)
                · rw [if_pos d3]
                  exact go false (by constructor <;> intro z; exact absurd z (by decide); omega)
                · rw [if_neg d3]
                  exact go true ⟨fun _ => ⟨by omega, by omega, by omega⟩, fun _ => rfl⟩
      have second : ∀ (t : Bool), (t = true ↔ v (pP p + 3 * pK p) = ckN v (pP p + 3 * pK p)) → Sat (Lp (α := Int32 × Int32) (fun rec5 s5 => (if s5.1 = nI 0 then Lp (α := Int32 × Int32) (fun rec7 s7 => (if s7.1 = nI 0 then bt s7.1 (some s7.1) else (if nI (pK p) ≤ s7.2 then bt s7.1 (some s7.1) else bv (nI (pP p) + (nI 3 * s7.2)) fun x8 => ag 1600 (g.2.1 17) x8 fun x9 => (if nI 1 < x9 then rec7 (nI 0, s7.2 + nI 1) else ag 1600 (g.2.1 17) (x8 + nI 1) fun x12 => Option.bind (fB_M_turnOf s7.2 g) fun x13 => (if x13 ≤ x12 then rec7 (nI 0, s7.2 + nI 1) else ag 1600 (g.2.1 17) (x8 + nI 2) fun x14 => (if nI 12 < x14 then rec7 (nI 0, s7.2 + nI 1) else rec7 (nI 1, s7.2 + nI 1))))))) FU (s5.1, nI 0) else (if nI (pP p) ≤ s5.2 then Lp (α := Int32 × Int32) (fun rec7 s7 => (if s7.1 = nI 0 then bt s7.1 (some s7.1) else (if nI (pK p) ≤ s7.2 then bt s7.1 (some s7.1) else bv (nI (pP p) + (nI 3 * s7.2)) fun x8 => ag 1600 (g.2.1 17) x8 fun x9 => (if nI 1 < x9 then rec7 (nI 0, s7.2 + nI 1) else ag 1600 (g.2.1 17) (x8 + nI 1) fun x12 => Option.bind (fB_M_turnOf s7.2 g) fun x13 => (if x13 ≤ x12 then rec7 (nI 0, s7.2 + nI 1) else ag 1600 (g.2.1 17) (x8 + nI 2) fun x14 => (if nI 12 < x14 then rec7 (nI 0, s7.2 + nI 1) else rec7 (nI 1, s7.2 + nI 1))))))) FU (s5.1, nI 0) else ag 1600 (g.2.1 17) s5.2 fun x15 => (if (g.1 1) ≤ x15 then rec5 (nI 0, s5.2 + nI 1) else rec5 (nI 1, s5.2 + nI 1))))) FU (bI t, nI 0)) (fun r => (r = nI 1 ∧ n = pP p + 3 * pK p + 1 ∧ IM p v) ∨ (r = nI 0 ∧ ¬ (n = pP p + 3 * pK p + 1 ∧ IM p v))) := by
        intro t ht
        refine Sat.lpm (fun s => ∃ (u : Bool) (c : Nat), s = (bI u, nI c) ∧ c ≤ pP p ∧ (u = true ↔ (v (pP p + 3 * pK p) = ckN v (pP p + 3 * pK p) ∧ ∀ q, q < c → v q < pC p))) (fun s => pP p - s.2.toNatClampNeg) (by show pP p - _ < _; omega) ⟨t, 0, rfl, by omega, by rw [ht]; exact ⟨fun z => ⟨z, fun d hd => by omega⟩, fun z => z.1⟩⟩ ?_
        rintro rec5 _ ⟨u, c, rfl, hc, hu⟩ hrec
        simp only []
        cases u
        · rw [if_pos z0]
          refine third false ⟨fun z => absurd z (by decide), fun z => ?_⟩
          exact absurd (hu.mpr ⟨z.1, fun q hq => z.2 q (by omega)⟩) (by decide)
        · rw [if_neg z1]
          have hu := hu.mp rfl
          by_cases l : pP p ≤ c
          · rw [if_pos (nI_le l (by omega))]
            have : c = pP p := by omega
            subst this
            exact third true ⟨fun _ => hu, fun _ => rfl⟩
          · have hcP : c < pP p := by omega
            have q0 := hv c (by omega)
            have dn : (nI (c + 1)).toNatClampNeg = c + 1 := nI_clamp (by omega)
            have dc : (nI c).toNatClampNeg = c := nI_clamp (by omega)
            rw [if_neg (nI_ge hcP (by omega)), ag_nI (by omega) (by decide), q0.2, hP.1.1, ite_len (by omega) (by omega), nI_add]
            have go : ∀ u : Bool, (u = true ↔ v c < pC p) → Sat (rec5 (bI u, nI (c + 1))) (fun r => (r = nI 1 ∧ n = pP p + 3 * pK p + 1 ∧ IM p v) ∨ (r = nI 0 ∧ ¬ (n = pP p + 3 * pK p + 1 ∧ IM p v))) := by
              intro u hu2
              refine hrec _ ⟨u, c + 1, rfl, by omega, ?_⟩ (by show pP p - (nI (c + 1)).toNatClampNeg < pP p - (nI c).toNatClampNeg; rw [dn, dc]; omega)
              rw [hu2]
              constructor
              · intro z
                refine ⟨hu.1, fun d hd => ?_⟩
                by_cases e : d = c
                · subst e
                  exact z
                · exact hu.2 d (by omega)
              · intro z
                exact z.2 c (by omega)
            by_cases d1 : pC p ≤ v c
            · rw [if_pos d1]
              exact go false (by constructor <;> intro z; exact absurd z (by decide); omega)
            · rw [if_neg d1]
              exact go true ⟨fun _ => by omega, fun _ => rfl⟩
      by_cases c2 : v (pP p + 3 * pK p) = ckN v (pP p + 3 * pK p)
      · rw [if_pos c2]
        exact second true ⟨fun _ => c2, fun _ => rfl⟩
      · rw [if_neg c2]
        exact second false ⟨fun z => absurd z (by decide), fun z => absurd z c2⟩
  · rw [if_neg c1]
    exact Sat.of (Or.inr ⟨rfl, fun z => c1 z.1⟩)
