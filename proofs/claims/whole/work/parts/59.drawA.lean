/-! THE SKY OF THE CLASS IS DRAWN -/
def VT (p : Pl) (c n φ r t : Nat) (g : G) : Prop :=
  g.2.1 124 (c * 240 + t) = nI (co p c n φ t) ∧ g.2.1 125 (c * 240 + t) = nI (ro p c φ t) ∧ ∀ y, y < pR p → g.2.1 126 ((c * 12 + y) * 240 + t) = nI (vw p (co p c n φ t) (ro p c φ t) r y)
def VW (p : Pl) (c n φ r : Nat) (g : G) : Prop := ∀ t, t < pY p → VT p c n φ r t g
def DK (p : Pl) (c : Nat) (g : G) : Prop :=
  g.2.1 121 c = m1 ∨ ∃ n φ r, n < pC p ∧ φ < tu p (hm p c) ∧ r ≤ 12 ∧ g.2.1 121 c = nI n ∧ g.2.1 122 c = nI φ ∧ g.2.1 123 c = nI r ∧ VW p c n φ r g
/-- the sky is as it was drawn -/
def SK (p : Pl) (g : G) : Prop := AK p g ∧ ∀ c, c < pK p → DK p c g
/-- nothing of another craft changes -/
def UC (p : Pl) (c : Nat) (g g' : G) : Prop := ∀ c2 t, c2 < pK p → c2 ≠ c → t < pY p →
  g'.2.1 124 (c2 * 240 + t) = g.2.1 124 (c2 * 240 + t) ∧ g'.2.1 125 (c2 * 240 + t) = g.2.1 125 (c2 * 240 + t) ∧ ∀ y, y < pR p → g'.2.1 126 ((c2 * 12 + y) * 240 + t) = g.2.1 126 ((c2 * 12 + y) * 240 + t)
theorem VW.uc {p : Pl} {c c2 n φ r : Nat} {g g' : G} (h : VW p c2 n φ r g) (hu : UC p c g g') (h2 : c2 < pK p) (hn : c2 ≠ c) : VW p c2 n φ r g' := by
  intro t ht
  have u := hu c2 t h2 hn ht
  have v := h t ht
  exact ⟨u.1.trans v.1, u.2.1.trans v.2.1, fun y hy => (u.2.2 y hy).trans (v.2.2 y hy)⟩
theorem SK.fr {S T : List Nat} {w : Bool × Bool × Bool} {p : Pl} {g g' : G} (h : SK p g) (hf : Fr S T w g g') (hS : 11801 ∉ S ∧ 11802 ∉ S) (hT : ∀ k ∈ T, k < 119 ∨ k = 120 ∨ 126 < k) : SK p g' := by
  have a : ∀ k, 119 ≤ k → k ≠ 120 → k ≤ 126 → g'.2.1 k = g.2.1 k := fun k h1 h2 h3 => hf.2.1 k (fun m => by have := hT k m; omega)
  refine ⟨h.1.fr hf hS (fun m => by have := hT _ m; omega), fun c hc => ?_⟩
  have := h.2 c hc
  unfold DK VW VT at *
  rw [a 121 (by omega) (by omega) (by omega), a 122 (by omega) (by omega) (by omega), a 123 (by omega) (by omega) (by omega), a 124 (by omega) (by omega) (by omega), a 125 (by omega) (by omega) (by omega), a 126 (by omega) (by omega) (by omega)]
  exact this
theorem VW.fr {S T : List Nat} {w : Bool × Bool × Bool} {p : Pl} {c n φ r : Nat} {g g' : G} (h : VW p c n φ r g) (hf : Fr S T w g g') (hT : ∀ k ∈ T, k < 124 ∨ 126 < k) : VW p c n φ r g' := by
  have a : ∀ k, 124 ≤ k → k ≤ 126 → g'.2.1 k = g.2.1 k := fun k h1 h3 => hf.2.1 k (fun m => by have := hT k m; omega)
  unfold VW VT at *
  rw [a 124 (by omega) (by omega), a 125 (by omega) (by omega), a 126 (by omega) (by omega)]
  exact h
set_option maxHeartbeats 1000000 in
theorem drawA {p : Pl} (h : WP p) {g : G} (hP : PA p g) (hS : SK p g) {c n φ r : Nat} (hc : c < pK p) (hn : n < pC p) (hφ : φ < tu p (hm p c)) (hr : r ≤ 12) (e1 : g.2.1 28 (hm p c) = nI n) (e2 : g.2.1 29 c = nI φ) (e3 : g.2.1 30 c = nI r) :
    Sat (fA_Sky_draw (nI c) g) (fun g' => Fr [11802] [119, 121, 122, 123, 124, 125, 126] w0 g g' ∧ SK p g' ∧ VW p c n φ r g' ∧ UC p c g g') := by
  have h1 := h.c
  have h2 := h.h hc
  have h3 := h.q h2
  have go : Sat (ck 8 (nI c) (bv (sA g 121 (nI c : Int32).toNatClampNeg (nI n)) fun g7 => ck 8 (nI c) (bv (sA g7 122 (nI c : Int32).toNatClampNeg (nI φ)) fun g8 => ck 8 (nI c) (bv (sA g8 123 (nI c : Int32).toNatClampNeg (nI r)) fun g9 => Option.bind (fA_Sky_makeArcs (nI r) g9) fun x10 => Lp (α := Int32 × G) (fun rec11 s11 => (if (s11.2.1 303) ≤ s11.1 then some s11.2 else Option.bind (fA_Sky_place (nI c) s11.1 (nI n) (nI φ) s11.2) fun x12 => Option.bind (fA_Sky_paint (nI c) s11.1 (nI r) x12) fun x13 => rec11 (s11.1 + 1, x13))) FU (0, x10)))))
      (fun g' => Fr [11802] [119, 121, 122, 123, 124, 125, 126] w0 g g' ∧ SK p g' ∧ VW p c n φ r g' ∧ UC p c g g') := by
    rw [ck_nI (by omega) (by decide), nI_clamp (by omega), bv_eq, ck_nI (by omega) (by decide), bv_eq, ck_nI (by omega) (by decide), bv_eq]
    obtain ⟨g9, hg9⟩ : ∃ g9, g9 = sA (sA (sA g 121 c (nI n)) 122 c (nI φ)) 123 c (nI r) := ⟨_, rfl⟩
    have F9 : Fr [] [121, 122, 123] w0 g g9 := by rw [hg9]; exact ((Fr.rf.sA (by simp)).sA (by simp)).sA (by simp)
    rw [← hg9]
    refine (makeArcsA h (hP.fr F9 (by simp) (by simp)) (hS.1.fr F9 (by simp) (by simp)) hr).bind ?_
    rintro g10 ⟨F10, K10, A10⟩
    have Fa : Fr [11802] [119, 121, 122, 123, 124, 125, 126] w0 g g10 := (F9.wd (by simp) (by simp) (by simp)).tr F10 (by simp) (by simp) (by simp)
    have D10 : ∀ k, k ∈ [121, 122, 123] → g10.2.1 k = g9.2.1 k := fun k hk => F10.2.1 k (by simp at hk ⊢; omega)
    refine Sat.lp (fun t s => ∃ g', s = (nI t, g') ∧ Fr [11802] [119, 121, 122, 123, 124, 125, 126] w0 g g' ∧ AK p g' ∧ AR p r g' ∧ (∀ k, k ∈ [121, 122, 123] → g'.2.1 k = g9.2.1 k) ∧ (∀ t2, t2 < t → VT p c n φ r t2 g') ∧ UC p c g g') (pY p) (by omega) ⟨g10, rfl, Fa, K10, A10, D10, fun t2 hl => by omega, ?_⟩ ?_ ?_
    · intro c2 t _ _ _
      rw [F10.2.1 124 (by simp), F10.2.1 125 (by simp), F10.2.1 126 (by simp), F9.2.1 124 (by simp), F9.2.1 125 (by simp), F9.2.1 126 (by simp)]
      exact ⟨rfl, rfl, fun _ _ => rfl⟩
    · rintro rec t _ ht ⟨g1, rfl, F1, K1, A1, D1, V1, U1⟩ hrec
      have P1 := hP.fr F1 (by simp) (by simp)
      simp only []
      rw [P1.1.2.2.2.1, if_neg (nI_ge ht (by omega)), placeA h P1 hc ht hn hφ, Option.bind_some]
      obtain ⟨g2, hg2⟩ : ∃ g2, g2 = sA (sA g1 125 (c * 240 + t) (nI (ro p c φ t))) 124 (c * 240 + t) (nI (co p c n φ t)) := ⟨_, rfl⟩
      have F2 : Fr [] [124, 125] w0 g1 g2 := by rw [hg2]; exact (Fr.rf.sA (by simp)).sA (by simp)
      have E4 : g2.2.1 124 = upd (g1.2.1 124) (c * 240 + t) (nI (co p c n φ t)) := by rw [hg2]; rfl
      have E5 : g2.2.1 125 = upd (g1.2.1 125) (c * 240 + t) (nI (ro p c φ t)) := by rw [hg2]; rfl
      rw [← hg2]
      refine (paintA h (P1.fr F2 (by simp) (by simp)) (K1.fr F2 (by simp) (by simp)) (A1.fr F2 (by simp)) hc ht hr (co_lt h c n φ t) (ro_lt h c φ t) (by rw [E4, upd_self]) (by rw [E5, upd_self])).bind ?_
      rintro g3 ⟨F3, V3, W3⟩
      rw [nl, nI_add]
      have F12 : Fr [] [124, 125, 126] w0 g1 g3 := (F2.wd (by simp) (by simp) (by simp)).tr F3 (by simp) (by simp) (by simp)
      have E4' : g3.2.1 124 = upd (g1.2.1 124) (c * 240 + t) (nI (co p c n φ t)) := (F3.2.1 124 (by simp)).trans E4
      have E5' : g3.2.1 125 = upd (g1.2.1 125) (c * 240 + t) (nI (ro p c φ t)) := (F3.2.1 125 (by simp)).trans E5
      have E6 : g2.2.1 126 = g1.2.1 126 := F2.2.1 126 (by simp)
      refine hrec _ ⟨g3, rfl, F1.tr F12 (by simp) (by simp) (by simp), K1.fr F12 (by simp) (by simp), A1.fr F12 (by simp), fun k hk => (F12.2.1 k (by simp at hk ⊢; omega)).trans (D1 k hk), fun t2 hl => ?_, fun c2 t2 hc2 hne ht2 => ?_⟩
      · by_cases e : t2 = t
        · subst e
          exact ⟨by rw [E4', upd_self], by rw [E5', upd_self], V3⟩
        · have v := V1 t2 (by omega)
          refine ⟨by rw [E4', upd_ne _ _ (by omega)]; exact v.1, by rw [E5', upd_ne _ _ (by omega)]; exact v.2.1, fun y hy => ?_⟩
          rw [W3 _ (fun y2 hy2 => by omega), E6]
          exact v.2.2 y hy
      · have u := U1 c2 t2 hc2 hne ht2
        refine ⟨by rw [E4', upd_ne _ _ (by omega)]; exact u.1, by rw [E5', upd_ne _ _ (by omega)]; exact u.2.1, fun y hy => ?_⟩
        rw [W3 _ (fun y2 hy2 => by omega), E6]
        exact u.2.2 y hy
    · rintro rec _ ⟨g1, rfl, F1, K1, A1, D1, V1, U1⟩
      have P1 := hP.fr F1 (by simp) (by simp)
      simp only []
      rw [P1.1.2.2.2.1, if_pos (nI_le (Nat.le_refl _) (by omega))]
      have q1 : g1.2.1 121 = upd (g.2.1 121) c (nI n) := by rw [D1 121 (by simp), hg9]; rfl
      have q2 : g1.2.1 122 = upd (g.2.1 122) c (nI φ) := by rw [D1 122 (by simp), hg9]; rfl
      have q3 : g1.2.1 123 = upd (g.2.1 123) c (nI r) := by rw [D1 123 (by simp), hg9]; rfl
      refine Sat.of ⟨F1, ⟨K1, fun c2 hc2 => ?_⟩, V1, U1⟩
      by_cases e : c2 = c
      · subst e
        exact Or.inr ⟨n, φ, r, hn, hφ, hr, by rw [q1, upd_self], by rw [q2, upd_self], by rw [q3, upd_self], V1⟩
      · rcases hS.2 c2 hc2 with d | ⟨n2, φ2, r2, a1, a2, a3, a4, a5, a6, a7⟩
        · exact Or.inl (by rw [q1, upd_ne _ _ e]; exact d)
        · exact Or.inr ⟨n2, φ2, r2, a1, a2, a3, by rw [q1, upd_ne _ _ e]; exact a4, by rw [q2, upd_ne _ _ e]; exact a5, by rw [q3, upd_ne _ _ e]; exact a6, a7.uc U1 hc2 e⟩
  unfold fA_Sky_draw
  rw [ag_nI (by omega) (by decide), (hP.2.2.1 c hc).1, ag_nI (by omega) (by decide), e1, ag_nI (by omega) (by decide), e2, ag_nI (by omega) (by decide), e3, ag_nI (by omega) (by decide), lj_eq, ag_nI (by omega) (by decide), ag_nI (by omega) (by decide)]
  refine Sat.ite (fun c1 => Sat.ite (fun c2 => Sat.ite (fun c3 => ?_) (fun _ => go)) (fun _ => go)) (fun _ => go)
  refine Sat.of ⟨Fr.rf, hS, ?_, fun _ _ _ _ _ => ⟨rfl, rfl, fun _ _ => rfl⟩⟩
  rcases hS.2 c hc with d | ⟨n2, φ2, r2, a1, a2, a3, a4, a5, a6, a7⟩
  · rw [d, m1_ne_n (by omega)] at c1
    exact c1.elim
  · rw [a4, nI_eq (by omega) (by omega)] at c1
    rw [a5, nI_eq (by have := h3; omega) (by omega)] at c2
    rw [a6, nI_eq (by omega) (by omega)] at c3
    subst c1 c2 c3
    exact a7
set_option maxHeartbeats 1000000 in
theorem drawT {p : Pl} (h : WP p) {g : G} (hP : PA p g) (hS : SK p g) {c n φ r : Nat} (hc : c < pK p) (hn : n < pC p) (hφ : φ < tu p (hm p c)) (hr : r ≤ 12) (e1 : g.2.1 134 (hm p c) = nI n) (e2 : g.2.1 135 c = nI φ) (e3 : g.2.1 136 c = nI r) :
    Sat (fA_Sky_draw_2 (nI c) g) (fun g' => Fr [11802] [119, 121, 122, 123, 124, 125, 126] w0 g g' ∧ SK p g' ∧ VW p c n φ r g' ∧ UC p c g g') := by
  have h1 := h.c
  have h2 := h.h hc
  have h3 := h.q h2
  have go : Sat (ck 8 (nI c) (bv (sA g 121 (nI c : Int32).toNatClampNeg (nI n)) fun g7 => ck 8 (nI c) (bv (sA g7 122 (nI c : Int32).toNatClampNeg (nI φ)) fun g8 => ck 8 (nI c) (bv (sA g8 123 (nI c : Int32).toNatClampNeg (nI r)) fun g9 => Option.bind (fA_Sky_makeArcs (nI r) g9) fun x10 => Lp (α := Int32 × G) (fun rec11 s11 => (if (s11.2.1 303) ≤ s11.1 then some s11.2 else Option.bind (fA_Sky_place (nI c) s11.1 (nI n) (nI φ) s11.2) fun x12 => Option.bind (fA_Sky_paint (nI c) s11.1 (nI r) x12) fun x13 => rec11 (s11.1 + 1, x13))) FU (0, x10)))))
      (fun g' => Fr [11802] [119, 121, 122, 123, 124, 125, 126] w0 g g' ∧ SK p g' ∧ VW p c n φ r g' ∧ UC p c g g') := by
    rw [ck_nI (by omega) (by decide), nI_clamp (by omega), bv_eq, ck_nI (by omega) (by decide), bv_eq, ck_nI (by omega) (by decide), bv_eq]
    obtain ⟨g9, hg9⟩ : ∃ g9, g9 = sA (sA (sA g 121 c (nI n)) 122 c (nI φ)) 123 c (nI r) := ⟨_, rfl⟩
    have F9 : Fr [] [121, 122, 123] w0 g g9 := by rw [hg9]; exact ((Fr.rf.sA (by simp)).sA (by simp)).sA (by simp)
    rw [← hg9]
    refine (makeArcsA h (hP.fr F9 (by simp) (by simp)) (hS.1.fr F9 (by simp) (by simp)) hr).bind ?_
    rintro g10 ⟨F10, K10, A10⟩
    have Fa : Fr [11802] [119, 121, 122, 123, 124, 125, 126] w0 g g10 := (F9.wd (by simp) (by simp) (by simp)).tr F10 (by simp) (by simp) (by simp)
    have D10 : ∀ k, k ∈ [121, 122, 123] → g10.2.1 k = g9.2.1 k := fun k hk => F10.2.1 k (by simp at hk ⊢; omega)
    refine Sat.lp (fun t s => ∃ g', s = (nI t, g') ∧ Fr [11802] [119, 121, 122, 123, 124, 125, 126] w0 g g' ∧ AK p g' ∧ AR p r g' ∧ (∀ k, k ∈ [121, 122, 123] → g'.2.1 k = g9.2.1 k) ∧ (∀ t2, t2 < t → VT p c n φ r t2 g') ∧ UC p c g g') (pY p) (by omega) ⟨g10, rfl, Fa, K10, A10, D10, fun t2 hl => by omega, ?_⟩ ?_ ?_
    · intro c2 t _ _ _
      rw [F10.2.1 124 (by simp), F10.2.1 125 (by simp), F10.2.1 126 (by simp), F9.2.1 124 (by simp), F9.2.1 125 (by simp), F9.2.1 126 (by simp)]
      exact ⟨rfl, rfl, fun _ _ => rfl⟩
    · rintro rec t _ ht ⟨g1, rfl, F1, K1, A1, D1, V1, U1⟩ hrec
      have P1 := hP.fr F1 (by simp) (by simp)
      simp only []
      rw [P1.1.2.2.2.1, if_neg (nI_ge ht (by omega)), placeA h P1 hc ht hn hφ, Option.bind_some]
      obtain ⟨g2, hg2⟩ : ∃ g2, g2 = sA (sA g1 125 (c * 240 + t) (nI (ro p c φ t))) 124 (c * 240 + t) (nI (co p c n φ t)) := ⟨_, rfl⟩
      have F2 : Fr [] [124, 125] w0 g1 g2 := by rw [hg2]; exact (Fr.rf.sA (by simp)).sA (by simp)
      have E4 : g2.2.1 124 = upd (g1.2.1 124) (c * 240 + t) (nI (co p c n φ t)) := by rw [hg2]; rfl
      have E5 : g2.2.1 125 = upd (g1.2.1 125) (c * 240 + t) (nI (ro p c φ t)) := by rw [hg2]; rfl
      rw [← hg2]
      refine (paintA h (P1.fr F2 (by simp) (by simp)) (K1.fr F2 (by simp) (by simp)) (A1.fr F2 (by simp)) hc ht hr (co_lt h c n φ t) (ro_lt h c φ t) (by rw [E4, upd_self]) (by rw [E5, upd_self])).bind ?_
      rintro g3 ⟨F3, V3, W3⟩
      rw [nl, nI_add]
      have F12 : Fr [] [124, 125, 126] w0 g1 g3 := (F2.wd (by simp) (by simp) (by simp)).tr F3 (by simp) (by simp) (by simp)
      have E4' : g3.2.1 124 = upd (g1.2.1 124) (c * 240 + t) (nI (co p c n φ t)) := (F3.2.1 124 (by simp)).trans E4
      have E5' : g3.2.1 125 = upd (g1.2.1 125) (c * 240 + t) (nI (ro p c φ t)) := (F3.2.1 125 (by simp)).trans E5
      have E6 : g2.2.1 126 = g1.2.1 126 := F2.2.1 126 (by simp)
      refine hrec _ ⟨g3, rfl, F1.tr F12 (by simp) (by simp) (by simp), K1.fr F12 (by simp) (by simp), A1.fr F12 (by simp), fun k hk => (F12.2.1 k (by simp at hk ⊢; omega)).trans (D1 k hk), fun t2 hl => ?_, fun c2 t2 hc2 hne ht2 => ?_⟩
      · by_cases e : t2 = t
        · subst e
          exact ⟨by rw [E4', upd_self], by rw [E5', upd_self], V3⟩
        · have v := V1 t2 (by omega)
          refine ⟨by rw [E4', upd_ne _ _ (by omega)]; exact v.1, by rw [E5', upd_ne _ _ (by omega)]; exact v.2.1, fun y hy => ?_⟩
          rw [W3 _ (fun y2 hy2 => by omega), E6]
          exact v.2.2 y hy
      · have u := U1 c2 t2 hc2 hne ht2
        refine ⟨by rw [E4', upd_ne _ _ (by omega)]; exact u.1, by rw [E5', upd_ne _ _ (by omega)]; exact u.2.1, fun y hy => ?_⟩
        rw [W3 _ (fun y2 hy2 => by omega), E6]
        exact u.2.2 y hy
    · rintro rec _ ⟨g1, rfl, F1, K1, A1, D1, V1, U1⟩
      have P1 := hP.fr F1 (by simp) (by simp)
      simp only []
      rw [P1.1.2.2.2.1, if_pos (nI_le (Nat.le_refl _) (by omega))]
      have q1 : g1.2.1 121 = upd (g.2.1 121) c (nI n) := by rw [D1 121 (by simp), hg9]; rfl
      have q2 : g1.2.1 122 = upd (g.2.1 122) c (nI φ) := by rw [D1 122 (by simp), hg9]; rfl
      have q3 : g1.2.1 123 = upd (g.2.1 123) c (nI r) := by rw [D1 123 (by simp), hg9]; rfl
      refine Sat.of ⟨F1, ⟨K1, fun c2 hc2 => ?_⟩, V1, U1⟩
      by_cases e : c2 = c
      · subst e
        exact Or.inr ⟨n, φ, r, hn, hφ, hr, by rw [q1, upd_self], by rw [q2, upd_self], by rw [q3, upd_self], V1⟩
      · rcases hS.2 c2 hc2 with d | ⟨n2, φ2, r2, a1, a2, a3, a4, a5, a6, a7⟩
        · exact Or.inl (by rw [q1, upd_ne _ _ e]; exact d)
        · exact Or.inr ⟨n2, φ2, r2, a1, a2, a3, by rw [q1, upd_ne _ _ e]; exact a4, by rw [q2, upd_ne _ _ e]; exact a5, by rw [q3, upd_ne _ _ e]; exact a6, a7.uc U1 hc2 e⟩
  unfold fA_Sky_draw_2
  rw [ag_nI (by omega) (by decide), (hP.2.2.1 c hc).1, ag_nI (by omega) (by decide), e1, ag_nI (by omega) (by decide), e2, ag_nI (by omega) (by decide), e3, ag_nI (by omega) (by decide), lj_eq, ag_nI (by omega) (by decide), ag_nI (by omega) (by decide)]
  refine Sat.ite (fun c1 => Sat.ite (fun c2 => Sat.ite (fun c3 => ?_) (fun _ => go)) (fun _ => go)) (fun _ => go)
  refine Sat.of ⟨Fr.rf, hS, ?_, fun _ _ _ _ _ => ⟨rfl, rfl, fun _ _ => rfl⟩⟩
  rcases hS.2 c hc with d | ⟨n2, φ2, r2, a1, a2, a3, a4, a5, a6, a7⟩
  · rw [d, m1_ne_n (by omega)] at c1
    exact c1.elim
  · rw [a4, nI_eq (by omega) (by omega)] at c1
    rw [a5, nI_eq (by have := h3; omega) (by omega)] at c2
    rw [a6, nI_eq (by omega) (by omega)] at c3
    subst c1 c2 c3
    exact a7
/-- all craft of a fleet are drawn -/
def VF (p : Pl) (f : Fl) (g : G) : Prop := ∀ c, c < pK p → VW p c (fnd f (hm p c)) (fph f c) (frc f c) g
theorem drawAllA {p : Pl} (h : WP p) {g : G} (hP : PA p g) (hS : SK p g) {f : Fl} (hF : FA p f 2700 27 g) (hW : WF p f) :
    Sat (fA_Sky_drawAll g) (fun g' => Fr [11802] [119, 121, 122, 123, 124, 125, 126] w0 g g' ∧ SK p g' ∧ VF p f g') := by
  have h1 := h.c
  unfold fA_Sky_drawAll
  refine Sat.lp (fun c s => ∃ g', s = (nI c, g') ∧ Fr [11802] [119, 121, 122, 123, 124, 125, 126] w0 g g' ∧ SK p g' ∧ ∀ c2, c2 < c → VW p c2 (fnd f (hm p c2)) (fph f c2) (frc f c2) g') (pK p) (by omega) ⟨g, rfl, Fr.rf, hS, fun c2 hl => by omega⟩ ?_ ?_
  · rintro rec c _ hc ⟨g1, rfl, F1, S1, V1⟩ hrec
    have P1 := hP.fr F1 (by simp) (by simp)
    have N1 : FA p f 2700 27 g1 := hF.fr F1 (by simp) (by simp)
    have w1 := hW.1 _ (h.h hc)
    have w2 := hW.2 c hc
    simp only []
    rw [P1.1.2.2.2.2.2.2.1, if_neg (nI_ge hc (by omega))]
    refine (drawA h P1 S1 hc w1 w2.1 w2.2.1 (N1.2.1 _ (h.h hc)) (N1.2.2 c hc).1 (N1.2.2 c hc).2).bind ?_
    rintro g2 ⟨F2, S2, V2, U2⟩
    rw [nl, nI_add]
    refine hrec _ ⟨g2, rfl, F1.tr F2 (by simp) (by simp) (by simp), S2, fun c2 hl => ?_⟩
    by_cases e : c2 = c
    · subst e
      exact V2
    · exact (V1 c2 (by omega)).uc U2 (by omega) e
  · rintro rec _ ⟨g1, rfl, F1, S1, V1⟩
    have P1 := hP.fr F1 (by simp) (by simp)
    simp only []
    rw [P1.1.2.2.2.2.2.2.1, if_pos (nI_le (Nat.le_refl _) (by omega))]
    exact Sat.of ⟨F1, S1, V1⟩
theorem drawAllT {p : Pl} (h : WP p) {g : G} (hP : PA p g) (hS : SK p g) {f : Fl} (hF : FA p f 13300 133 g) (hW : WF p f) :
    Sat (fA_Sky_drawAll_2 g) (fun g' => Fr [11802] [119, 121, 122, 123, 124, 125, 126] w0 g g' ∧ SK p g' ∧ VF p f g') := by
  have h1 := h.c
  unfold fA_Sky_drawAll_2
  refine Sat.lp (fun c s => ∃ g', s = (nI c, g') ∧ Fr [11802] [119, 121, 122, 123, 124, 125, 126] w0 g g' ∧ SK p g' ∧ ∀ c2, c2 < c → VW p c2 (fnd f (hm p c2)) (fph f c2) (frc f c2) g') (pK p) (by omega) ⟨g, rfl, Fr.rf, hS, fun c2 hl => by omega⟩ ?_ ?_
  · rintro rec c _ hc ⟨g1, rfl, F1, S1, V1⟩ hrec
    have P1 := hP.fr F1 (by simp) (by simp)
    have N1 : FA p f 13300 133 g1 := hF.fr F1 (by simp) (by simp)
    have w1 := hW.1 _ (h.h hc)
    have w2 := hW.2 c hc
    simp only []
    rw [P1.1.2.2.2.2.2.2.1, if_neg (nI_ge hc (by omega))]
    refine (drawT h P1 S1 hc w1 w2.1 w2.2.1 (N1.2.1 _ (h.h hc)) (N1.2.2 c hc).1 (N1.2.2 c hc).2).bind ?_
    rintro g2 ⟨F2, S2, V2, U2⟩
    rw [nl, nI_add]
    refine hrec _ ⟨g2, rfl, F1.tr F2 (by simp) (by simp) (by simp), S2, fun c2 hl => ?_⟩
    by_cases e : c2 = c
    · subst e
      exact V2
    · exact (V1 c2 (by omega)).uc U2 (by omega) e
  · rintro rec _ ⟨g1, rfl, F1, S1, V1⟩
    have P1 := hP.fr F1 (by simp) (by simp)
    simp only []
    rw [P1.1.2.2.2.2.2.2.1, if_pos (nI_le (Nat.le_refl _) (by omega))]
    exact Sat.of ⟨F1, S1, V1⟩
