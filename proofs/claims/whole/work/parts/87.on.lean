/-! THE CALLS: on, told -/
theorem takeF {p : Pl} {f : Fl} {g : G} (hl : pP p ≤ 4 ∧ pK p ≤ 8) (hF : FA p f 3100 31 g) : Sat (fA_Fleet_take g) (fun g' => Fr [2700] [28, 29, 30] w0 g g' ∧ FA p f 2700 27 g') := by
  unfold fA_Fleet_take
  simp only [nl]
  rw [bv_eq, cp_nI (by omega) (by omega) (by decide) (by decide), bv_eq, cp_nI (by omega) (by omega) (by decide) (by decide), bv_eq, cp_nI (by omega) (by omega) (by decide) (by decide), bv_eq, nI_clamp (by decide), nI_clamp (by decide), nI_clamp (by decide)]
  refine Sat.of ⟨(((Fr.rf.sS (by simp)).sC (by simp)).sC (by simp)).sC (by simp), hF.1, fun q hq => ?_, fun c hc => ⟨?_, ?_⟩⟩
  · show va_cpy (g.2.1 32) (g.2.1 28) 0 0 4 q = _
    rw [cpy0 (by omega)]
    exact hF.2.1 q hq
  · show va_cpy (g.2.1 33) (g.2.1 29) 0 0 8 c = _
    rw [cpy0 (by omega)]
    exact (hF.2.2 c hc).1
  · show va_cpy (g.2.1 34) (g.2.1 30) 0 0 8 c = _
    rw [cpy0 (by omega)]
    exact (hF.2.2 c hc).2
/-- the tape's bytes as numbers -/
theorem TP.get {gA gB : G} (h : TP gA gB) : ∃ (n : Nat) (v : Nat → Nat), n ≤ 1600 ∧ gA.1 101 = nI n ∧ gB.1 33 = nI n ∧ ∀ i, i < n → v i < 256 ∧ gA.2.1 2 i = nI (v i) ∧ gB.2.1 17 i = nI (v i) := by
  obtain ⟨n, h1, h2, h3, h4⟩ := h
  refine ⟨n, fun i => (gB.2.1 17 i).toNatClampNeg, h1, h2, h3, fun i hi => ?_⟩
  obtain ⟨e, w, hw, ew⟩ := h4 i hi
  have : (gB.2.1 17 i).toNatClampNeg = w := by rw [ew]; exact nI_clamp (by omega)
  dsimp only
  rw [this, e]
  exact ⟨hw, ew, ew⟩
theorem cut0 (g : G) (n : Nat) (hn : n ≤ 1600) (e : g.1 101 = nI n) : fA_Tape_cutTo 0 g = some (sS g 101 (nI 0)) := by
  unfold fA_Tape_cutTo
  rw [e, show (0 : Int32) = nI 0 from rfl, if_neg (by decide), if_neg (nI_nlt (by omega) (by omega)), bv_eq]
/-- the tape is taken, nothing else -/
theorem RS.tape {p : Pl} {f : Fl} {gA gB gA' gB' : G} (h : RS p f gA gB) (fA : Fr [101, 3100, 3500, 3501, 3502, 3506, 3507, 3508, 3509, 3510, 3511, 1500, 1501, 1502, 1503, 1504, 1505, 1506, 1507] [32, 33, 34, 16, 17, 18, 19, 20, 21, 22, 23, 24, 25, 26] w0 gA gA') (fB : Fr [33, 18, 19, 20, 21, 22, 23, 37, 38, 39, 40, 41] [9, 10, 11, 12, 13, 14, 15, 16] w0 gB gB') (e1 : gA'.1 101 = nI 0) (e2 : gB'.1 33 = nI 0) : RS p f gA' gB' := by
  obtain ⟨r1, r2, r3, r4, r5, r6, r7, r8, r9, r10, r11, r12, r13, r14, r15, r16⟩ := h
  exact ⟨by rw [fB.1 0 (by simp)]; exact r1, r2, r3.fr fA (by simp) (by simp), r4.fr fB (by simp) (by simp), r5.fr fA (by simp) (by simp), r6.fr fB (by simp), r7, ⟨0, by omega, e1, e2, fun i hi => by omega⟩, by rw [fA.2.1 145 (by simp), fB.2.1 18 (by simp)]; exact r9, by rw [fA.1 15 (by simp), fA.1 16 (by simp), fB.1 35 (by simp), fB.1 36 (by simp)]; exact r10, r11.fr fA fB (by simp), r12.fr fA fB ⟨rfl, by simp⟩, r13.fr fA fB (by simp) (by simp) (by simp), r14.fr fA fB (by simp) (by simp) (by simp), r15.fr fA rfl, by rw [fB.2.1 19 (by simp)]; exact r16⟩
theorem c_on {p : Pl} {f : Fl} {gA gB : G} (h : RS p f gA gB) (hA : CA p f gA) (hB : CB p f gB) : Eq2 (fA_D_on gA) (fB_M_on gB) := by
  have hl := h.lt
  obtain ⟨n, v, hn, t1, t2, tv⟩ := h.2.2.2.2.2.2.2.1.get
  have FB0 : Fr [33] [] w0 gB (sS gB 33 0) := Fr.rf.sS (by simp)
  have eT : fB_M_taken gB = some (nI n, sS gB 33 0) := by
    unfold fB_M_taken
    rw [t2, bv_eq, bv_eq]
  -- both refuse, the tape gone
  have no : ∀ gA', Fr [101, 3100, 3500, 3501, 3502, 3506, 3507, 3508, 3509, 3510, 3511, 1500, 1501, 1502, 1503, 1504, 1505, 1506, 1507] [32, 33, 34, 16, 17, 18, 19, 20, 21, 22, 23, 24, 25, 26] w0 gA gA' → gA'.1 101 = nI 0 → Eq2 (Option.bind (fA_D_refused 5 gA') fun x7 => bt x7.1 (some (x7.1, x7.2))) (Option.bind (fB_M_isRefused 5 (sS gB 33 0)) fun x15 => bt x15.1 (some (x15.1, x15.2))) := by
    intro gA' F1 e1
    exact no2 (h.tape F1 (FB0.wd (by simp) (by simp) (by simp)) e1 rfl) (hA.fr F1 (by simp) (by simp)) (hB.fr FB0 (by simp) (by simp)) (k := 5) (by decide)
  unfold fA_D_on fB_M_on
  rw [eT, Option.bind_some]
  simp only [lj_eq]
  rcases standsA h with ⟨hw, s1, s2⟩ | ⟨hz, s1, s2⟩
  · have h1 := hw.c
    obtain ⟨⟨r1, g1⟩, e1, F1, q1⟩ := readA hw h.2.2.1 hn t1 (v := v) (fun i hi => ⟨(tv i hi).1, (tv i hi).2.1⟩)
    obtain ⟨r2, e2, q2⟩ := isImageB hw (h.2.2.2.1.fr FB0 (by simp) (by simp)) (show (sS gB 33 0).1 0 = nI 1 from s2) hn (v := v) (fun i hi => ⟨(tv i hi).1, (tv i hi).2.2⟩)
    have t3 : g1.1 101 = nI n := (F1.1 101 (by simp)).trans t1
    have FA0 : Fr [101, 3100, 3500, 3501, 3502, 3506, 3507, 3508, 3509, 3510, 3511, 1500, 1501, 1502, 1503, 1504, 1505, 1506, 1507] [32, 33, 34, 16, 17, 18, 19, 20, 21, 22, 23, 24, 25, 26] w0 gA (sS g1 101 (nI 0)) := (F1.wd (by simp) (by simp) (by simp)).sS (by simp)
    rw [s1, Option.bind_some, if_neg i10, e1, Option.bind_some, e2, Option.bind_some]
    dsimp only at q1 ⊢
    rw [cut0 g1 n hn t3]
    rcases q1 with ⟨rfl, _, im, kf⟩ | ⟨rfl, nim⟩
    · rcases q2 with ⟨rfl, n1, _⟩ | ⟨_, nim⟩
      · have Fc : Fr [101] [] w0 g1 (sS g1 101 (nI 0)) := Fr.rf.sS (by simp)
        obtain ⟨g2, e3, F3, kf2⟩ := takeF (p := p) ⟨by omega, by omega⟩ (FA.fr kf Fc (by simp) (by simp))
        have R0 := h.tape FA0 (FB0.wd (by simp) (by simp) (by simp)) rfl rfl
        have wf := fim_wf im
        -- the model
        have PB0 := h.2.2.2.1.fr FB0 (by simp) (by simp)
        have b17 : ∀ i, i < n → (sS gB 33 0).2.1 17 i = nI (v i) := fun i hi => (tv i hi).2.2
        have eB : Sat (Lp (α := Int32 × G) (fun rec3 s3 => (if (s3.2.1 4) ≤ s3.1 then Lp (α := Int32 × G) (fun rec4 s4 => (if (s4.2.1 5) ≤ s4.1 then bv (sS s4.2 45 0) fun g5 => bv (sS g5 47 0) fun g6 => some ((1 : Int32), g6) else ag 1600 (s4.2.2.1 17) ((s4.2.1 4) + (3 * s4.1)) fun x7 => ck 28 (4 + s4.1) (bv (sA s4.2 20 (4 + s4.1 : Int32).toNatClampNeg x7) fun g8 => ag 1600 (g8.2.1 17) (((g8.1 4) + (3 * s4.1)) + 1) fun x9 => ck 28 (12 + s4.1) (bv (sA g8 20 (12 + s4.1 : Int32).toNatClampNeg x9) fun g10 => ag 1600 (g10.2.1 17) (((g10.1 4) + (3 * s4.1)) + 2) fun x11 => ck 28 (20 + s4.1) (bv (sA g10 20 (20 + s4.1 : Int32).toNatClampNeg x11) fun g12 => rec4 (s4.1 + 1, g12)))))) FU (0, s3.2) else ag 1600 (s3.2.2.1 17) s3.1 fun x13 => ck 28 (0 + s3.1) (bv (sA s3.2 20 (0 + s3.1 : Int32).toNatClampNeg x13) fun g14 => rec3 (s3.1 + 1, g14)))) FU (0, sS gB 33 0)) (fun r => r.1 = 1 ∧ Fr [45, 47] [20] w0 (sS gB 33 0) r.2 ∧ r.2.1 45 = nI 0 ∧ r.2.1 47 = nI 0 ∧ FB p (fim p v) r.2) := by
          refine Sat.lp (fun q s => ∃ g', s = (nI q, g') ∧ Fr [45, 47] [20] w0 (sS gB 33 0) g' ∧ ∀ j, j < q → g'.2.1 20 j = nI (v j)) (pP p) (by omega) ⟨_, rfl, Fr.rf, fun j hj => by omega⟩ ?_ ?_
          · rintro rec q _ hq ⟨g3, rfl, F4, a1⟩ hrec
            have P4 := PB0.fr F4 (by simp) (by simp)
            have b := (F4.2.1 17 (by simp)) ▸ (b17 q (by omega))
            simp only []
            simp only [nl]
            rw [P4.1.2.2.2.1, if_neg (nI_ge hq (by omega)), ag_nI (by omega) (by decide), b, nI_add, Nat.zero_add, ck_nI (by omega) (by decide), nI_clamp (by omega), bv_eq, nI_add]
            refine hrec _ ⟨_, rfl, F4.sA (by simp), fun j hj => ?_⟩
            rw [sA_21, if_pos rfl]
            by_cases ej : j = q
            · subst ej
              rw [upd_self]
            · rw [upd_ne _ _ ej]
              exact a1 j (by omega)
          · rintro rec _ ⟨g3, rfl, F4, a1⟩
            have P4 := PB0.fr F4 (by simp) (by simp)
            simp only []
            rw [P4.1.2.2.2.1, if_pos (nI_le (Nat.le_refl _) (by omega))]
            refine Sat.lp (fun c s => ∃ g', s = (nI c, g') ∧ Fr [45, 47] [20] w0 (sS gB 33 0) g' ∧ (∀ j, j < pP p → g'.2.1 20 j = nI (v j)) ∧ ∀ d, d < c → g'.2.1 20 (4 + d) = nI (v (pP p + 3 * d)) ∧ g'.2.1 20 (12 + d) = nI (v (pP p + 3 * d + 1)) ∧ g'.2.1 20 (20 + d) = nI (v (pP p + 3 * d + 2))) (pK p) (by omega) ⟨g3, rfl, F4, a1, fun d hd => by omega⟩ ?_ ?_
            · rintro rec2 c _ hc ⟨g4, rfl, F5, a2, a3⟩ hrec2
              have P5 := PB0.fr F5 (by simp) (by simp)
              have b : ∀ i, i < n → g4.2.1 17 i = nI (v i) := fun i hi => by rw [F5.2.1 17 (by simp)]; exact b17 i hi
              obtain ⟨g5, hg5⟩ : ∃ g5, g5 = sA g4 20 (4 + c) (nI (v (pP p + 3 * c))) := ⟨_, rfl⟩
              obtain ⟨g6, hg6⟩ : ∃ g6, g6 = sA g5 20 (12 + c) (nI (v (pP p + 3 * c + 1))) := ⟨_, rfl⟩
              have x51 : g5.1 4 = nI (pP p) := by rw [hg5]; exact P5.1.2.2.2.1
              have x61 : g6.1 4 = nI (pP p) := by rw [hg6]; exact x51
              have x52 : g5.2.1 17 = g4.2.1 17 := by rw [hg5]; rfl
              have x62 : g6.2.1 17 = g4.2.1 17 := by rw [hg6]; exact x52
              simp only []
              simp only [nl]
              rw [P5.1.2.2.2.2.1, if_neg (nI_ge hc (by omega)), P5.1.2.2.2.1]
              simp only [nI_mul, nI_add]
              rw [ag_nI (by omega) (by decide), b _ (by omega), ck_nI (by omega) (by decide), nI_clamp (by omega), bv_eq, ← hg5, x51]
              simp only [nI_add]
              rw [ag_nI (by omega) (by decide), x52, b _ (by omega), ck_nI (by omega) (by decide), nI_clamp (by omega), bv_eq, ← hg6, x61]
              simp only [nI_add]
              rw [ag_nI (by omega) (by decide), x62, b _ (by omega), ck_nI (by omega) (by decide), nI_clamp (by omega), bv_eq]
              refine hrec2 _ ⟨sA g6 20 (20 + c) (nI (v (pP p + 3 * c + 2))), rfl, ?_, fun j hj => ?_, fun d hd => ?_⟩
              · have F6 : Fr [45, 47] [20] w0 (sS gB 33 0) g5 := by rw [hg5]; exact F5.sA (by simp)
                have F7 : Fr [45, 47] [20] w0 (sS gB 33 0) g6 := by rw [hg6]; exact F6.sA (by simp)
                exact F7.sA (by simp)
              · rw [hg6, hg5]
                show upd (upd (upd (g4.2.1 20) (4 + c) _) (12 + c) _) (20 + c) _ j = _
                rw [upd_ne _ _ (by omega), upd_ne _ _ (by omega), upd_ne _ _ (by omega)]
                exact a2 j hj
              · rw [hg6, hg5]
                show upd (upd (upd (g4.2.1 20) (4 + c) _) (12 + c) _) (20 + c) _ (4 + d) = _ ∧ upd (upd (upd (g4.2.1 20) (4 + c) _) (12 + c) _) (20 + c) _ (12 + d) = _ ∧ upd (upd (upd (g4.2.1 20) (4 + c) _) (12 + c) _) (20 + c) _ (20 + d) = _
                by_cases ed : d = c
                · subst ed
                  rw [upd_ne _ _ (show 4 + d ≠ 20 + d by omega), upd_ne _ _ (show 4 + d ≠ 12 + d by omega), upd_self, upd_ne _ _ (show 12 + d ≠ 20 + d by omega), upd_self, upd_self]
                  exact ⟨rfl, rfl, rfl⟩
                · have q := a3 d (by omega)
                  rw [upd_ne _ _ (show 4 + d ≠ 20 + c by omega), upd_ne _ _ (show 4 + d ≠ 12 + c by omega), upd_ne _ _ (show 4 + d ≠ 4 + c by omega), upd_ne _ _ (show 12 + d ≠ 20 + c by omega), upd_ne _ _ (show 12 + d ≠ 12 + c by omega), upd_ne _ _ (show 12 + d ≠ 4 + c by omega), upd_ne _ _ (show 20 + d ≠ 20 + c by omega), upd_ne _ _ (show 20 + d ≠ 12 + c by omega), upd_ne _ _ (show 20 + d ≠ 4 + c by omega)]
                  exact q
            · rintro rec2 _ ⟨g4, rfl, F5, a2, a3⟩
              have P5 := PB0.fr F5 (by simp) (by simp)
              simp only []
              rw [P5.1.2.2.2.2.1, if_pos (nI_le (Nat.le_refl _) (by omega)), bv_eq, bv_eq]
              exact Sat.of ⟨rfl, (F5.sS (by simp)).sS (by simp), rfl, rfl, a2, a3⟩
        obtain ⟨⟨r5, g5⟩, e5, x5, F5, b45, b47, kb⟩ := eB
        have x5 : r5 = 1 := x5
        subst x5
        unfold fA_History_forget
        rw [if_neg (show ¬ (1 : Int32) = 0 by decide), Option.bind_some, if_neg (show ¬ (1 : Int32) = 0 by decide), e3, Option.bind_some, bv_eq, Option.bind_some, bv_eq, if_neg i10, e5]
        have FA3 : Fr [2700, 3600, 18] [28, 29, 30] w0 (sS g1 101 (nI 0)) (sS (sS g2 3600 0) 18 0) := ((F3.wd (by simp) (by simp) (by simp)).sS (by simp)).sS (by simp)
        have FA4 : Fr [3600, 18] [] w0 g2 (sS (sS g2 3600 0) 18 0) := (Fr.rf.sS (by simp)).sS (by simp)
        obtain ⟨r1, r2, r3, r4, r5, r6, r7, r8, r9, r10, r11, r12, ⟨n0, t0, hn0, ht0, m1', m2', m3', m4'⟩, r14, r15, r16⟩ := R0
        refine ⟨_, _, _, rfl, rfl, p, fim p v, ⟨by rw [F5.1 0 (by simp)]; exact r1, r2, r3.fr FA3 (by simp) (by simp), r4.fr F5 (by simp) (by simp), FA.fr kf2 FA4 (by simp) (by simp), kb, wf, r8.fr FA3 F5 (by simp), by rw [FA3.2.1 145 (by simp), F5.2.1 18 (by simp)]; exact r9, by rw [FA3.1 15 (by simp), FA3.1 16 (by simp), F5.1 35 (by simp), F5.1 36 (by simp)]; exact r10, r11.fr FA3 F5 (by simp), r12.fr FA3 F5 ⟨rfl, by simp⟩, ⟨0, t0, ⟨by omega, fun _ => rfl⟩, ht0, rfl, (FA3.1 3601 (by simp)).trans m2', b45, fun k hk => by omega⟩, r14.fr FA3 F5 (by simp) (by simp) (by simp), r15.fr FA3 rfl, by rw [F5.2.1 19 (by simp)]; exact r16⟩, fun hw => ⟨((hA hw).1.fr FA0 (by simp) (by simp)).fr FA3 (by simp) (by simp), Or.inl rfl⟩, fun _ => Or.inl b47⟩
      · exact absurd ⟨by assumption, im⟩ nim
    · rcases q2 with ⟨rfl, n1, im⟩ | ⟨rfl, _⟩
      · exact absurd ⟨n1, im⟩ nim
      · rw [if_pos rfl, Option.bind_some, if_pos trivial, if_pos i00]
        exact no _ FA0 rfl
  · have FA0 : Fr [101, 3100, 3500, 3501, 3502, 3506, 3507, 3508, 3509, 3510, 3511, 1500, 1501, 1502, 1503, 1504, 1505, 1506, 1507] [32, 33, 34, 16, 17, 18, 19, 20, 21, 22, 23, 24, 25, 26] w0 gA (sS gA 101 (nI 0)) := Fr.rf.sS (by simp)
    have e0 : fB_M_isImage (nI n) (sS gB 33 0) = some (nI 0) := by
      unfold fB_M_isImage
      rw [bv_eq, show (sS gB 33 0).1 0 = nI 0 from s2, if_pos i00]
      rfl
    rw [s1, Option.bind_some, if_pos i00, cut0 gA n hn t1, Option.bind_some, if_pos trivial, e0, Option.bind_some, if_pos i00]
    exact no _ FA0 rfl
