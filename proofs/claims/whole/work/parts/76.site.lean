/-! THE CALLS: site -/
theorem sm_one {v j : Nat} : ∀ {n : Nat}, sm (fun t => if t = j then v else 0) n = if j < n then v else 0
  | 0 => by rw [if_neg (by omega)]; rfl
  | n + 1 => by
    rw [sm, sm_one (n := n)]
    by_cases e : n = j
    · rw [if_neg (by omega), if_pos e, if_pos (by omega)]
      omega
    · rw [if_neg e, Nat.add_zero]
      by_cases l : j < n
      · rw [if_pos l, if_pos (by omega)]
      · rw [if_neg l, if_neg (by omega)]
theorem sm_pick {F : Nat → Nat} {q : Nat → Bool} {Y k t0 : Nat} (hF : ∀ t, t < Y → q t = false → F t = 0) (ht : t0 < Y) (hq : q t0 = true) (hc : cn q t0 = k) :
    sm (fun t => if cn q t < k + 1 then F t else 0) Y = sm (fun t => if cn q t < k then F t else 0) Y + F t0 := by
  have e : sm (fun t => if t = t0 then F t0 else 0) Y = F t0 := by rw [sm_one, if_pos ht]
  rw [← e, ← sm_plus]
  apply sm_cong
  intro t htY
  by_cases e1 : t = t0
  · subst e1
    rw [if_pos (by omega), if_neg (by omega), if_pos rfl, Nat.zero_add]
  · rw [if_neg e1, Nat.add_zero]
    by_cases l : cn q t < k
    · rw [if_pos l, if_pos (by omega)]
      rfl
    · rw [if_neg l]
      by_cases l2 : cn q t < k + 1
      · rw [if_pos l2]
        have e2 : cn q t = k := by omega
        cases hb : q t
        · exact hF t htY hb
        · exfalso
          rcases Nat.lt_trichotomy t t0 with z | z | z
          · have m := cn_mono q (show t + 1 ≤ t0 by omega)
            rw [cn_t hb] at m
            omega
          · exact e1 z
          · have m := cn_mono q (show t0 + 1 ≤ t by omega)
            rw [cn_t hq] at m
            omega
      · rw [if_neg l2]
theorem sm_all {F : Nat → Nat} {q : Nat → Bool} {Y : Nat} (hF : ∀ t, t < Y → q t = false → F t = 0) : sm (fun t => if cn q t < cn q Y then F t else 0) Y = sm F Y := by
  apply sm_cong
  intro t ht
  cases hb : q t
  · rw [hF t ht hb]
    split <;> rfl
  · have m := cn_mono q (show t + 1 ≤ Y by omega)
    rw [cn_t hb] at m
    rw [if_pos (by omega)]
theorem sm_swap (v : Nat → Nat → Nat) (K : Nat) : ∀ Y, sm (fun t => sm (fun c => v c t) K) Y = sm (fun c => sm (fun t => v c t) Y) K
  | 0 => by
    have : sm (fun c => sm (fun t => v c t) 0) K = sm (fun _ => 0) K := rfl
    rw [this, sm_tail (k := 0) (Nat.zero_le _) (fun _ _ _ => rfl)]
    rfl
  | Y + 1 => by
    rw [sm, sm_swap v K Y, ← sm_plus]
    rfl
/-- a pass that lies in a site's hours -/
def hv (p : Pl) (b : Nat → Nat → Bool) (s : Nat) (l : Bool) (c t : Nat) : Nat :=
  if bg (b c) (pY p) t = true ∧ sf p s ≤ t % pD p ∧ t % pD p + ln (b c) (pY p) t ≤ st p s then (if l then ln (b c) (pY p) t else 1) else 0
theorem hoursA {p : Pl} (hw : WP p) {f : Fl} {g : G} (hP : PA p g) (hV : VF p f g) (hu : g.1 2700 = nI (us p f)) {s : Nat} (hs : s < pS p) (l : Bool) :
    Sat (fA_D_passesInHours (nI s) (bI l) g) (fun r => Fr [13003] [131] w0 g r.2 ∧ r.1 = nI (sm (fun t => sm (fun c => hv p (kd p f (us p f) (sx p s) (sy p s)) s l c t) (pK p)) (pY p))) := by
  have h1 := hw.c
  have h2 := hw.s hs
  have q := hP.2.2.2.1 s hs
  unfold fA_D_passesInHours
  rw [ag_nI (by omega) (by decide), q.1, ag_nI (by omega) (by decide), q.2.1, hu]
  refine (layA hw hP hV (s := us p f) h2.1 h2.2.1).bind ?_
  rintro g1 ⟨F1, S1⟩
  have P1 := hP.fr F1 (by simp) (by simp)
  have q1 := P1.2.2.2.1 s hs
  obtain ⟨b, hb⟩ : ∃ b, b = kd p f (us p f) (sx p s) (sy p s) := ⟨_, rfl⟩
  have hp : ∀ i, Per (pY p) (b i) := fun i => by rw [hb]; exact kd_per hw f _ _ _ i
  rw [← hb] at S1 ⊢
  refine Sat.lp (fun t s1 => s1 = (nI (sm (fun t => sm (fun c => hv p b s l c t) (pK p)) t), nI t)) (pY p) (by omega) rfl ?_ ?_
  · rintro rec t _ ht rfl hrec
    have hd : t % pD p < pD p := Nat.mod_lt _ (by omega)
    simp only []
    rw [P1.1.2.2.2.1, if_neg (nI_ge ht (by omega)), P1.1.2.2.1, restA (by omega) (by omega) (by omega), Option.bind_some]
    refine Sat.lp (fun c s1 => s1 = (nI (sm (fun t => sm (fun c => hv p b s l c t) (pK p)) t + sm (fun c => hv p b s l c t) c), nI c)) (pK p) (by omega) rfl ?_ ?_
    · rintro rec2 c _ hc rfl hrec2
      have l1 := ln_le (b c) (pY p) t
      have fin : ∀ v, v = hv p b s l c t → Sat (rec2 (nI (sm (fun t => sm (fun c => hv p b s l c t) (pK p)) t + sm (fun c => hv p b s l c t) c + v), nI (c + 1))) (fun r => Fr [13003] [131] w0 g r.2 ∧ r.1 = nI (sm (fun t => sm (fun c => hv p b s l c t) (pK p)) (pY p))) := by
        intro v ev
        refine hrec2 _ ?_
        have e9 : sm (fun c => hv p b s l c t) (c + 1) = sm (fun c => hv p b s l c t) c + hv p b s l c t := rfl
        rw [ev, e9, Nat.add_assoc]
      simp only []
      simp only [lj_eq]
      simp only [nl]
      rw [P1.1.2.2.2.2.2.2.1, if_neg (nI_ge hc (by omega)), ag_nI (by omega) (by decide), q1.2.2.1, ite_ltn (by omega) (by omega), beginsA hw S1 (hp c) (by omega) ht, Option.bind_some, lengthA hw S1 (hp c) (by omega) (by omega), Option.bind_some, ag_nI (by omega) (by decide), q1.2.2.2.1, nI_add, nI_add, ite_ltn (by omega) (by omega)]
      by_cases c1 : t % pD p < sf p s
      · rw [if_pos c1]
        have := fin 0 (by unfold hv; rw [if_neg (by omega)])
        exact this
      · rw [if_neg c1]
        cases c2 : bg (b c) (pY p) t
        · rw [if_pos z0]
          have := fin 0 (by unfold hv; rw [if_neg (by rw [c2]; simp)])
          exact this
        · rw [if_neg z1]
          by_cases c3 : st p s < t % pD p + ln (b c) (pY p) t
          · rw [if_pos c3]
            have := fin 0 (by unfold hv; rw [if_neg (by omega)])
            exact this
          · rw [if_neg c3]
            cases l
            · rw [if_pos z0, bv_eq, nI_add]
              exact fin 1 (by unfold hv; rw [if_pos ⟨c2, by omega, by omega⟩]; rfl)
            · rw [if_neg z1, bv_eq, nI_add]
              exact fin (ln (b c) (pY p) t) (by unfold hv; rw [if_pos ⟨c2, by omega, by omega⟩]; rfl)
    · rintro rec2 _ rfl
      simp only []
      rw [P1.1.2.2.2.2.2.2.1, if_pos (nI_le (Nat.le_refl _) (by omega)), nl, nI_add]
      exact hrec _ rfl
  · rintro rec _ rfl
    simp only []
    rw [P1.1.2.2.2.1, if_pos (nI_le (Nat.le_refl _) (by omega))]
    exact Sat.of ⟨F1, rfl⟩
theorem hv_0 {p : Pl} {b : Nat → Nat → Bool} {s : Nat} {l : Bool} {c t : Nat} (h : bg (b c) (pY p) t = false) : hv p b s l c t = 0 := by
  unfold hv
  rw [if_neg (by rw [h]; simp)]
theorem c_site {p : Pl} {f : Fl} {gA gB : G} (h : RS p f gA gB) (hA : CA p f gA) (hB : CB p f gB) (a b : Int32) : Eq2 (fA_D_site a b gA) (fB_M_site a b gB) := by
  have hl := h.lt
  unfold fA_D_site fB_M_site
  by_cases ha : rg (pS p) a
  · obtain ⟨s, hs, rfl⟩ := ha
    have hw := h.wp (by omega)
    have h1 := hw.c
    have r4 := h.2.2.2.1
    have r6 := h.2.2.2.2.2.1
    have r7 := h.2.2.2.2.2.2.1
    have h2 := hw.s hs
    have ec := cl (C := pC p) (R := pR p) h2.1 h2.2.1
    obtain ⟨g1, e1, F1, R1, C1, L1, P1, U1⟩ := look2 h hw hA
    have q1 := P1.2.2.2.1 s hs
    have q4 := r4.2.2.2.1 s hs
    rw [siteA_t h.2.2.1 hs (by omega), siteB_t r4 hs (by omega), Option.bind_some, Option.bind_some, if_neg i10, if_neg i10, e1, Option.bind_some, ag_nI (by omega) (by decide), ag_nI (by omega) (by decide), ag_nI (by omega) (by decide), ag_nI (by omega) (by decide), q1.1, q1.2.1, q1.2.2.1, q1.2.2.2.1]
    by_cases hb : rg 6 b
    · obtain ⟨w, hw6, rfl⟩ := hb
      rw [inB_t hw6 (by decide) (by decide), Option.bind_some, if_neg i10, bv_eq]
      have rel1 : Rel g1 gB := ⟨p, f, R1, C1, hB⟩
      by_cases w4 : w < 4
      · have e4 : ¬ (4 : Int32) ≤ nI w := nI_ge (b := 4) w4 (by decide)
        rw [if_neg e4, show (4 : Int32) = nI 4 from rfl, nI_mul, nI_add, ag_nI (by omega) (by decide)]
        have : w = 0 ∨ w = 1 ∨ w = 2 ∨ w = 3 := by omega
        rcases this with rfl | rfl | rfl | rfl
        · exact ⟨_, _, _, rfl, congrArg (fun z => some (z, gB)) q4.1, rel1⟩
        · exact ⟨_, _, _, rfl, congrArg (fun z => some (z, gB)) q4.2.1, rel1⟩
        · exact ⟨_, _, _, rfl, congrArg (fun z => some (z, gB)) q4.2.2.1, rel1⟩
        · exact ⟨_, _, _, rfl, congrArg (fun z => some (z, gB)) q4.2.2.2, rel1⟩
      · have e4 : (4 : Int32) ≤ nI w := nI_le (a := 4) (by omega) (by omega)
        rw [if_pos e4]
        obtain ⟨g3, e3, F3, L3, P3, N3, C3⟩ := lays2 h hw hB
        rw [e3, Option.bind_some]
        obtain ⟨k, hk⟩ : ∃ k, k = kd p f (us p f) (sx p s) (sy p s) := ⟨_, rfl⟩
        have eB : Sat (Lp (α := Int32 × Int32 × Int32 × G) (fun rec5 s5 => (if (s5.2.2.2.1 5) ≤ s5.2.2.1 then (if nI w = 4 then some (s5.1, s5.2.2.2) else some (s5.2.1, s5.2.2.2)) else ag 24 (s5.2.2.2.2.1 7) (4 * nI s + 1) fun x6 => ag 24 (s5.2.2.2.2.1 7) (4 * nI s) fun x7 => Option.bind (fB_M_upSet s5.2.2.2) fun x8 => Option.bind (fB_M_laysStretches (((s5.2.2.2.1 1) * x6) + x7) (x8 &&& ((1 : Int32) <<< (s5.2.2.1 &&& 31))) 1 s5.2.2.2) fun x9 => Lp (α := Int32 × Int32 × Int32) (fun rec10 s10 => (if (x9.1 50) ≤ s10.2.2 then rec5 (s10.1, s10.2.1, s5.2.2.1 + 1, x9) else ag 240 (x9.2.1 23) s10.2.2 fun x11 => dz (x9.1 3) (bv (x11 - x11 / (x9.1 3) * (x9.1 3)) fun x12 => ag 24 (x9.2.1 7) (4 * nI s + 2) fun x13 => lj (α := Int32 × Int32) (fun b14 => rec10 (b14.1, b14.2, s10.2.2 + 1)) fun J14 => (if x12 < x13 then J14 (s10.1, s10.2.1) else ag 240 (x9.2.1 24) s10.2.2 fun x15 => ag 24 (x9.2.1 7) (4 * nI s + 3) fun x16 => (if (x12 + x15) ≤ x16 then ag 240 (x9.2.1 24) s10.2.2 fun x17 => bv (s10.2.1 + x17) fun x18 => J14 (s10.1 + 1, x18) else J14 (s10.1, s10.2.1)))))) FU (s5.1, s5.2.1, 0))) FU (0, 0, 0, g3))
            (fun r => Fr qB tB w1 gB r.2 ∧ CB p f r.2 ∧ r.1 = if w = 4 then nI (sm (fun c => sm (fun t => hv p k s false c t) (pY p)) (pK p)) else nI (sm (fun c => sm (fun t => hv p k s true c t) (pY p)) (pK p))) := by
          refine Sat.lp (fun c s1 => ∃ g', s1 = (nI (sm (fun c => sm (fun t => hv p k s false c t) (pY p)) c), nI (sm (fun c => sm (fun t => hv p k s true c t) (pY p)) c), nI c, g') ∧ Fr qB tB w1 gB g' ∧ CB p f g' ∧ LB p f g') (pK p) (by omega) ⟨g3, rfl, F3, C3, L3⟩ ?_ ?_
          · rintro rec c _ hc ⟨g4, rfl, F4, C4, L4⟩ hrec
            have P4 := r4.ok F4
            have N4 := r6.ok F4
            have q5 := P4.2.2.2.1 s hs
            simp only []
            simp only [nl]
            rw [P4.1.2.2.2.2.1, if_neg (nI_ge hc (by omega)), nI_mul, nI_add, ag_nI (by omega) (by decide), q5.2.1, ag_nI (by omega) (by decide), q5.1, upSetB hw P4 N4 r7, Option.bind_some, P4.1.1, nI_mul, nI_add, n_31 (by omega), n_shl _ (by omega), n_and]
            refine (stretchB hw P4 L4 ec.1 true).bind ?_
            rintro g5 ⟨F5, S5⟩
            rw [← kdc h2.1 (by omega), ← hk] at S5
            have F45 : Fr qB tB w1 gB g5 := F4.tr F5 (by decide) (by decide) (by decide)
            have P5 := r4.ok F45
            have q6 := P5.2.2.2.1 s hs
            have lc := cn_le (bg (k c) (pY p)) (pY p)
            refine Sat.lp (fun i s1 => s1 = (nI (sm (fun c => sm (fun t => hv p k s false c t) (pY p)) c + sm (fun t => if cn (bg (k c) (pY p)) t < i then hv p k s false c t else 0) (pY p)), nI (sm (fun c => sm (fun t => hv p k s true c t) (pY p)) c + sm (fun t => if cn (bg (k c) (pY p)) t < i then hv p k s true c t else 0) (pY p)), nI i)) (cn (bg (k c) (pY p)) (pY p)) (by omega) ?_ ?_ ?_
            · have z : ∀ l : Bool, sm (fun t => if cn (bg (k c) (pY p)) t < 0 then hv p k s l c t else 0) (pY p) = 0 := fun l => by
                rw [sm_tail (k := 0) (Nat.zero_le _) (fun i _ _ => by rw [if_neg (by omega)])]
                rfl
              rw [z, z]
              rfl
            · rintro rec2 i _ hi rfl hrec2
              obtain ⟨t, ht, hbt, ek, e23, e24⟩ := S5.at hi
              have hd : t % pD p < pD p := Nat.mod_lt _ (by omega)
              have ll := ln_le (k c) (pY p) t
              have pk := fun l : Bool => sm_pick (F := fun t => hv p k s l c t) (q := bg (k c) (pY p)) (k := i) (fun t _ hq => hv_0 hq) ht hbt ek
              have fin : ∀ v1 v2, v1 = hv p k s false c t → v2 = hv p k s true c t → Sat (rec2 (nI (sm (fun c => sm (fun t => hv p k s false c t) (pY p)) c + sm (fun t => if cn (bg (k c) (pY p)) t < i then hv p k s false c t else 0) (pY p) + v1), nI (sm (fun c => sm (fun t => hv p k s true c t) (pY p)) c + sm (fun t => if cn (bg (k c) (pY p)) t < i then hv p k s true c t else 0) (pY p) + v2), nI (i + 1))) (fun r => Fr qB tB w1 gB r.2 ∧ CB p f r.2 ∧ r.1 = if w = 4 then nI (sm (fun c => sm (fun t => hv p k s false c t) (pY p)) (pK p)) else nI (sm (fun c => sm (fun t => hv p k s true c t) (pY p)) (pK p))) := by
                intro v1 v2 ev1 ev2
                refine hrec2 _ ?_
                rw [pk, pk, ev1, ev2, Nat.add_assoc, Nat.add_assoc]
              simp only []
              rw [S5.1, if_neg (nI_ge hi (by omega)), ag_nI (by omega) (by decide), e23, P5.1.2.2.1, n_dz (by omega) (by omega), n_div (by omega) (by omega), nI_mul, n_rem, bv_eq, nI_add, ag_nI (by omega) (by decide), q6.2.2.1, lj_eq, ite_ltn (by omega) (by omega), ag_nI (by omega) (by decide), e24]
              simp only [nI_add]
              rw [ag_nI (by omega) (by decide), q6.2.2.2, ite_len (by omega) (by omega), ag_nI (by omega) (by decide), e24, bv_eq]
              simp only [nI_add]
              by_cases c1 : t % pD p < sf p s
              · rw [if_pos c1]
                exact fin 0 0 (by unfold hv; rw [if_neg (by omega)]) (by unfold hv; rw [if_neg (by omega)])
              · rw [if_neg c1]
                by_cases c3 : t % pD p + ln (k c) (pY p) t ≤ st p s
                · rw [if_pos c3]
                  exact fin 1 (ln (k c) (pY p) t) (by unfold hv; rw [if_pos ⟨hbt, by omega, c3⟩]; rfl) (by unfold hv; rw [if_pos ⟨hbt, by omega, c3⟩]; rfl)
                · rw [if_neg c3]
                  exact fin 0 0 (by unfold hv; rw [if_neg (by omega)]) (by unfold hv; rw [if_neg (by omega)])
            · rintro rec2 _ rfl
              simp only []
              rw [S5.1, if_pos (nI_le (Nat.le_refl _) (by omega)), nI_add]
              refine hrec _ ⟨g5, ?_, F45, C4.fr F5 (by simp) (by simp), L4.fr F5 (by simp)⟩
              rw [sm_all (F := fun t => hv p k s false c t) (fun t _ hq => hv_0 hq), sm_all (F := fun t => hv p k s true c t) (fun t _ hq => hv_0 hq)]
              rfl
          · rintro rec _ ⟨g4, rfl, F4, C4, L4⟩
            have P4 := r4.ok F4
            simp only []
            rw [P4.1.2.2.2.2.1, if_pos (nI_le (Nat.le_refl _) (by omega))]
            by_cases c : w = 4
            · subst c
              rw [if_pos (show nI 4 = 4 from rfl)]
              exact Sat.of ⟨F4, C4, rfl⟩
            · rw [if_neg (show ¬ nI w = 4 from fun e => c ((nI_eq (b := 4) (by omega) (by decide)).mp e))]
              exact Sat.of ⟨F4, C4, by rw [if_neg c]⟩
        obtain ⟨⟨rB, gB'⟩, eb, Fb, Cb, erb⟩ := eB
        have erb : rB = if w = 4 then nI (sm (fun c => sm (fun t => hv p k s false c t) (pY p)) (pK p)) else nI (sm (fun c => sm (fun t => hv p k s true c t) (pY p)) (pK p)) := erb
        rw [eb, erb]
        have : w = 4 ∨ w = 5 := by omega
        rcases this with rfl | rfl
        · obtain ⟨⟨r2, g2⟩, e2, F2, er2⟩ := hoursA hw P1 L1.2.1 U1 hs false
          have er2 : r2 = nI (sm (fun t => sm (fun c => hv p (kd p f (us p f) (sx p s) (sy p s)) s false c t) (pK p)) (pY p)) := er2
          rw [sm_swap (fun c t => hv p (kd p f (us p f) (sx p s) (sy p s)) s false c t), ← hk] at er2
          have e2' : fA_D_passesInHours (nI s) 0 g1 = some (r2, g2) := e2
          rw [if_neg (show ¬ nI 4 = 0 by decide), if_neg (show ¬ nI 4 = 1 by decide), if_neg (show ¬ nI 4 = 2 by decide), if_neg (show ¬ nI 4 = 3 by decide), if_pos (show nI 4 = 4 from rfl), e2', Option.bind_some, if_pos rfl]
          exact ⟨_, _, _, rfl, congrArg (fun z => some (z, gB')) er2.symm, Rel.mk2 h (F1.tr F2 (by decide) (by decide) (by decide)) Fb (C1.fr F2 (by simp) (by simp)) Cb⟩
        · obtain ⟨⟨r2, g2⟩, e2, F2, er2⟩ := hoursA hw P1 L1.2.1 U1 hs true
          have er2 : r2 = nI (sm (fun t => sm (fun c => hv p (kd p f (us p f) (sx p s) (sy p s)) s true c t) (pK p)) (pY p)) := er2
          rw [sm_swap (fun c t => hv p (kd p f (us p f) (sx p s) (sy p s)) s true c t), ← hk] at er2
          have e2' : fA_D_passesInHours (nI s) 1 g1 = some (r2, g2) := e2
          rw [if_neg (show ¬ nI 5 = 0 by decide), if_neg (show ¬ nI 5 = 1 by decide), if_neg (show ¬ nI 5 = 2 by decide), if_neg (show ¬ nI 5 = 3 by decide), if_neg (show ¬ nI 5 = 4 by decide), if_pos (show nI 5 = 5 from rfl), e2', Option.bind_some, if_neg (by decide)]
          exact ⟨_, _, _, rfl, congrArg (fun z => some (z, gB')) er2.symm, Rel.mk2 h (F1.tr F2 (by decide) (by decide) (by decide)) Fb (C1.fr F2 (by simp) (by simp)) Cb⟩
    · rw [inB_f hb (by decide) (by decide), Option.bind_some, if_pos i00, if_neg (show ¬ b = 0 from fun e => hb ⟨0, by decide, e⟩), if_neg (show ¬ b = 1 from fun e => hb ⟨1, by decide, e⟩), if_neg (show ¬ b = 2 from fun e => hb ⟨2, by decide, e⟩), if_neg (show ¬ b = 3 from fun e => hb ⟨3, by decide, e⟩), if_neg (show ¬ b = 4 from fun e => hb ⟨4, by decide, e⟩), if_neg (show ¬ b = 5 from fun e => hb ⟨5, by decide, e⟩)]
      exact ⟨_, _, _, rfl, rfl, p, f, R1, C1, hB⟩
  · rw [siteA_f h.2.2.1 ha, siteB_f h.2.2.2.1 ha (by omega), Option.bind_some, Option.bind_some, if_pos i00, if_pos i00]
    exact ⟨_, _, _, rfl, rfl, p, f, h, hA, hB⟩
