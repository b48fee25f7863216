/-! THE CALLS: passes -/
theorem sm_cong {a b : Nat → Nat} : ∀ {n : Nat}, (∀ i, i < n → a i = b i) → sm a n = sm b n
  | 0, _ => rfl
  | n + 1, h => by rw [sm, sm, h n (Nat.lt_succ_self n), sm_cong (fun i hi => h i (Nat.lt_succ_of_lt hi))]
theorem sm_plus (a b : Nat → Nat) : ∀ n, sm (fun i => a i + b i) n = sm a n + sm b n
  | 0 => rfl
  | n + 1 => by rw [sm, sm, sm, sm_plus a b n]; omega
theorem sm_tail {a : Nat → Nat} {k : Nat} : ∀ {n : Nat}, k ≤ n → (∀ i, k ≤ i → i < n → a i = 0) → sm a n = sm a k
  | 0, h, _ => by rw [show k = 0 by omega]
  | n + 1, h, hz => by
    by_cases e : k = n + 1
    · rw [e]
    · rw [sm, hz n (by omega) (by omega), sm_tail (by omega) (fun i h1 h2 => hz i h1 (by omega)), Nat.add_zero]
theorem sm_le {a : Nat → Nat} {m : Nat} : ∀ {n : Nat}, (∀ i, i < n → a i ≤ m) → sm a n ≤ n * m
  | 0, _ => Nat.zero_le _
  | n + 1, h => by
    have ih := sm_le (n := n) (fun i hi => h i (by omega))
    have := h n (by omega)
    rw [sm, Nat.succ_mul]
    omega
theorem sm_cn (b : Nat → Bool) : ∀ n, sm (fun i => (b i).toNat) n = cn b n
  | 0 => rfl
  | n + 1 => by rw [sm, cn, sm_cn b n]
/-- which kinds are asked for -/
def KK (p : Pl) (a : Int32) (kk : Nat) : Prop := kk < 256 ∧ (∀ i, pK p ≤ i → kk.testBit i = false) ∧ ∀ c, c < pK p → (kk.testBit c = true ↔ (a = -1 ∨ nI c = a))
theorem rn_sum {p : Pl} (hK : pK p ≤ 8) {kk : Nat} (hk : ∀ i, pK p ≤ i → kk.testBit i = false) (b : Nat → Nat → Bool) (Y : Nat) : ∀ n, cn (rn kk b Y) (n * 9) = sm (fun c => if kk.testBit c then cn (bg (b c) Y) n else 0) (pK p)
  | 0 => by
    rw [Nat.zero_mul]
    have : sm (fun c => if kk.testBit c then cn (bg (b c) Y) 0 else 0) (pK p) = sm (fun _ => 0) (pK p) := sm_cong (fun i _ => by split <;> rfl)
    rw [this, sm_tail (k := 0) (by omega) (fun _ _ _ => rfl)]
    rfl
  | n + 1 => by
    rw [show (n + 1) * 9 = n * 9 + 9 by omega, rn_blk _ _ _ _ _ (Nat.le_refl _), rn_sum hK hk b Y n, ← sm_cn, sm_tail (k := pK p) (n := 9) (by omega) (fun i h1 _ => by rw [hk i h1]; rfl), ← sm_plus]
    apply sm_cong
    intro c _
    cases kk.testBit c
    · rfl
    · rw [if_pos rfl, if_pos rfl, Bool.true_and]
      rfl
theorem kindsA {p : Pl} (hw : WP p) {g : G} (hP : PA p g) {a : Int32} (ha : a = -1 ∨ rg (pK p) a) : ∃ kk, KK p a kk ∧ fA_D_passKinds a g = some (nI kk) := by
  have h1 := hw.c
  unfold fA_D_passKinds
  rcases ha with rfl | ⟨j, hj, rfl⟩
  · refine ⟨2 ^ pK p - 1, ⟨?_, fun i hi => ?_, fun c hc => ?_⟩, ?_⟩
    · have : 2 ^ pK p ≤ 2 ^ 8 := Nat.pow_le_pow_right (by decide) (by omega)
      have : 0 < 2 ^ pK p := Nat.pow_pos (by decide)
      omega
    · rw [Nat.testBit_two_pow_sub_one]
      exact decide_eq_false (by omega)
    · rw [Nat.testBit_two_pow_sub_one]
      simp [hc]
    · rw [if_pos rfl, hP.1.2.2.2.2.2.2.1]
      simp only [nl]
      rw [n_31 (by omega), n_shl _ (by omega), nI_sub (by rw [Nat.one_shiftLeft]; exact Nat.pow_pos (by decide)), Nat.one_shiftLeft]
  · have nm : ¬ nI j = -1 := fun e => (n_ne_m1 (by omega)).mp e
    refine ⟨1 <<< j, ⟨?_, fun i hi => ?_, fun c hc => ?_⟩, ?_⟩
    · rw [Nat.one_shiftLeft]
      show 2 ^ j < 2 ^ 8
      exact Nat.pow_lt_pow_right (by decide) (by omega)
    · rw [one_bit (by omega)]
      exact decide_eq_false (by omega)
    · rw [one_bit (by omega), decide_eq_true_iff]
      constructor
      · intro e
        exact Or.inr (by rw [e])
      · rintro (e | e)
        · exact absurd e nm
        · exact (nI_eq (by omega) (by omega)).mp e
    · rw [if_neg nm]
      simp only [nl]
      rw [n_31 (by omega), n_shl _ (by omega)]
theorem PB.ok {p : Pl} {g g' : G} (h : PB p g) (hf : Fr qB tB w1 g g') : PB p g' := h.fr hf (by decide) (by decide)
theorem FB.ok {p : Pl} {f : Fl} {g g' : G} (h : FB p f g) (hf : Fr qB tB w1 g g') : FB p f g' := h.fr hf (by decide)
theorem passesX {p : Pl} {f : Fl} {gA gB : G} (h : RS p f gA gB) (hw : WP p) (hB : CB p f gB) {x y : Nat} (hx : x < pC p) (hy : y < pR p) {a : Int32} (ha : a = -1 ∨ rg (pK p) a) {kk : Nat} (hk : KK p a kk) :
    Sat (fB_M_passes (nI x) (nI y) a gB) (fun r => r.1 = nI (cn (rn kk (kd p f (us p f) x y) (pY p)) (pY p * 9)) ∧ Fr qB tB w1 gB r.2 ∧ CB p f r.2 ∧ LB p f r.2) := by
  have h1 := hw.c
  have r4 := h.2.2.2.1
  have r6 := h.2.2.2.2.2.1
  have r7 := h.2.2.2.2.2.2.1
  have e := cl (C := pC p) (R := pR p) hx hy
  unfold fB_M_passes
  rw [cellB_t r4 hx hy (by omega), Option.bind_some, if_neg i10, lj_eq]
  have go : Sat (Option.bind (fB_M_laysSets gB) fun x3 => Lp (α := Int32 × Int32 × G) (fun rec4 s4 => (if (s4.2.2.1 5) ≤ s4.2.1 then some (s4.1, s4.2.2) else lj (α := Int32 × G) (fun b5 => rec4 (b5.1, s4.2.1 + 1, b5.2)) fun J5 => lj (α := Unit) (fun b6 => Option.bind (fB_M_upSet s4.2.2) fun x7 => Option.bind (fB_M_laysStretches (((s4.2.2.1 1) * nI y) + nI x) (x7 &&& ((1 : Int32) <<< (s4.2.1 &&& 31))) 1 s4.2.2) fun x8 => bv (s4.1 + (x8.1 50)) fun x9 => J5 (x9, x8)) fun J6 => (if a = (-1) then J6 () else (if s4.2.1 = a then J6 () else J5 (s4.1, s4.2.2))))) FU (0, 0, x3))
      (fun r => r.1 = nI (cn (rn kk (kd p f (us p f) x y) (pY p)) (pY p * 9)) ∧ Fr qB tB w1 gB r.2 ∧ CB p f r.2 ∧ LB p f r.2) := by
    refine (lays2 h hw hB).bind ?_
    rintro g1 ⟨F1, L1, P1, N1, C1⟩
    refine Sat.lp (fun c s => ∃ g', s = (nI (sm (fun c => if kk.testBit c then cn (bg (kd p f (us p f) x y c) (pY p)) (pY p) else 0) c), nI c, g') ∧ Fr qB tB w1 gB g' ∧ CB p f g' ∧ LB p f g') (pK p) (by omega) ⟨g1, rfl, F1, C1, L1⟩ ?_ ?_
    · rintro rec c _ hc ⟨g2, rfl, F2, C2, L2⟩ hrec
      have P2 := r4.ok F2
      have N2 := r6.ok F2
      simp only []
      rw [P2.1.2.2.2.2.1, if_neg (nI_ge hc (by omega)), lj_eq, lj_eq]
      have go2 : kk.testBit c = true → Sat (Option.bind (fB_M_upSet g2) fun x7 => Option.bind (fB_M_laysStretches (((g2.1 1) * nI y) + nI x) (x7 &&& ((1 : Int32) <<< (nI c &&& 31))) 1 g2) fun x8 => bv (nI (sm (fun c => if kk.testBit c then cn (bg (kd p f (us p f) x y c) (pY p)) (pY p) else 0) c) + (x8.1 50)) fun x9 => rec (x9, nI c + 1, x8))
          (fun r => r.1 = nI (cn (rn kk (kd p f (us p f) x y) (pY p)) (pY p * 9)) ∧ Fr qB tB w1 gB r.2 ∧ CB p f r.2 ∧ LB p f r.2) := by
        intro hb
        rw [upSetB hw P2 N2 r7, Option.bind_some, P2.1.1]
        simp only [nl]
        rw [nI_mul, nI_add, n_31 (by omega), n_shl _ (by omega), n_and]
        refine (stretchB hw P2 L2 e.1 true).bind ?_
        rintro g3 ⟨F3, S3⟩
        rw [← kdc hx (by omega)] at S3
        rw [S3.1, nI_add, bv_eq, nI_add]
        refine hrec _ ⟨g3, ?_, F2.tr F3 (by decide) (by decide) (by decide), C2.fr F3 (by simp) (by simp), L2.fr F3 (by simp)⟩
        have e2 : sm (fun c => if kk.testBit c then cn (bg (kd p f (us p f) x y c) (pY p)) (pY p) else 0) (c + 1) = sm (fun c => if kk.testBit c then cn (bg (kd p f (us p f) x y c) (pY p)) (pY p) else 0) c + cn (bg (kd p f (us p f) x y c) (pY p)) (pY p) := by
          rw [sm, hb, if_pos rfl]
        rw [e2]
      have hkc := hk.2.2 c hc
      by_cases e1 : a = -1
      · rw [if_pos e1]
        exact go2 (hkc.mpr (Or.inl e1))
      · rw [if_neg e1]
        by_cases e2 : nI c = a
        · rw [if_pos e2]
          exact go2 (hkc.mpr (Or.inr e2))
        · rw [if_neg e2]
          have hb : kk.testBit c = false := by
            cases hb : kk.testBit c
            · rfl
            · rcases hkc.mp hb with z | z
              · exact absurd z e1
              · exact absurd z e2
          rw [nl, nI_add]
          refine hrec _ ⟨g2, ?_, F2, C2, L2⟩
          rw [show sm (fun c => if kk.testBit c then cn (bg (kd p f (us p f) x y c) (pY p)) (pY p) else 0) (c + 1) = sm (fun c => if kk.testBit c then cn (bg (kd p f (us p f) x y c) (pY p)) (pY p) else 0) c from by rw [sm, hb]; rfl]
    · rintro rec _ ⟨g2, rfl, F2, C2, L2⟩
      have P2 := r4.ok F2
      simp only []
      rw [P2.1.2.2.2.2.1, if_pos (nI_le (Nat.le_refl _) (by omega))]
      refine Sat.of ⟨?_, F2, C2, L2⟩
      rw [rn_sum (by omega) hk.2.1]
  by_cases e1 : a = -1
  · rw [if_pos e1]
    exact go
  · rw [if_neg e1]
    rcases ha with z | ⟨j, hj, rfl⟩
    · exact absurd z e1
    · rw [craftB_t r4 hj (by omega), Option.bind_some, if_neg i10]
      exact go
theorem cell_kinds_f {p : Pl} {f : Fl} {gA gB : G} (h : RS p f gA gB) {a : Int32} (ha : ¬ (a = -1 ∨ rg (pK p) a)) : fA_Plan_hasCraft a gA = some (nI 0) ∧ fB_M_isCraft a gB = some (nI 0) ∧ ¬ a = -1 := by
  have hl := h.lt
  have hn : ¬ rg (pK p) a := fun z => ha (Or.inr z)
  exact ⟨craftA_f h.2.2.1 hn, craftB_f h.2.2.2.1 hn (by omega), fun z => ha (Or.inl z)⟩
theorem c_passes {p : Pl} {f : Fl} {gA gB : G} (h : RS p f gA gB) (hA : CA p f gA) (hB : CB p f gB) (a b c : Int32) : Eq2 (fA_D_passes a b c gA) (fB_M_passes a b c gB) := by
  have hl := h.lt
  have no : ∃ z gA' gB', some ((-1 : Int32), gA) = some (z, gA') ∧ some ((-1 : Int32), gB) = some (z, gB') ∧ Rel gA' gB' := ⟨_, _, _, rfl, rfl, p, f, h, hA, hB⟩
  by_cases hc : rg (pC p) a ∧ rg (pR p) b
  · obtain ⟨⟨x, hx, rfl⟩, y, hy, rfl⟩ := hc
    have hw := h.wp (by omega)
    have h1 := hw.c
    by_cases hk : c = -1 ∨ rg (pK p) c
    · obtain ⟨g1, g2, e1, e2, FA, CA', PA', SA⟩ := strip2' h hw hA hx hy
      obtain ⟨kk, K1, K2⟩ := kindsA hw PA' hk
      obtain ⟨⟨n, gB'⟩, eB, en, FB, CB', LB'⟩ := passesX h hw hB hx hy hk K1
      have go : (Option.bind (fA_D_look gA) fun x3 => Option.bind (fA_Strip_lay (x3.1 2700) (nI x) (nI y) x3) fun x4 => Option.bind (fA_D_passKinds c x4) fun x5 => Option.bind (fA_Strip_countRuns x5 x4) fun x6 => some (x6, x4)) = some (nI (cn (rn kk (kd p f (us p f) x y) (pY p)) (pY p * 9)), g2) := by
        rw [e1, Option.bind_some, e2, Option.bind_some, K2, Option.bind_some, countRunsA hw SA (kd_per hw f _ x y) (Nat.lt_trans K1.1 (by decide)), Option.bind_some]
      rw [eB]
      unfold fA_D_passes
      rw [cellA_t h.2.2.1 hx hy (by omega), Option.bind_some, if_neg i10, lj_eq, go]
      have fin : ∃ z gA' gB2, some (nI (cn (rn kk (kd p f (us p f) x y) (pY p)) (pY p * 9)), g2) = some (z, gA') ∧ some (n, gB') = some (z, gB2) ∧ Rel gA' gB2 := ⟨_, _, _, rfl, congrArg (fun z => some (z, gB')) en, Rel.mk2 h FA FB CA' CB'⟩
      by_cases z : c = -1
      · rw [if_pos z]
        exact fin
      · rw [if_neg z]
        rcases hk with hk | ⟨j, hj, rfl⟩
        · exact absurd hk z
        · rw [craftA_t h.2.2.1 hj (by omega), Option.bind_some, if_neg i10]
          exact fin
    · obtain ⟨q1, q2, q3⟩ := cell_kinds_f h hk
      unfold fA_D_passes fB_M_passes
      rw [cellA_t h.2.2.1 hx hy (by omega), cellB_t h.2.2.2.1 hx hy (by omega), Option.bind_some, Option.bind_some, if_neg i10, if_neg i10, lj_eq, lj_eq, if_neg q3, if_neg q3, q1, q2, Option.bind_some, Option.bind_some, if_pos i00, if_pos i00]
      exact no
  · unfold fA_D_passes fB_M_passes
    rw [cellA_f h.2.2.1 hc, cellB_f h.2.2.2.1 hc (by omega), Option.bind_some, Option.bind_some, if_pos i00, if_pos i00]
    exact no
/-- the first run behind a place among those gone through -/
def FP1 (Q : Nat → Bool) (N L : Nat) (Pr : Nat → Prop) (b : Nat → Nat → Bool) (Y : Nat) (g : G) : Prop :=
  (g.1 51 = nI 1000000 ∧ ∀ q, q < N → Pr q → Q q = true → q < L) ∨
  ∃ q, q < N ∧ Pr q ∧ Q q = true ∧ L ≤ q ∧ (∀ q2, q2 < N → Pr q2 → Q q2 = true → L ≤ q2 → q ≤ q2) ∧ g.1 51 = nI (q / 9) ∧ g.1 52 = nI (ln (b (q % 9)) Y (q / 9)) ∧ g.1 53 = nI (q % 9)
theorem FP1.same {Q : Nat → Bool} {N L : Nat} {Pr Pr' : Nat → Prop} {b : Nat → Nat → Bool} {Y : Nat} {g g' : G} (h : FP1 Q N L Pr b Y g) (hp : ∀ q, q < N → Q q = true → L ≤ q → (Pr' q ↔ Pr q)) (e : g'.1 51 = g.1 51 ∧ g'.1 52 = g.1 52 ∧ g'.1 53 = g.1 53) : FP1 Q N L Pr' b Y g' := by
  unfold FP1
  rw [e.1, e.2.1, e.2.2]
  rcases h with ⟨h1, h2⟩ | ⟨q, h1, h2, h3, h4, h5, h6⟩
  · refine Or.inl ⟨h1, fun q hq hq1 hq2 => ?_⟩
    apply Classical.byContradiction
    intro hl
    have := h2 q hq ((hp q hq hq2 (by omega)).mp hq1) hq2
    omega
  · exact Or.inr ⟨q, h1, (hp q h1 h3 h4).mpr h2, h3, h4, fun q2 a1 a2 a3 a4 => h5 q2 a1 ((hp q2 a1 a3 a4).mp a2) a3 a4, h6⟩
set_option maxHeartbeats 2000000 in
theorem findsB {p : Pl} (hw : WP p) {f : Fl} {g : G} (hP : PB p g) (hN : FB p f g) (hW : WF p f) (hL : LB p f g) {x y : Nat} (hx : x < pC p) (hy : y < pR p) {a : Int32} {kk : Nat} (hk : KK p a kk) {tk of : Nat} (ht : tk < pY p) (ho : of ≤ 8) :
    Sat (fB_M_findsPass (nI (pC p * y + x)) a (nI tk) (nI of) g) (fun r => Fr [50, 51, 52, 53] [23, 24] w0 g r.2 ∧ FP1 (rn kk (kd p f (us p f) x y) (pY p)) (pY p * 9) (tk * 9 + of) (fun _ => True) (kd p f (us p f) x y) (pY p) r.2 ∧ (r.1 = nI 0 ↔ r.2.1 51 = nI 1000000)) := by
  have h1 := hw.c
  have e := cl (C := pC p) (R := pR p) hx hy
  obtain ⟨b, hb⟩ : ∃ b, b = kd p f (us p f) x y := ⟨_, rfl⟩
  obtain ⟨Q, hQ⟩ : ∃ Q, Q = rn kk b (pY p) := ⟨_, rfl⟩
  have hQ8 : ∀ q, Q q = true → q % 9 < pK p := by
    intro q hq
    apply Classical.byContradiction
    intro hl
    rw [hQ] at hq
    unfold rn at hq
    rw [hk.2.1 _ (by omega)] at hq
    exact absurd hq (by simp)
  rw [← hb, ← hQ]
  unfold fB_M_findsPass
  rw [bv_eq]
  refine Sat.lp (fun c s => ∃ g', s = (nI c, g') ∧ Fr [50, 51, 52, 53] [23, 24] w0 g g' ∧ FP1 Q (pY p * 9) (tk * 9 + of) (fun q => q % 9 < c) b (pY p) g') (pK p) (by omega) ⟨_, rfl, Fr.rf.sS (by simp), Or.inl ⟨rfl, fun q _ h0 _ => by omega⟩⟩ ?_ ?_
  · rintro rec c _ hc ⟨g1, rfl, F1, I1⟩ hrec
    have P1 := hP.fr F1 (by simp) (by simp)
    have N1 := hN.fr F1 (by simp)
    have L1 := hL.fr F1 (by simp)
    have hkc := hk.2.2 c hc
    simp only []
    rw [P1.1.2.2.2.2.1, if_neg (nI_ge hc (by omega))]
    simp only [lj_eq]
    have go : kk.testBit c = true → Sat (Option.bind (fB_M_upSet g1) fun x5 => Option.bind (fB_M_laysStretches (nI (pC p * y + x)) (x5 &&& ((1 : Int32) <<< (nI c &&& 31))) 1 g1) fun x6 => Lp (α := Int32 × G) (fun rec7 s7 => (if (s7.2.1 50) ≤ s7.1 then rec (nI c + 1, s7.2) else ag 240 (s7.2.2.1 23) s7.1 fun x8 => (if nI tk < x8 then (if (1 : Int32) = 0 then rec7 (s7.1 + 1, s7.2) else ag 240 (s7.2.2.1 23) s7.1 fun x11 => (if x11 < (s7.2.1 51) then ag 240 (s7.2.2.1 23) s7.1 fun x12 => bv (sS s7.2 51 x12) fun g13 => ag 240 (g13.2.1 24) s7.1 fun x14 => bv (sS g13 52 x14) fun g15 => bv (sS g15 53 (nI c)) fun g16 => rec7 (s7.1 + 1, g16) else rec7 (s7.1 + 1, s7.2))) else ag 240 (s7.2.2.1 23) s7.1 fun x18 => (if x18 = nI tk then (if nI c < nI of then (if (0 : Int32) = 0 then rec7 (s7.1 + 1, s7.2) else ag 240 (s7.2.2.1 23) s7.1 fun x11 => (if x11 < (s7.2.1 51) then ag 240 (s7.2.2.1 23) s7.1 fun x12 => bv (sS s7.2 51 x12) fun g13 => ag 240 (g13.2.1 24) s7.1 fun x14 => bv (sS g13 52 x14) fun g15 => bv (sS g15 53 (nI c)) fun g16 => rec7 (s7.1 + 1, g16) else rec7 (s7.1 + 1, s7.2))) else (if (1 : Int32) = 0 then rec7 (s7.1 + 1, s7.2) else ag 240 (s7.2.2.1 23) s7.1 fun x11 => (if x11 < (s7.2.1 51) then ag 240 (s7.2.2.1 23) s7.1 fun x12 => bv (sS s7.2 51 x12) fun g13 => ag 240 (g13.2.1 24) s7.1 fun x14 => bv (sS g13 52 x14) fun g15 => bv (sS g15 53 (nI c)) fun g16 => rec7 (s7.1 + 1, g16) else rec7 (s7.1 + 1, s7.2)))) else (if (0 : Int32) = 0 then rec7 (s7.1 + 1, s7.2) else ag 240 (s7.2.2.1 23) s7.1 fun x11 => (if x11 < (s7.2.1 51) then ag 240 (s7.2.2.1 23) s7.1 fun x12 => bv (sS s7.2 51 x12) fun g13 => ag 240 (g13.2.1 24) s7.1 fun x14 => bv (sS g13 52 x14) fun g15 => bv (sS g15 53 (nI c)) fun g16 => rec7 (s7.1 + 1, g16) else rec7 (s7.1 + 1, s7.2))))))) FU (0, x6))
        (fun r => Fr [50, 51, 52, 53] [23, 24] w0 g r.2 ∧ FP1 Q (pY p * 9) (tk * 9 + of) (fun _ => True) b (pY p) r.2 ∧ (r.1 = nI 0 ↔ r.2.1 51 = nI 1000000)) := by
      intro hbit
      rw [upSetB hw P1 N1 hW, Option.bind_some]
      simp only [nl]
      rw [n_31 (by omega), n_shl _ (by omega), n_and]
      refine (stretchB hw P1 L1 e.1 true).bind ?_
      rintro g2 ⟨F2, S2⟩
      rw [← kdc hx (by omega), ← hb] at S2
      have lc := cn_le (bg (b c) (pY p)) (pY p)
      have F12 : Fr [50, 51, 52, 53] [23, 24] w0 g g2 := F1.tr F2 (by simp) (by simp) (by simp)
      have hQc : ∀ t, Q (t * 9 + c) = bg (b c) (pY p) t := by
        intro t
        rw [hQ, rn_at (by omega), hbit, Bool.true_and]
      refine Sat.lp (fun k s => ∃ g', s = (nI k, g') ∧ Fr [50, 51, 52, 53] [23, 24] w0 g g' ∧ ST (pY p) (b c) g' ∧ FP1 Q (pY p * 9) (tk * 9 + of) (fun q => q % 9 < c ∨ (q % 9 = c ∧ cn (bg (b c) (pY p)) (q / 9) < k)) b (pY p) g') (cn (bg (b c) (pY p)) (pY p)) (by omega) ⟨g2, rfl, F12, S2, ?_⟩ ?_ ?_
      · exact I1.same (fun q _ _ _ => by omega) ⟨F2.1 51 (by simp), F2.1 52 (by simp), F2.1 53 (by simp)⟩
      · rintro rec7 k _ hkk ⟨g3, rfl, F3, S3, I3⟩ hrec7
        obtain ⟨t, htt, hbt, ek, e23, e24⟩ := S3.at hkk
        have l1 := ln_le (b c) (pY p) t
        have uniq : ∀ q, q < pY p * 9 → Q q = true → q % 9 = c → cn (bg (b c) (pY p)) (q / 9) = k → q = t * 9 + c := by
          intro q hq hq1 hq2 hq3
          have e9 : q = q / 9 * 9 + c := by omega
          have hb2 : bg (b c) (pY p) (q / 9) = true := by rw [← hQc, ← e9]; exact hq1
          have : q / 9 = t := by
            rcases Nat.lt_trichotomy (q / 9) t with l | l | l
            · have m := cn_mono (bg (b c) (pY p)) (show q / 9 + 1 ≤ t by omega)
              rw [cn_t hb2] at m
              omega
            · exact l
            · have m := cn_mono (bg (b c) (pY p)) (show t + 1 ≤ q / 9 by omega)
              rw [cn_t hbt] at m
              omega
          omega
        have skip : (t * 9 + c < tk * 9 + of) → Sat (rec7 (nI (k + 1), g3)) (fun r => Fr [50, 51, 52, 53] [23, 24] w0 g r.2 ∧ FP1 Q (pY p * 9) (tk * 9 + of) (fun _ => True) b (pY p) r.2 ∧ (r.1 = nI 0 ↔ r.2.1 51 = nI 1000000)) := by
          intro hl
          refine hrec7 _ ⟨g3, rfl, F3, S3, I3.same (fun q hq hq1 hq2 => ?_) ⟨rfl, rfl, rfl⟩⟩
          constructor
          · rintro (l | ⟨l1, l2⟩)
            · exact Or.inl l
            · by_cases ee : cn (bg (b c) (pY p)) (q / 9) = k
              · have := uniq q hq hq1 l1 ee
                omega
              · exact Or.inr ⟨l1, by omega⟩
          · rintro (l | ⟨l1, l2⟩)
            · exact Or.inl l
            · exact Or.inr ⟨l1, by omega⟩
        have take : (tk * 9 + of ≤ t * 9 + c) → Sat (if nI t < (g3.1 51) then bv (sS g3 51 (nI t)) fun g13 => ag 240 (g13.2.1 24) (nI k) fun x14 => bv (sS g13 52 x14) fun g15 => bv (sS g15 53 (nI c)) fun g16 => rec7 (nI (k + 1), g16) else rec7 (nI (k + 1), g3)) (fun r => Fr [50, 51, 52, 53] [23, 24] w0 g r.2 ∧ FP1 Q (pY p * 9) (tk * 9 + of) (fun _ => True) b (pY p) r.2 ∧ (r.1 = nI 0 ↔ r.2.1 51 = nI 1000000)) := by
          intro hl
          have new : (∀ q2, q2 < pY p * 9 → (q2 % 9 < c ∨ (q2 % 9 = c ∧ cn (bg (b c) (pY p)) (q2 / 9) < k)) → Q q2 = true → tk * 9 + of ≤ q2 → t * 9 + c ≤ q2) → Sat (bv (sS g3 51 (nI t)) fun g13 => ag 240 (g13.2.1 24) (nI k) fun x14 => bv (sS g13 52 x14) fun g15 => bv (sS g15 53 (nI c)) fun g16 => rec7 (nI (k + 1), g16)) (fun r => Fr [50, 51, 52, 53] [23, 24] w0 g r.2 ∧ FP1 Q (pY p * 9) (tk * 9 + of) (fun _ => True) b (pY p) r.2 ∧ (r.1 = nI 0 ↔ r.2.1 51 = nI 1000000)) := by
            intro hmin
            rw [bv_eq, ag_nI (by omega) (by decide)]
            have e24' : (sS g3 51 (nI t)).2.1 24 k = nI (ln (b c) (pY p) t) := e24
            rw [e24', bv_eq, bv_eq]
            refine hrec7 _ ⟨_, rfl, ((F3.sS (by simp)).sS (by simp)).sS (by simp), S3, Or.inr ⟨t * 9 + c, by omega, Or.inr ⟨by omega, ?_⟩, by rw [hQc]; exact hbt, hl, fun q2 a1 a2 a3 a4 => ?_, ?_, ?_, ?_⟩⟩
            · rw [show (t * 9 + c) / 9 = t by omega]
              omega
            · rcases a2 with l | ⟨m1, m2⟩
              · exact hmin q2 a1 (Or.inl l) a3 a4
              · by_cases ee : cn (bg (b c) (pY p)) (q2 / 9) = k
                · have := uniq q2 a1 a3 m1 ee
                  omega
                · exact hmin q2 a1 (Or.inr ⟨m1, by omega⟩) a3 a4
            · rw [show (t * 9 + c) / 9 = t by omega]
              rfl
            · rw [show (t * 9 + c) / 9 = t by omega, show (t * 9 + c) % 9 = c by omega]
              rfl
            · rw [show (t * 9 + c) % 9 = c by omega]
              rfl
          rcases I3 with ⟨i1, i2⟩ | ⟨q, i1, i2, i3, i4, i5, i6, i7, i8⟩
          · rw [i1, if_pos (nI_lt (by omega) (by decide))]
            exact new (fun q2 a1 a2 a3 a4 => by have := i2 q2 a1 a2 a3; omega)
          · rw [i6]
            have hqc : q % 9 ≤ c := by omega
            by_cases l : t < q / 9
            · rw [if_pos (nI_lt l (by omega))]
              exact new (fun q2 a1 a2 a3 a4 => by have := i5 q2 a1 a2 a3 a4; omega)
            · rw [if_neg (nI_nlt (by omega) (by omega))]
              refine hrec7 _ ⟨g3, rfl, F3, S3, Or.inr ⟨q, i1, ?_, i3, i4, fun q2 a1 a2 a3 a4 => ?_, i6, i7, i8⟩⟩
              · omega
              · rcases a2 with l2 | ⟨m1, m2⟩
                · exact i5 q2 a1 (Or.inl l2) a3 a4
                · by_cases ee : cn (bg (b c) (pY p)) (q2 / 9) = k
                  · have := uniq q2 a1 a3 m1 ee
                    omega
                  · exact i5 q2 a1 (Or.inr ⟨m1, by omega⟩) a3 a4
        simp only []
        rw [S3.1, if_neg (nI_ge hkk (by omega)), ag_nI (by omega) (by decide), e23, ag_nI (by omega) (by decide), e23, ag_nI (by omega) (by decide), e23, nI_add, if_neg (show ¬ nI 1 = nI 0 by decide), if_pos trivial, ag_nI (by omega) (by decide), e23, ite_ltn (by omega) (by omega), ite_eqn (by omega) (by omega), ite_ltn (by omega) (by omega)]
        by_cases a1 : tk < t
        · rw [if_pos a1]
          exact take (by omega)
        · rw [if_neg a1]
          by_cases a2 : t = tk
          · rw [if_pos a2]
            by_cases a3 : c < of
            · rw [if_pos a3]
              exact skip (by omega)
            · rw [if_neg a3]
              exact take (by omega)
          · rw [if_neg a2]
            exact skip (by omega)
      · rintro rec7 _ ⟨g3, rfl, F3, S3, I3⟩
        simp only []
        rw [S3.1, if_pos (nI_le (Nat.le_refl _) (by omega)), nI_add]
        refine hrec _ ⟨g3, rfl, F3, I3.same (fun q hq hq1 hq2 => ?_) ⟨rfl, rfl, rfl⟩⟩
        constructor
        · intro l
          by_cases ee : q % 9 = c
          · refine Or.inr ⟨ee, ?_⟩
            have hb2 : bg (b c) (pY p) (q / 9) = true := by rw [← hQc, show q / 9 * 9 + c = q by omega]; exact hq1
            have m := cn_mono (bg (b c) (pY p)) (show q / 9 + 1 ≤ pY p by omega)
            rw [cn_t hb2] at m
            omega
          · exact Or.inl (by omega)
        · rintro (l | ⟨l, _⟩) <;> omega
    by_cases e1 : a = -1
    · rw [if_pos e1]
      exact go (hkc.mpr (Or.inl e1))
    · rw [if_neg e1]
      by_cases e2 : nI c = a
      · rw [if_pos e2]
        exact go (hkc.mpr (Or.inr e2))
      · rw [if_neg e2, nl, nI_add]
        have hbf : kk.testBit c = false := by
          cases hbb : kk.testBit c
          · rfl
          · rcases hkc.mp hbb with z | z
            · exact absurd z e1
            · exact absurd z e2
        refine hrec _ ⟨g1, rfl, F1, I1.same (fun q _ hq _ => ?_) ⟨rfl, rfl, rfl⟩⟩
        have : q % 9 ≠ c := by
          intro ee
          rw [hQ] at hq
          unfold rn at hq
          rw [ee, hbf] at hq
          exact absurd hq (by simp)
        omega
  · rintro rec _ ⟨g1, rfl, F1, I1⟩
    have P1 := hP.fr F1 (by simp) (by simp)
    simp only []
    rw [P1.1.2.2.2.2.1, if_pos (nI_le (Nat.le_refl _) (by omega))]
    have I2 : FP1 Q (pY p * 9) (tk * 9 + of) (fun _ => True) b (pY p) g1 := I1.same (fun q _ hq _ => ⟨fun _ => hQ8 q hq, fun _ => trivial⟩) ⟨rfl, rfl, rfl⟩
    by_cases z : g1.1 51 = 1000000
    · rw [if_pos z]
      exact Sat.of ⟨F1, I2, ⟨fun _ => z, fun _ => rfl⟩⟩
    · rw [if_neg z]
      exact Sat.of ⟨F1, I2, ⟨fun hh => absurd (show (1 : Int32) = nI 0 from hh) (by decide), fun hh => absurd hh z⟩⟩
