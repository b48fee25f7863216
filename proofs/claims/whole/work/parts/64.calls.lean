/-! THE CALLS: what is told, what is counted -/
theorem i10 : ¬ nI 1 = (0 : Int32) := by decide
theorem i00 : nI 0 = (0 : Int32) := rfl
theorem cn8 {K : Nat} (hK : K ≤ 8) (b : Nat → Bool) : cn (fun c => decide (c < K) && b c) 8 = cn b K := by
  obtain ⟨d, hd⟩ := Nat.exists_eq_add_of_le hK
  have z : cn (fun i => (fun c => decide (c < K) && b c) (K + i)) d = 0 := cn_0 (fun i _ => by
    have : ¬ K + i < K := by omega
    simp [this])
  rw [hd, cn_add, z, Nat.add_zero]
  exact cn_cong (fun i hi => by simp [hi])
/-- the craft of a plane -/
def ci (p : Pl) (q : Nat) : Nat := mk (fun c => decide (c < pK p) && decide (hm p c = q)) 8
theorem ci_lt (p : Pl) (q : Nat) : ci p q < 256 := mk_lt _ 8
theorem pc_us {p : Pl} (hK : pK p ≤ 8) (f : Fl) : pc (us p f) = cn (fun c => decide (fup f c = 1)) (pK p) := by
  unfold us
  rw [pc_mk (by decide), cn8 hK]
theorem and_mk {a b : Nat → Bool} {n : Nat} : mk a n &&& mk b n = mk (fun i => a i && b i) n := by
  apply Nat.eq_of_testBit_eq
  intro i
  rw [Nat.testBit_and, mk_bit, mk_bit, mk_bit]
  cases decide (i < n) <;> simp
theorem pc_ci {p : Pl} (hK : pK p ≤ 8) (f : Fl) (q : Nat) : pc (ci p q &&& us p f) = cn (fun c => decide (hm p c = q) && decide (fup f c = 1)) (pK p) := by
  unfold us ci
  rw [and_mk, pc_mk (by decide)]
  rw [← cn8 hK]
  apply cn_cong
  intro i _
  cases decide (i < pK p) <;> simp
theorem upAllB {p : Pl} {f : Fl} {g : G} (hK : pK p ≤ 8) (hP : PB p g) (hF : FB p f g) (hW : WF p f) : fB_M_upMany (-1) g = some (nI (pc (us p f))) := by
  apply Sat.eq
  unfold fB_M_upMany
  refine Sat.lp (fun c s => s = (nI (cn (fun c => decide (fup f c = 1)) c), nI c)) (pK p) (by omega) rfl ?_ ?_
  · rintro rec c _ hc rfl hrec
    have hw := hW.2 c hc
    simp only []
    rw [hP.1.2.2.2.2.1, if_neg (nI_ge hc (by omega)), lj_eq, lj_eq, if_pos trivial]
    dsimp only
    rw [nl, nI_add, ag_nI (by omega) (by decide), (hF.2 c hc).1]
    rw [nI_add, bv_eq, nl, nI_add]
    refine hrec _ ?_
    by_cases hu : fup f c = 1
    · rw [cn_t (decide_eq_true hu), hu]
    · rw [cn_f (decide_eq_false hu), show fup f c = 0 by omega]
      rfl
  · rintro rec _ rfl
    simp only []
    rw [hP.1.2.2.2.2.1, if_pos (nI_le (Nat.le_refl _) (by omega)), pc_us hK]
    exact Sat.of rfl
theorem upInB {p : Pl} (h : WP p) {f : Fl} {g : G} (hP : PB p g) (hF : FB p f g) (hW : WF p f) {q : Nat} (hq : q < 2 ^ 31) : fB_M_upMany (nI q) g = some (nI (pc (ci p q &&& us p f))) := by
  have h1 := h.c
  apply Sat.eq
  unfold fB_M_upMany
  refine Sat.lp (fun c s => s = (nI (cn (fun c => decide (hm p c = q) && decide (fup f c = 1)) c), nI c)) (pK p) (by omega) rfl ?_ ?_
  · rintro rec c _ hc rfl hrec
    have hw := hW.2 c hc
    have hh := h.h hc
    have nm : ¬ nI q = -1 := fun e => (n_ne_m1 hq).mp e
    simp only []
    rw [hP.1.2.2.2.2.1, if_neg (nI_ge hc (by omega)), lj_eq, lj_eq, if_neg nm, ag_nI (by omega) (by decide), hP.2.2.1 c hc, ite_eqn (by omega) hq]
    rw [nl, nI_add, ag_nI (by omega) (by decide), (hF.2 c hc).1]
    dsimp only
    simp only [nl]
    rw [nI_add, bv_eq, nI_add, nI_add, bv_eq]
    by_cases e : hm p c = q
    · rw [if_pos e]
      refine hrec _ ?_
      by_cases hu : fup f c = 1
      · rw [cn_t (by simp [e, hu]), hu]
      · rw [cn_f (by simp [hu]), show fup f c = 0 by omega]
        rfl
    · rw [if_neg e]
      refine hrec _ ?_
      rw [cn_f (by simp [e])]
      rfl
  · rintro rec _ rfl
    simp only []
    rw [hP.1.2.2.2.2.1, if_pos (nI_le (Nat.le_refl _) (by omega)), pc_ci (by omega)]
    exact Sat.of rfl
theorem craftInA {p : Pl} {g : G} (hK : pK p ≤ 8) (hw : ∀ c, c < pK p → hm p c < 4) (hP : PA p g) {q : Nat} (hq : q < 2 ^ 31) : fA_Plan_craftIn (nI q) g = some (nI (ci p q)) := by
  apply Sat.eq
  unfold fA_Plan_craftIn
  refine Sat.lp (fun c s => s = (nI (mk (fun i => decide (i < c) && decide (hm p i = q)) 8), nI c)) (pK p) (by omega) (by rw [mkp_0]; rfl) ?_ ?_
  · rintro rec c _ hc rfl hrec
    have hh := hw c hc
    have e2 := mkp_succ (fun i => decide (hm p i = q)) (show c < 8 by omega)
    simp only []
    simp only [nl]
    rw [hP.1.2.2.2.2.2.2.1, if_neg (nI_ge hc (by omega)), ag_nI (by omega) (by decide), (hP.2.2.1 c hc).1, lj_eq, ite_eqn (by omega) hq, n_31 (k := c) (by omega), n_shl _ (by omega), n_or, bv_eq, nI_add]
    by_cases e : hm p c = q
    · rw [if_pos e]
      refine hrec _ ?_
      rw [decide_eq_true e] at e2
      rw [← e2]
      rfl
    · rw [if_neg e]
      refine hrec _ ?_
      rw [decide_eq_false e] at e2
      rw [← e2]
      simp
  · rintro rec _ rfl
    simp only []
    rw [hP.1.2.2.2.2.2.2.1, if_pos (nI_le (Nat.le_refl _) (by omega))]
    exact Sat.of rfl
theorem RS.hm4 {p : Pl} {f : Fl} {gA gB : G} (h : RS p f gA gB) : ∀ c, c < pK p → hm p c < 4 := by
  intro c hc
  have w := h.wp (by omega)
  have := w.h hc
  have := w.c
  omega
theorem c_fault {p : Pl} {f : Fl} {gA gB : G} (h : RS p f gA gB) (a : Int32) : Eq1 (fA_D_fault a gA) (fB_M_fault a gB) := by
  obtain ⟨r1, r2, r3, r4, r5, r6, r7, r8, r9, r10, r11, r12, r13, r14, r15, r16⟩ := h
  unfold fA_D_fault fB_M_fault
  rw [r10.1, r10.2]
  split
  · exact ⟨_, rfl, rfl⟩
  · split <;> exact ⟨_, rfl, rfl⟩
theorem c_status {p : Pl} {f : Fl} {gA gB : G} (h : RS p f gA gB) (a : Int32) : Eq1 (fA_D_status a gA) (fB_M_status a gB) := by
  obtain ⟨r1, r2, r3, r4, r5, r6, r7, r8, r9, r10, r11, r12, r13, r14, r15, r16⟩ := h
  unfold fA_D_status fB_M_status
  rw [show (6 : Int32) = nI 6 from rfl]
  by_cases hx : rg 6 a
  · obtain ⟨j, hj, rfl⟩ := hx
    rw [A_t hj (by decide), inB_t hj (by decide) (by decide), Option.bind_some, if_neg i10, ag_nI hj (by decide), ag_nI hj (by decide), r9 j hj]
    exact ⟨_, rfl, rfl⟩
  · rw [A_f hx, inB_f hx (by decide) (by decide), Option.bind_some, if_pos i00]
    exact ⟨_, rfl, rfl⟩
theorem c_octet {p : Pl} {f : Fl} {gA gB : G} (h : RS p f gA gB) (a : Int32) : Eq1 (fA_D_octet a gA) (fB_M_octet a gB) := by
  obtain ⟨r1, r2, r3, r4, r5, r6, r7, r8, r9, r10, ⟨n, hn, e1, e2, e3⟩, r12, r13, r14, r15, r16⟩ := h
  unfold fA_D_octet fB_M_octet
  rw [e1, e2]
  by_cases hx : rg n a
  · obtain ⟨j, hj, rfl⟩ := hx
    rw [A_t hj (by omega), inB_t hj (by omega) rfl, Option.bind_some, if_neg i10, ag_nI (by omega) (by decide), ag_nI (by omega) (by decide), e3 j hj]
    exact ⟨_, rfl, rfl⟩
  · rw [A_f hx, inB_f hx (by omega) rfl, Option.bind_some, if_pos i00]
    exact ⟨_, rfl, rfl⟩
theorem c_width {p : Pl} {f : Fl} {gA gB : G} (h : RS p f gA gB) (a : Int32) : Eq1 (fA_D_width a gA) (fB_M_width a gB) := by
  have hl := h.lt
  have hw := h.wp
  obtain ⟨r1, r2, r3, r4, r5, r6, r7, r8, r9, r10, r11, r12, r13, r14, r15, r16⟩ := h
  unfold fA_D_width fB_M_width
  rw [r3.1.2.1, r4.1.2.1]
  by_cases hx : rg (pR p) a
  · obtain ⟨j, hj, rfl⟩ := hx
    rw [A_t hj (by omega), inB_t hj (by omega) rfl, Option.bind_some, if_neg i10, ag_nI (by omega) (by decide), r3.2.2.2.2 j hj, widthB (hw (by omega)) r4 hj]
    exact ⟨_, rfl, rfl⟩
  · rw [A_f hx, inB_f hx (by omega) rfl, Option.bind_some, if_pos i00]
    exact ⟨_, rfl, rfl⟩
theorem isUpA {p : Pl} {f : Fl} {g : G} {u n : Nat} (hu : g.1 2700 = nI (us p f)) {c : Nat} (hc : c < pK p) (hK : pK p ≤ 8) : fA_Fleet_isUp (nI c) g = some (bI (decide (fup f c = 1))) := by
  unfold fA_Fleet_isUp
  rw [hu]
  simp only [nl]
  have := us_lt p f
  rw [n_31 (k := c) (by omega), n_shr (by omega) (by omega), n_and, n_bit]
  unfold us
  rw [mk_bit]
  have h8 : c < 8 := by omega
  simp only [h8, hc, decide_true, Bool.true_and]
  cases decide (fup f c = 1) <;> rfl
theorem c_craft {p : Pl} {f : Fl} {gA gB : G} (h : RS p f gA gB) (a b : Int32) : Eq1 (fA_D_craft a b gA) (fB_M_craft a b gB) := by
  have hl := h.lt
  obtain ⟨r1, r2, r3, r4, r5, r6, r7, r8, r9, r10, r11, r12, r13, r14, r15, r16⟩ := h
  unfold fA_D_craft fB_M_craft
  by_cases hx : rg (pK p) a
  · obtain ⟨c, hc, rfl⟩ := hx
    rw [craftA_t r3 hc (by omega), craftB_t r4 hc (by omega), Option.bind_some, Option.bind_some, if_neg i10, if_neg i10]
    simp only [nl]
    rw [ag_nI (by omega) (by decide), ag_nI (by omega) (by decide), ag_nI (by omega) (by decide), ag_nI (by omega) (by decide), nI_add, ag_nI (by omega) (by decide), nI_add, ag_nI (by omega) (by decide), nI_add, ag_nI (by omega) (by decide)]
    by_cases e : b = nI 0
    · rw [if_pos e, if_pos e, (r3.2.2.1 c hc).1, r4.2.2.1 c hc]
      exact ⟨_, rfl, rfl⟩
    · rw [if_neg e, if_neg e]
      by_cases e : b = nI 1
      · rw [if_pos e, if_pos e, (r6.2 c hc).2.1]
        exact ⟨_, congrArg some (r5.2.2 c hc).1, rfl⟩
      · rw [if_neg e, if_neg e]
        by_cases e : b = nI 2
        · rw [if_pos e, if_pos e, (r6.2 c hc).2.2]
          exact ⟨_, congrArg some (r5.2.2 c hc).2, rfl⟩
        · rw [if_neg e, if_neg e]
          by_cases e : b = nI 3
          · rw [if_pos e, if_pos e, (r6.2 c hc).1, isUpA (u := 0) (n := 0) r5.1 hc (by omega), Option.bind_some]
            refine ⟨_, ?_, rfl⟩
            have := (r7.2 c hc).2.2
            by_cases hu : fup f c = 1
            · rw [hu]; rfl
            · rw [show fup f c = 0 by omega]; rfl
          · rw [if_neg e, if_neg e]
            exact ⟨_, rfl, rfl⟩
  · rw [craftA_f r3 hx, craftB_f r4 hx (by omega), Option.bind_some, Option.bind_some, if_pos i00, if_pos i00]
    exact ⟨_, rfl, rfl⟩
theorem c_plane {p : Pl} {f : Fl} {gA gB : G} (h : RS p f gA gB) (a b : Int32) : Eq1 (fA_D_plane a b gA) (fB_M_plane a b gB) := by
  have hl := h.lt
  have h4 := h.hm4
  obtain ⟨r1, r2, r3, r4, r5, r6, r7, r8, r9, r10, r11, r12, r13, r14, r15, r16⟩ := h
  unfold fA_D_plane fB_M_plane
  by_cases hx : rg (pP p) a
  · obtain ⟨q, hq, rfl⟩ := hx
    rw [planeA_t r3 hq (by omega), planeB_t r4 hq (by omega), Option.bind_some, Option.bind_some, if_neg i10, if_neg i10]
    have fin : (Lp (α := Int32 × Int32) (fun rec2 s2 => (if (gB.1 5) ≤ s2.2 then (if b = 0 then ag 28 (gB.2.1 20) (0 + nI q) fun x5 => some x5 else (if b = 1 then ag 4 (gB.2.1 2) (nI q) fun x4 => some x4 else (if b = 2 then ag 4 (gB.2.1 3) (nI q) fun x3 => some x3 else (if b = 3 then some s2.1 else some (-1))))) else ag 8 (gB.2.1 4) s2.2 fun x6 => lj (α := Int32) (fun b7 => bv (s2.1 + b7) fun x8 => rec2 (x8, s2.2 + 1)) fun J7 => (if x6 = nI q then J7 1 else J7 0))) FU (0, 0)) = (if b = 0 then some (gB.2.1 20 q) else (if b = 1 then some (gB.2.1 2 q) else (if b = 2 then some (gB.2.1 3 q) else (if b = 3 then some (nI (pc (ci p q))) else some (-1))))) := by
      have e8 : pc (ci p q) = cn (fun c => decide (hm p c = q)) (pK p) := by
        unfold ci
        rw [pc_mk (by decide), cn8 (by omega)]
      obtain ⟨t, et⟩ : ∃ t, (if b = 0 then some (gB.2.1 20 q) else (if b = 1 then some (gB.2.1 2 q) else (if b = 2 then some (gB.2.1 3 q) else (if b = 3 then some (nI (pc (ci p q))) else some (-1))))) = some t := by
        split
        · exact ⟨_, rfl⟩
        · split
          · exact ⟨_, rfl⟩
          · split
            · exact ⟨_, rfl⟩
            · split <;> exact ⟨_, rfl⟩
      rw [et]
      apply Sat.eq
      refine Sat.lp (fun c s => s = (nI (cn (fun c => decide (hm p c = q)) c), nI c)) (pK p) (by omega) rfl ?_ ?_
      · rintro rec c _ hc rfl hrec
        have hh := h4 c hc
        simp only []
        simp only [nl]
        rw [r4.1.2.2.2.2.1, if_neg (nI_ge hc (by omega)), ag_nI (by omega) (by decide), r4.2.2.1 c hc, lj_eq, ite_eqn (by omega) (by omega)]
        dsimp only
        rw [bv_eq, bv_eq, nI_add, nI_add, nI_add]
        by_cases e : hm p c = q
        · rw [if_pos e]
          exact hrec _ (by rw [cn_t (decide_eq_true e)])
        · rw [if_neg e]
          exact hrec _ (by rw [cn_f (decide_eq_false e)]; rfl)
      · rintro rec _ rfl
        simp only []
        rw [r4.1.2.2.2.2.1, if_pos (nI_le (Nat.le_refl _) (by omega)), ag_nI (by omega) (by decide), ag_nI (by omega) (by decide), ← e8]
        have z : (0 : Int32) + nI q = nI q := by rw [nl, nI_add, Nat.zero_add]
        rw [z, ag_nI (by omega) (by decide), et]
        exact Sat.of rfl
    rw [fin, r6.1 q hq, (r4.2.1 q hq).1, (r4.2.1 q hq).2, ag_nI (by omega) (by decide), ag_nI (by omega) (by decide), ag_nI (by omega) (by decide), (r3.2.1 q hq).1, (r3.2.1 q hq).2.1, craftInA (by omega) h4 r3 (by omega), Option.bind_some, bitCount_eq (Nat.lt_trans (ci_lt p q) (by decide)), Option.bind_some]
    have e28 : gA.2.1 28 q = nI (fnd f q) := r5.2.1 q hq
    rw [e28]
    split
    · exact ⟨_, rfl, rfl⟩
    · split
      · exact ⟨_, rfl, rfl⟩
      · split
        · exact ⟨_, rfl, rfl⟩
        · split <;> exact ⟨_, rfl, rfl⟩
  · rw [planeA_f r3 hx, planeB_f r4 hx (by omega), Option.bind_some, Option.bind_some, if_pos i00, if_pos i00]
    exact ⟨_, rfl, rfl⟩
