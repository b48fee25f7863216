/-! THE CALLS: lose, find, phase, reach, node, feed, end, seed -/
/-- a fleet, changed at one place -/
def fw (f : Fl) (a i v : Nat) : Fl := fun b j => if b = a ∧ j = i then v else f b j
theorem us_bit {p : Pl} {f : Fl} {c : Nat} (hK : pK p ≤ 8) : (us p f).testBit c = (decide (c < pK p) && decide (fup f c = 1)) := by
  unfold us
  rw [mk_bit]
  by_cases h : c < pK p
  · have : c < 8 := by omega
    simp [h, this]
  · simp [h]
theorem RS.ref {p : Pl} {f : Fl} {gA gB : G} (h : RS p f gA gB) (hA : CA p f gA) (hB : CB p f gB) {k : Nat} (hk : k < 6) : Rel (sA gA 145 k (gA.2.1 145 k + 1)) (sA gB 18 k (gB.2.1 18 k + 1)) := by
  have FA' : Fr [] [145] w0 gA (sA gA 145 k (gA.2.1 145 k + 1)) := Fr.rf.sA (by simp)
  have FB' : Fr [] [18] w0 gB (sA gB 18 k (gB.2.1 18 k + 1)) := Fr.rf.sA (by simp)
  refine ⟨p, f, ?_, hA.fr FA' (by simp) (by simp), hB.fr FB' (by simp) (by simp)⟩
  obtain ⟨r1, r2, r3, r4, r5, r6, r7, r8, r9, r10, r11, r12, r13, r14, r15, r16⟩ := h
  refine ⟨r1, r2, r3.fr FA' (by simp) (by simp), r4.fr FB' (by simp) (by simp), r5.fr FA' (by simp) (by simp), r6.fr FB' (by simp), r7, r8.fr FA' FB' (by simp), fun i hi => ?_, r10, r11.fr FA' FB' (by simp), r12.fr FA' FB' ⟨rfl, by simp⟩, r13.fr FA' FB' (by simp) (by simp) (by simp), r14.fr FA' FB' (by simp) (by simp) (by simp), r15.fr FA' rfl, r16⟩
  show upd (gA.2.1 145) k (gA.2.1 145 k + 1) i = upd (gB.2.1 18) k (gB.2.1 18 k + 1) i
  by_cases e : i = k
  · subst e
    rw [upd_self, upd_self, r9 i hi]
  · rw [upd_ne _ _ e, upd_ne _ _ e, r9 i hi]
theorem refuseA {k : Nat} (hk : k < 6) (g : G) : fA_D_refuse (nI k) g = some ((-1), sA g 145 k (g.2.1 145 k + 1)) := by
  unfold fA_D_refuse
  rw [ag_nI hk (by decide), ck_nI hk (by decide), nI_clamp (by omega), bv_eq]
theorem refusedA {k : Nat} (hk : k < 6) (g : G) : fA_D_refused (nI k) g = some (0, sA g 145 k (g.2.1 145 k + 1)) := by
  unfold fA_D_refused
  rw [ag_nI hk (by decide), ck_nI hk (by decide), nI_clamp (by omega), bv_eq]
theorem refuseB {k : Nat} (hk : k < 6) (g : G) : fB_M_refuses (nI k) g = some ((-1), sA g 18 k (g.2.1 18 k + 1)) := by
  unfold fB_M_refuses
  rw [ag_nI hk (by decide), ck_nI hk (by decide), nI_clamp (by omega), bv_eq]
theorem refusedB {k : Nat} (hk : k < 6) (g : G) : fB_M_isRefused (nI k) g = some (0, sA g 18 k (g.2.1 18 k + 1)) := by
  unfold fB_M_isRefused
  rw [ag_nI hk (by decide), ck_nI hk (by decide), nI_clamp (by omega), bv_eq]
theorem bt0 {β : Type} {k : Option β} : bt 0 k = k := rfl
/-- both refuse -/
theorem no2 {p : Pl} {f : Fl} {gA gB : G} (h : RS p f gA gB) (hA : CA p f gA) (hB : CB p f gB) {k : Nat} (hk : k < 6) : Eq2 (Option.bind (fA_D_refused (nI k) gA) fun x3 => bt x3.1 (some (x3.1, x3.2))) (Option.bind (fB_M_isRefused (nI k) gB) fun x3 => bt x3.1 (some (x3.1, x3.2))) := by
  rw [refusedA hk, refusedB hk, Option.bind_some, Option.bind_some]
  exact ⟨_, _, _, rfl, rfl, h.ref hA hB hk⟩
theorem no3 {p : Pl} {f : Fl} {gA gB : G} (h : RS p f gA gB) (hA : CA p f gA) (hB : CB p f gB) {k : Nat} (hk : k < 6) : Eq2 (Option.bind (fA_D_refuse (nI k) gA) fun x3 => some (x3.1, x3.2)) (Option.bind (fB_M_refuses (nI k) gB) fun x3 => some (x3.1, x3.2)) := by
  rw [refuseA hk, refuseB hk, Option.bind_some, Option.bind_some]
  exact ⟨_, _, _, rfl, rfl, h.ref hA hB hk⟩
/-- in the midst of an act -/
def Ch (p : Pl) (gA gB : G) : Prop := ∃ f, RS p f gA gB ∧ SK p gA ∧ gA.1 18 = nI 0 ∧ gB.1 47 = nI 0
theorem Ch.rel {p : Pl} {gA gB : G} (h : Ch p gA gB) : Rel gA gB := by
  obtain ⟨f, h1, h2, h3, h4⟩ := h
  exact ⟨p, f, h1, fun _ => ⟨h2, Or.inl h3⟩, fun _ => Or.inl h4⟩
theorem Ch.act {p : Pl} {f f' : Fl} {gA gB gA' gB' : G} (h : RS p f gA gB) (hS : SK p gA) (e1 : gA.1 18 = nI 0) (e2 : gB.1 47 = nI 0) (hw : WF p f') (a : FA p f' 2700 27 gA') (b : FB p f' gB') (fA : Fr [2700] [28, 29, 30] w0 gA gA') (fB : Fr [] [20] w0 gB gB') : Ch p gA' gB' :=
  ⟨f', h.fleet hw a b (fA.wd (by simp) (by simp) (by simp)) (fB.wd (by simp) (by simp) (by simp)), hS.fr fA (by simp) (by simp), (fA.1 18 (by simp)).trans e1, (fB.1 47 (by simp)).trans e2⟩
theorem fup_fw {f : Fl} {i v j : Nat} : fup (fw f 3 i v) j = if j = i then v else fup f j := by
  unfold fup fw
  by_cases e : j = i <;> simp [e]
theorem fnd_fw {f : Fl} {a i v j : Nat} (h : a ≠ 0) : fnd (fw f a i v) j = fnd f j := by
  unfold fnd fw
  rw [if_neg (by omega)]
theorem fph_fw {f : Fl} {a i v j : Nat} (h : a ≠ 1) : fph (fw f a i v) j = fph f j := by
  unfold fph fw
  rw [if_neg (by omega)]
theorem frc_fw {f : Fl} {a i v j : Nat} (h : a ≠ 2) : frc (fw f a i v) j = frc f j := by
  unfold frc fw
  rw [if_neg (by omega)]
theorem fup_fw' {f : Fl} {a i v j : Nat} (h : a ≠ 3) : fup (fw f a i v) j = fup f j := by
  unfold fup fw
  rw [if_neg (by omega)]
theorem fnd_fs {f : Fl} {i v j : Nat} : fnd (fw f 0 i v) j = if j = i then v else fnd f j := by
  unfold fnd fw
  by_cases e : j = i <;> simp [e]
theorem fph_fs {f : Fl} {i v j : Nat} : fph (fw f 1 i v) j = if j = i then v else fph f j := by
  unfold fph fw
  by_cases e : j = i <;> simp [e]
theorem frc_fs {f : Fl} {i v j : Nat} : frc (fw f 2 i v) j = if j = i then v else frc f j := by
  unfold frc fw
  by_cases e : j = i <;> simp [e]
theorem us_same {p : Pl} {f : Fl} {a i v : Nat} (h : a ≠ 3) : us p (fw f a i v) = us p f := by
  unfold us
  simp only [fup_fw' h]
/-- one craft is turned over -/
theorem turn2 {p : Pl} {f : Fl} {gA gB : G} (h : RS p f gA gB) (hS : SK p gA) (e1 : gA.1 18 = nI 0) (e2 : gB.1 47 = nI 0) {c : Nat} (hc : c < pK p) {v : Nat} (hv : v = 1 - fup f c) :
    Ch p (sS gA 2700 (gA.1 2700 ^^^ ((1 : Int32) <<< (nI c &&& 31)))) (sA gB 20 (4 + c) (nI v)) := by
  have hl := h.lt
  have r5 := h.2.2.2.2.1
  have r6 := h.2.2.2.2.2.1
  have r7 := h.2.2.2.2.2.2.1
  have w := r7.2 c hc
  refine Ch.act (f' := fw f 3 c v) h hS e1 e2 ⟨fun q hq => by rw [fnd_fw (by decide)]; exact r7.1 q hq, fun d hd => ?_⟩ ⟨?_, fun q hq => by rw [fnd_fw (by decide)]; exact r5.2.1 q hq, fun d hd => by rw [fph_fw (by decide), frc_fw (by decide)]; exact r5.2.2 d hd⟩ ⟨fun q hq => ?_, fun d hd => ⟨?_, ?_, ?_⟩⟩ (Fr.rf.sS (by simp)) (Fr.rf.sA (by simp))
  · have w2 := r7.2 d hd
    rw [fph_fw (by decide), frc_fw (by decide), fup_fw]
    refine ⟨w2.1, w2.2.1, ?_⟩
    split <;> omega
  · show gA.1 2700 ^^^ ((1 : Int32) <<< (nI c &&& 31)) = nI _
    rw [r5.1]
    simp only [nl]
    rw [n_31 (by omega), n_shl _ (by omega), n_xor]
    congr 1
    apply Nat.eq_of_testBit_eq
    intro i
    rw [Nat.testBit_xor, one_bit (by omega), us_bit (by omega), us_bit (by omega), fup_fw]
    by_cases e : i = c
    · subst e
      have : fup f i = 0 ∨ fup f i = 1 := by omega
      rcases this with z | z
      · simp [hc, z, hv]
      · simp [hc, z, hv]
    · simp [e]
  · rw [fnd_fw (by decide)]
    show upd (gB.2.1 20) (4 + c) (nI v) q = _
    rw [upd_ne _ _ (by omega)]
    exact r6.1 q hq
  · show upd (gB.2.1 20) (4 + c) (nI v) (4 + d) = _
    rw [fup_fw]
    by_cases e : d = c
    · rw [e, upd_self, if_pos rfl]
    · rw [upd_ne _ _ (by omega), if_neg e]
      exact (r6.2 d hd).1
  · rw [fph_fw (by decide)]
    show upd (gB.2.1 20) (4 + c) (nI v) (12 + d) = _
    rw [upd_ne _ _ (by omega)]
    exact (r6.2 d hd).2.1
  · rw [frc_fw (by decide)]
    show upd (gB.2.1 20) (4 + c) (nI v) (20 + d) = _
    rw [upd_ne _ _ (by omega)]
    exact (r6.2 d hd).2.2
theorem phase2 {p : Pl} {f : Fl} {gA gB : G} (h : RS p f gA gB) (hS : SK p gA) (e1 : gA.1 18 = nI 0) (e2 : gB.1 47 = nI 0) {c : Nat} (hc : c < pK p) {v : Nat} (hv : v < tu p (hm p c)) :
    Ch p (sA gA 29 c (nI v)) (sA gB 20 (12 + c) (nI v)) := by
  have hl := h.lt
  have r5 := h.2.2.2.2.1
  have r6 := h.2.2.2.2.2.1
  have r7 := h.2.2.2.2.2.2.1
  refine Ch.act (f' := fw f 1 c v) h hS e1 e2 ⟨fun q hq => by rw [fnd_fw (by decide)]; exact r7.1 q hq, fun d hd => ?_⟩ ⟨?_, fun q hq => by rw [fnd_fw (by decide)]; exact r5.2.1 q hq, fun d hd => ⟨?_, by rw [frc_fw (by decide)]; exact (r5.2.2 d hd).2⟩⟩ ⟨fun q hq => ?_, fun d hd => ⟨?_, ?_, ?_⟩⟩ (Fr.rf.sA (by simp)) (Fr.rf.sA (by simp))
  · have w2 := r7.2 d hd
    rw [fph_fs, frc_fw (by decide), fup_fw' (by decide)]
    refine ⟨?_, w2.2.1, w2.2.2⟩
    by_cases e : d = c
    · rw [if_pos e, e]; exact hv
    · rw [if_neg e]; exact w2.1
  · rw [us_same (by decide)]
    exact r5.1
  · show upd (gA.2.1 29) c (nI v) d = _
    rw [fph_fs]
    by_cases e : d = c
    · rw [e, upd_self, if_pos rfl]
    · rw [upd_ne _ _ e, if_neg e]
      exact (r5.2.2 d hd).1
  · rw [fnd_fw (by decide)]
    show upd (gB.2.1 20) (12 + c) (nI v) q = _
    rw [upd_ne _ _ (by omega)]
    exact r6.1 q hq
  · rw [fup_fw' (by decide)]
    show upd (gB.2.1 20) (12 + c) (nI v) (4 + d) = _
    rw [upd_ne _ _ (by omega)]
    exact (r6.2 d hd).1
  · show upd (gB.2.1 20) (12 + c) (nI v) (12 + d) = _
    rw [fph_fs]
    by_cases e : d = c
    · rw [e, upd_self, if_pos rfl]
    · rw [upd_ne _ _ (by omega), if_neg e]
      exact (r6.2 d hd).2.1
  · rw [frc_fw (by decide)]
    show upd (gB.2.1 20) (12 + c) (nI v) (20 + d) = _
    rw [upd_ne _ _ (by omega)]
    exact (r6.2 d hd).2.2
theorem reach2 {p : Pl} {f : Fl} {gA gB : G} (h : RS p f gA gB) (hS : SK p gA) (e1 : gA.1 18 = nI 0) (e2 : gB.1 47 = nI 0) {c : Nat} (hc : c < pK p) {v : Nat} (hv : v ≤ 12) :
    Ch p (sA gA 30 c (nI v)) (sA gB 20 (20 + c) (nI v)) := by
  have hl := h.lt
  have r5 := h.2.2.2.2.1
  have r6 := h.2.2.2.2.2.1
  have r7 := h.2.2.2.2.2.2.1
  refine Ch.act (f' := fw f 2 c v) h hS e1 e2 ⟨fun q hq => by rw [fnd_fw (by decide)]; exact r7.1 q hq, fun d hd => ?_⟩ ⟨?_, fun q hq => by rw [fnd_fw (by decide)]; exact r5.2.1 q hq, fun d hd => ⟨by rw [fph_fw (by decide)]; exact (r5.2.2 d hd).1, ?_⟩⟩ ⟨fun q hq => ?_, fun d hd => ⟨?_, ?_, ?_⟩⟩ (Fr.rf.sA (by simp)) (Fr.rf.sA (by simp))
  · have w2 := r7.2 d hd
    rw [frc_fs, fph_fw (by decide), fup_fw' (by decide)]
    refine ⟨w2.1, ?_, w2.2.2⟩
    by_cases e : d = c
    · rw [if_pos e]; exact hv
    · rw [if_neg e]; exact w2.2.1
  · rw [us_same (by decide)]
    exact r5.1
  · show upd (gA.2.1 30) c (nI v) d = _
    rw [frc_fs]
    by_cases e : d = c
    · rw [e, upd_self, if_pos rfl]
    · rw [upd_ne _ _ e, if_neg e]
      exact (r5.2.2 d hd).2
  · rw [fnd_fw (by decide)]
    show upd (gB.2.1 20) (20 + c) (nI v) q = _
    rw [upd_ne _ _ (by omega)]
    exact r6.1 q hq
  · rw [fup_fw' (by decide)]
    show upd (gB.2.1 20) (20 + c) (nI v) (4 + d) = _
    rw [upd_ne _ _ (by omega)]
    exact (r6.2 d hd).1
  · rw [fph_fw (by decide)]
    show upd (gB.2.1 20) (20 + c) (nI v) (12 + d) = _
    rw [upd_ne _ _ (by omega)]
    exact (r6.2 d hd).2.1
  · show upd (gB.2.1 20) (20 + c) (nI v) (20 + d) = _
    rw [frc_fs]
    by_cases e : d = c
    · rw [e, upd_self, if_pos rfl]
    · rw [upd_ne _ _ (by omega), if_neg e]
      exact (r6.2 d hd).2.2
theorem node2 {p : Pl} {f : Fl} {gA gB : G} (h : RS p f gA gB) (hS : SK p gA) (e1 : gA.1 18 = nI 0) (e2 : gB.1 47 = nI 0) {q : Nat} (hq : q < pP p) {v : Nat} (hv : v < pC p) :
    Ch p (sA gA 28 q (nI v)) (sA gB 20 q (nI v)) := by
  have hl := h.lt
  have r5 := h.2.2.2.2.1
  have r6 := h.2.2.2.2.2.1
  have r7 := h.2.2.2.2.2.2.1
  refine Ch.act (f' := fw f 0 q v) h hS e1 e2 ⟨fun d hd => ?_, fun d hd => ?_⟩ ⟨?_, fun d hd => ?_, fun d hd => by rw [fph_fw (by decide), frc_fw (by decide)]; exact r5.2.2 d hd⟩ ⟨fun d hd => ?_, fun d hd => ⟨?_, ?_, ?_⟩⟩ (Fr.rf.sA (by simp)) (Fr.rf.sA (by simp))
  · rw [fnd_fs]
    by_cases e : d = q
    · rw [if_pos e]; exact hv
    · rw [if_neg e]; exact r7.1 d hd
  · rw [frc_fw (by decide), fph_fw (by decide), fup_fw' (by decide)]
    exact r7.2 d hd
  · rw [us_same (by decide)]
    exact r5.1
  · show upd (gA.2.1 28) q (nI v) d = _
    rw [fnd_fs]
    by_cases e : d = q
    · rw [e, upd_self, if_pos rfl]
    · rw [upd_ne _ _ e, if_neg e]
      exact r5.2.1 d hd
  · show upd (gB.2.1 20) q (nI v) d = _
    rw [fnd_fs]
    by_cases e : d = q
    · rw [e, upd_self, if_pos rfl]
    · rw [upd_ne _ _ e, if_neg e]
      exact r6.1 d hd
  · rw [fup_fw' (by decide)]
    show upd (gB.2.1 20) q (nI v) (4 + d) = _
    rw [upd_ne _ _ (by omega)]
    exact (r6.2 d hd).1
  · rw [fph_fw (by decide)]
    show upd (gB.2.1 20) q (nI v) (12 + d) = _
    rw [upd_ne _ _ (by omega)]
    exact (r6.2 d hd).2.1
  · rw [frc_fw (by decide)]
    show upd (gB.2.1 20) q (nI v) (20 + d) = _
    rw [upd_ne _ _ (by omega)]
    exact (r6.2 d hd).2.2
theorem c_lose {p : Pl} {f : Fl} {gA gB : G} (h : RS p f gA gB) (hA : CA p f gA) (hB : CB p f gB) (a : Int32) : Eq2 (fA_D_lose a gA) (fB_M_lose a gB) := by
  have hl := h.lt
  have no := no2 h hA hB (k := 2) (by decide)
  unfold fA_D_lose fB_M_lose
  by_cases ha : rg (pK p) a
  · obtain ⟨c, hc, rfl⟩ := ha
    have hw := h.wp (by omega)
    have w := h.2.2.2.2.2.2.1.2 c hc
    rw [craftA_t h.2.2.1 hc (by omega), craftB_t h.2.2.2.1 hc (by omega), Option.bind_some, Option.bind_some, lj_eq, lj_eq, if_neg i10, if_neg i10, isUpA (u := 0) (n := 0) h.2.2.2.2.1.1 hc (by omega), Option.bind_some, show (4 : Int32) + nI c = nI (4 + c) from nI_add 4 c, ag_nI (by omega) (by decide), (h.2.2.2.2.2.1.2 c hc).1]
    by_cases z : fup f c = 1
    · obtain ⟨gA', gB', ea, eb, R', S', x1, x2⟩ := begin2 h hw hA
      rw [z, if_neg i10, if_neg (show ¬ bI (decide (1 = 1)) = (0 : Int32) from z1), ea, Option.bind_some, eb, Option.bind_some, ck_nI (by omega) (by decide), nI_clamp (by omega), bv_eq]
      unfold fA_Fleet_turnOver_2
      rw [bv_eq, Option.bind_some]
      exact ⟨_, _, _, rfl, rfl, (turn2 R' S' x1 x2 hc (v := 0) (by omega)).rel⟩
    · have z : fup f c = 0 := by omega
      rw [z, if_pos i00, if_pos (show bI (decide (0 = 1)) = (0 : Int32) from rfl)]
      exact no
  · rw [craftA_f h.2.2.1 ha, craftB_f h.2.2.2.1 ha (by omega), Option.bind_some, Option.bind_some, lj_eq, lj_eq, if_pos i00, if_pos i00]
    exact no
theorem c_find {p : Pl} {f : Fl} {gA gB : G} (h : RS p f gA gB) (hA : CA p f gA) (hB : CB p f gB) (a : Int32) : Eq2 (fA_D_find a gA) (fB_M_find a gB) := by
  have hl := h.lt
  have no := no2 h hA hB (k := 2) (by decide)
  unfold fA_D_find fB_M_find
  by_cases ha : rg (pK p) a
  · obtain ⟨c, hc, rfl⟩ := ha
    have hw := h.wp (by omega)
    have w := h.2.2.2.2.2.2.1.2 c hc
    rw [craftA_t h.2.2.1 hc (by omega), craftB_t h.2.2.2.1 hc (by omega), Option.bind_some, Option.bind_some, lj_eq, lj_eq, if_neg i10, if_neg i10, isUpA (u := 0) (n := 0) h.2.2.2.2.1.1 hc (by omega), Option.bind_some, show (4 : Int32) + nI c = nI (4 + c) from nI_add 4 c, ag_nI (by omega) (by decide), (h.2.2.2.2.2.1.2 c hc).1]
    by_cases z : fup f c = 1
    · rw [z, if_pos (show nI 1 = 1 from rfl), if_neg (show ¬ bI (decide (1 = 1)) = (0 : Int32) from z1)]
      exact no
    · have z : fup f c = 0 := by omega
      obtain ⟨gA', gB', ea, eb, R', S', x1, x2⟩ := begin2 h hw hA
      rw [z, if_neg (show ¬ nI 0 = 1 by decide), if_pos (show bI (decide (0 = 1)) = (0 : Int32) from rfl), ea, Option.bind_some, eb, Option.bind_some, ck_nI (by omega) (by decide), nI_clamp (by omega), bv_eq]
      unfold fA_Fleet_turnOver_2
      rw [bv_eq, Option.bind_some]
      exact ⟨_, _, _, rfl, rfl, (turn2 R' S' x1 x2 hc (v := 1) (by omega)).rel⟩
  · rw [craftA_f h.2.2.1 ha, craftB_f h.2.2.2.1 ha (by omega), Option.bind_some, Option.bind_some, lj_eq, lj_eq, if_pos i00, if_pos i00]
    exact no
