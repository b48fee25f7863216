/-! THE CALLS: desk -/
theorem RSfault {p : Pl} {f : Fl} {gA gB : G} (h : RS p f gA gB) (u v : Int32) : RS p f (sS (sS gA 15 u) 16 v) (sS (sS gB 35 u) 36 v) := by
  have fA : Fr [15, 16] [] w0 gA (sS (sS gA 15 u) 16 v) := (Fr.rf.sS (by simp)).sS (by simp)
  have fB : Fr [35, 36] [] w0 gB (sS (sS gB 35 u) 36 v) := (Fr.rf.sS (by simp)).sS (by simp)
  obtain ⟨r1, r2, r3, r4, r5, r6, r7, r8, r9, r10, r11, r12, r13, r14, r15, r16⟩ := h
  exact ⟨by rw [fB.1 0 (by simp)]; exact r1, r2, r3.fr fA (by simp) (by simp), r4.fr fB (by simp) (by simp), r5.fr fA (by simp) (by simp), r6.fr fB (by simp), r7, r8.fr fA fB (by simp), r9, ⟨rfl, rfl⟩, r11.fr fA fB (by simp), r12.fr fA fB ⟨rfl, by simp⟩, r13.fr fA fB (by simp) (by simp) (by simp), r14.fr fA fB (by simp) (by simp) (by simp), r15.fr fA rfl, r16⟩
def dSA : List Nat := 101 :: 15 :: 16 :: 300 :: 301 :: 302 :: 303 :: 304 :: 305 :: 306 :: 307 :: 2700 :: 11801 :: 11802 :: 3600 :: 13800 :: 18 :: lSA
def dTA : List Nat := 4 :: 5 :: 6 :: 7 :: 8 :: 9 :: 10 :: 11 :: 12 :: 13 :: 14 :: 28 :: 29 :: 30 :: 121 :: lTA
def dSB : List Nat := 33 :: 37 :: 35 :: 36 :: 0 :: 1 :: 2 :: 3 :: 4 :: 5 :: 6 :: 7 :: 8 :: 9 :: 45 :: 58 :: 47 :: lSB
def dTB : List Nat := 1 :: 2 :: 3 :: 4 :: 5 :: 6 :: 7 :: 8 :: 20 :: lTB
set_option maxHeartbeats 2000000 in
theorem c_desk {p : Pl} {f : Fl} {gA gB : G} (h : RS p f gA gB) (hA : CA p f gA) (hB : CB p f gB) : Eq2 (fA_D_desk gA) (fB_M_desk gB) := by
  obtain ⟨n, T, hn, t1, t2, tv⟩ := h.2.2.2.2.2.2.2.1.get
  have hx : TX n T := ⟨hn, fun i hi => (tv i hi).1⟩
  have hO := h.2.2.2.2.2.2.2.2.2.2.2.2.2.2.2
  have eT : fB_M_taken gB = some (nI n, sS gB 33 0) := by
    unfold fB_M_taken
    rw [t2, bv_eq, bv_eq]
  obtain ⟨G5, eG5⟩ : ∃ G5, G5 = sS (sS (sS (sS (sS gB 33 0) 37 (nI n)) 38 0) 40 0) 41 (-1) := ⟨_, rfl⟩
  have F5 : Fr [33, 37, 38, 40, 41] [] w0 gB G5 := by
    rw [eG5]
    exact ((((Fr.rf.sS (by simp)).sS (by simp)).sS (by simp)).sS (by simp)).sS (by simp)
  have TQ5 : TQ n T G5 := by
    refine ⟨by rw [eG5]; rfl, fun i hi => ?_⟩
    rw [F5.2.1 17 (by simp)]
    exact (tv i hi).2.2
  have TA0 : TA n T gA := ⟨t1, fun i hi => (tv i hi).2.1⟩
  obtain ⟨rA, gA', rB, gB', eA, eB, FA', FB', Z, LA', LQ', er, hz⟩ := read2 hx TA0 TQ5 ((F5.2.1 19 (by simp)).trans hO) (by rw [eG5]; rfl) (by rw [eG5]; rfl) (by rw [eG5]; rfl)
  unfold fA_D_desk fB_M_desk
  rw [eA, Option.bind_some, eT, Option.bind_some]
  dsimp only
  rw [bv_eq, bv_eq, bv_eq, bv_eq, ← eG5, eB, Option.bind_some]
  dsimp only
  rw [cut0 gA' n hn LA'.1.1, Option.bind_some, bv_eq, bv_eq, bv_eq, bv_eq]
  have z6 := LA'.2.1.1
  obtain ⟨u, eu⟩ : ∃ u, u = gA'.1 3500 := ⟨_, rfl⟩
  obtain ⟨v, ev⟩ : ∃ v, v = gA'.1 3501 := ⟨_, rfl⟩
  have eu2 : gB'.1 40 = u := by rw [eu, LA'.2.1.2, LQ'.2.1.2]
  have ev2 : gB'.1 41 = v := by
    rw [ev]
    by_cases z : Z.1 = 0
    · rw [(LA'.2.2.1 z).1, (LQ'.2.2.1 z).1]
    · rw [LA'.2.2.2 z, LQ'.2.2.2 z]
  obtain ⟨uA, euA⟩ : ∃ uA, uA = sS (sS (sS gA' 101 (nI 0)) 15 u) 16 v := ⟨_, rfl⟩
  obtain ⟨uB, euB⟩ : ∃ uB, uB = sS (sS gB' 35 u) 36 v := ⟨_, rfl⟩
  have q1 : sS (sS (sS gA' 101 (nI 0)) 15 ((sS gA' 101 (nI 0)).1 3500)) 16 ((sS (sS gA' 101 (nI 0)) 15 ((sS gA' 101 (nI 0)).1 3500)).1 3501) = uA := by
    rw [euA, eu, ev]
    rfl
  have q2 : sS (sS gB' 35 (gB'.1 40)) 36 ((sS gB' 35 (gB'.1 40)).1 41) = uB := by
    rw [euB]
    show sS (sS gB' 35 (gB'.1 40)) 36 (gB'.1 41) = _
    rw [eu2, ev2]
  have q3 : uB.1 40 = nI Z.1 := by
    rw [euB]
    show gB'.1 40 = _
    exact LQ'.2.1.2
  rw [q1, q2, q3, er]
  have FAu' : Fr [101, 15, 16] [] w0 gA' uA := by
    rw [euA]
    exact ((Fr.rf.sS (by simp)).sS (by simp)).sS (by simp)
  have FBu' : Fr [35, 36] [] w0 gB' uB := by
    rw [euB]
    exact (Fr.rf.sS (by simp)).sS (by simp)
  by_cases z : Z.1 = 0
  · rw [decide_eq_true z, if_neg b1, z, if_pos i00]
    obtain ⟨p1, f1, hW, hDA, hDB, hst, hal, hwd, hcy, hc240⟩ := hz z
    have cb := cyc_b hW (pP p1) (Nat.le_refl _)
    have cd := cyc_d hW (pP p1) (Nat.le_refl _) hc240
    have bb := hW.1
    obtain ⟨Y, eY⟩ : ∃ Y, Y = cyc p1 (pP p1) := ⟨_, rfl⟩
    rw [← eY] at hcy hc240 cb cd
    have hw : WP (stY p1 Y) := hW.wp ⟨by omega, hc240⟩ cd.1 cd.2
    have DAu : DA p1 f1 uA := hDA.fr FAu' (by simp) (by simp)
    have DBu : DB p1 f1 uB := hDB.fr FBu' (by simp) (by simp)
    obtain ⟨a1, ea1, Fa1, PA1⟩ := planTake DAu hW ((FAu'.1 1503 (by simp)).trans hcy) ((FAu'.1 1504 (by simp)).trans hal) (fun y hy => by rw [FAu'.2.1 16 (by simp)]; exact hwd y hy)
    obtain ⟨a2, ea2, Fa2, FA2⟩ := takeF (p := p1) (f := f1) ⟨by omega, by omega⟩ (DAu.2.2.2.2.fr Fa1 (by simp) (by simp))
    have PA2 := PA1.fr Fa2 (by simp) (by simp)
    obtain ⟨a3, ea3, Fa3, SH3, SK3⟩ := adoptA hw PA2
    obtain ⟨c1, ec1, Fc1, c10, PBc, cn1, cn2⟩ := tellsB DBu hW
    rw [← eY] at PBc
    obtain ⟨⟨r2, c2⟩, ec2, er2, Fc2, c45, c58, c47, FBc⟩ := nowB (p := p1) (f := f1) (g := c1) hW PBc.1.2.2.2.1 PBc.1.2.2.2.2.1 cn1 cn2 rB
    have er2 : r2 = rB := er2
    have Fc2 : Fr [45, 58, 47] [20] w0 c1 c2 := Fc2
    rw [ea1, Option.bind_some, ea2, Option.bind_some, ea3, Option.bind_some, ec1, Option.bind_some, ec2]
    unfold fA_History_forget fA_Notes_forget
    rw [bv_eq, Option.bind_some, bv_eq, Option.bind_some, bv_eq]
    obtain ⟨wA, ewA⟩ : ∃ wA, wA = sS (sS (sS a3 3600 0) 13800 0) 18 0 := ⟨_, rfl⟩
    rw [← ewA]
    have Fw : Fr [3600, 13800, 18] [] w0 a3 wA := by
      rw [ewA]
      exact ((Fr.rf.sS (by simp)).sS (by simp)).sS (by simp)
    have FA4 : Fr dSA dTA w2' gA wA := ((((((FA'.wd (S := dSA) (T := dTA) (w := w2') (by decide) (by decide) (by simp)).tr FAu' (by decide) (by simp) (by simp)).tr Fa1 (by decide) (by decide) (by simp)).tr Fa2 (by decide) (by decide) (by simp)).tr Fa3 (by decide) (by decide) (by simp)).tr Fw (by decide) (by simp) (by simp))
    have FB4 : Fr dSB dTB w0 gB c2 := ((((F5.wd (S := dSB) (T := dTB) (w := w0) (by decide) (by simp) (by simp)).tr FB' (by decide) (by decide) (by simp)).tr FBu' (by decide) (by simp) (by simp)).tr Fc1 (by decide) (by decide) (by simp)).tr Fc2 (by decide) (by decide) (by simp)
    obtain ⟨r1, r2', r3, r4, r5, r6, r7, r8, r9, r10, r11, r12, r13, r14, r15, r16⟩ := h
    obtain ⟨hn0, ht0, _, htl, _, ht1, _, _⟩ := r13
    have F13 : Fr [300, 301, 302, 303, 304, 305, 306, 307, 2700, 11801, 11802, 3600, 13800, 18] [4, 5, 6, 7, 8, 9, 10, 11, 12, 13, 14, 28, 29, 30, 121] w2' uA wA := (((Fa1.wd (by decide) (by decide) (by simp)).tr Fa2 (by decide) (by decide) (by simp)).tr Fa3 (by decide) (by decide) (by simp)).tr Fw (by decide) (by simp) (by simp)
    have RSn : RS (stY p1 Y) f1 wA c2 := by
      refine ⟨Or.inl ⟨hw, by rw [Fc2.1 0 (by simp)]; exact c10⟩, hW.2.2.2.2.1, ((PA2.fr Fa3 (by simp) (by simp)).fr Fw (by simp) (by simp)), PBc.fr Fc2 (by simp) (by simp), ?_, FBc, hW.2.2.2.2.2.1, ⟨0, by omega, ?_, ?_, fun i hi => by omega⟩, ?_, ⟨?_, ?_⟩, r11.fr FA4 FB4 (by decide), r12.fr FA4 FB4 ⟨rfl, by decide⟩, ⟨0, ht0, ⟨by omega, fun _ => rfl⟩, htl, ?_, ?_, c45, fun i hi => by omega⟩, ⟨0, by omega, ?_, c58, fun i hi => by omega⟩, ?_, ?_⟩
      · exact (FA2.fr Fa3 (by simp) (by simp)).fr Fw (by simp) (by simp)
      · rw [F13.1 101 (by decide), euA]
        rfl
      · rw [Fc2.1 33 (by simp), Fc1.1 33 (by simp), FBu'.1 33 (by simp), FB'.1 33 (by decide), eG5]
        rfl
      · intro i hi
        rw [FA4.2.1 145 (by decide), FB4.2.1 18 (by decide)]
        exact r9 i hi
      · rw [F13.1 15 (by decide), Fc2.1 35 (by simp), Fc1.1 35 (by simp), euA, euB]
        rfl
      · rw [F13.1 16 (by decide), Fc2.1 36 (by simp), Fc1.1 36 (by simp), euA, euB]
        rfl
      · rw [ewA]
        rfl
      · rw [FA4.1 3601 (by decide)]
        exact ht1
      · rw [ewA]
        rfl
      · exact SH3.fr Fw rfl
      · rw [FB4.2.1 19 (by decide)]
        exact r16
    refine ⟨_, _, _, rfl, ?_, stY p1 Y, f1, RSn, ?_, fun _ => Or.inl c47⟩
    · rw [er2, ← hst]
      congr 2
      rw [F13.1 3502 (by decide), FAu'.1 3502 (by simp)]
    · intro _
      exact ⟨SK3.fr Fw (by simp) (by simp), Or.inl (by rw [ewA]; rfl)⟩
  · rw [decide_eq_false z, if_pos b0, if_neg (nI_ne0 (by omega) (by omega))]
    have R0 : RS p f (sS gA' 101 (nI 0)) gB' := h.tape ((FA'.wd (by decide) (by decide) (by simp)).sS (by simp)) ((F5.wd (by simp) (by simp) (by simp)).tr FB' (by decide) (by decide) (by simp)) rfl (by rw [FB'.1 33 (by decide), eG5]; rfl)
    have R1 : RS p f uA uB := by
      rw [euA, euB]
      exact RSfault R0 u v
    have CAu : CA p f uA := (hA.fr FA' (by decide) (by decide)).fr FAu' (by simp) (by simp)
    have CBu : CB p f uB := ((hB.fr F5 (by simp) (by simp)).fr FB' (by decide) (by decide)).fr FBu' (by simp) (by simp)
    exact no3 R1 CAu CBu (k := 1) (by decide)
