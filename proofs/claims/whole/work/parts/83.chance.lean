/-! THE CALLS: chance -/
def nxs (s : Nat) : Nat := (1103515245 * s + 12345) % 2147483648
theorem nxs_lt (s : Nat) : nxs s < 2 ^ 31 := Nat.mod_lt _ (by decide)
theorem lN_mask {a : Nat} : lN a &&& lN 2147483647 = lN (a % 2147483648) := by
  apply Int64.toBitVec_inj.1
  show BitVec.ofNat 64 a &&& BitVec.ofNat 64 2147483647 = BitVec.ofNat 64 (a % 2147483648)
  apply BitVec.eq_of_getLsbD_eq
  intro i hi
  rw [BitVec.getLsbD_and, BitVec.getLsbD_ofNat, BitVec.getLsbD_ofNat, BitVec.getLsbD_ofNat, show (2147483647 : Nat) = 2 ^ 31 - 1 from rfl, Nat.testBit_two_pow_sub_one, show (2147483648 : Nat) = 2 ^ 31 from rfl, Nat.testBit_mod_two_pow]
  by_cases l : i < 31 <;> simp [hi, l]
theorem lN_shr6 {a : Nat} (h : a < 2 ^ 31) : lN a >>> ((6 : Int32).toInt64 &&& 63) = lN (a / 64) := by
  apply Int64.toBitVec_inj.1
  rw [Int64.toBitVec_shiftRight]
  show (BitVec.ofNat 64 a).sshiftRight ((((6 : Int32).toInt64 &&& 63).toBitVec.smod 64).toNat) = BitVec.ofNat 64 (a / 64)
  have e : (((6 : Int32).toInt64 &&& 63).toBitVec.smod 64).toNat = 6 := by decide +kernel
  rw [e]
  have hm : (BitVec.ofNat 64 a).msb = false := by
    rw [BitVec.msb_eq_decide, decide_eq_false_iff_not, BitVec.toNat_ofNat, Nat.mod_eq_of_lt (by omega)]
    omega
  rw [BitVec.sshiftRight_eq_of_msb_false hm]
  apply BitVec.eq_of_toNat_eq
  rw [BitVec.toNat_ushiftRight, BitVec.toNat_ofNat, BitVec.toNat_ofNat, Nat.mod_eq_of_lt (by omega), Nat.shiftRight_eq_div_pow, Nat.mod_eq_of_lt (by omega)]
theorem rollA {g : G} {s m : Nat} (hs : s < 2 ^ 31) (e : g.2.2.1 = (nI s).toInt64) (hm : 0 < m) (hm2 : m < 2 ^ 31) : fA_D_draw (nI m) g = some (nI (nxs s / 64 % m), sD g (nI (nxs s)).toInt64) := by
  have hl := nxs_lt s
  have e1 : ((1103515245 * g.2.2.1) + 12345) &&& 2147483647 = (nI (nxs s)).toInt64 := by
    rw [e, nI_l hs, show (1103515245 : Int64) = lN 1103515245 from rfl, show (12345 : Int64) = lN 12345 from rfl, show (2147483647 : Int64) = lN 2147483647 from rfl, lN_mul, lN_add, lN_mask, nI_l hl]
    rfl
  unfold fA_D_draw
  rw [e1, bv_eq]
  show (Option.bind (fA_D_rest (((nI (nxs s)).toInt64 >>> ((6 : Int32).toInt64 &&& 63) : Int64).toInt32) (nI m) _) _) = _
  have hd : nxs s / 64 ≤ nxs s := Nat.div_le_self _ _
  rw [nI_l hl, lN_shr6 hl, lN_i, restA hm (by omega) hm2, Option.bind_some]
theorem rollB {g : G} {s m : Nat} (hs : s < 2 ^ 31) (e : g.1 62 = nI s) (hm : 0 < m) (hm2 : m < 2 ^ 31) : fB_M_draw (nI m) g = some (nI (nxs s / 64 % m), sS g 62 (nI (nxs s))) := by
  have hl := nxs_lt s
  have hd : nxs s / 64 ≤ nxs s := Nat.div_le_self _ _
  have e1 : ((((1103515245 * ((g.1 62 : Int32).toInt64)) + 12345) - ((1103515245 * ((g.1 62 : Int32).toInt64)) + 12345) / 2147483648 * 2147483648 : Int64).toInt32) = nI (nxs s) := by
    rw [e, nI_l hs, show (1103515245 : Int64) = lN 1103515245 from rfl, show (12345 : Int64) = lN 12345 from rfl, show (2147483648 : Int64) = lN 2147483648 from rfl, lN_mul, lN_add, pk_lRem (by omega) (by decide) (by decide), lN_i]
    rfl
  unfold fB_M_draw
  rw [e1, bv_eq]
  have z : dzl (2147483648 : Int64) (dz (64 : Int32) (dz (nI m) (some (((sS g 62 (nI (nxs s))).1 62) / 64 - ((sS g 62 (nI (nxs s))).1 62) / 64 / nI m * nI m, sS g 62 (nI (nxs s)))))) = dz (64 : Int32) (dz (nI m) (some (((sS g 62 (nI (nxs s))).1 62) / 64 - ((sS g 62 (nI (nxs s))).1 62) / 64 / nI m * nI m, sS g 62 (nI (nxs s))))) := if_neg (by decide)
  rw [z, show (64 : Int32) = nI 64 from rfl, n_dz (by decide) (by decide), n_dz hm hm2, show (sS g 62 (nI (nxs s))).1 62 = nI (nxs s) from rfl, n_div (by omega) (by decide), n_div (by omega) (by omega), nI_mul, n_rem]
theorem RS.seed {p : Pl} {f : Fl} {gA gB : G} (h : RS p f gA gB) {s : Nat} (hs : s < 2 ^ 31) : RS p f (sD gA (nI s).toInt64) (sS gB 62 (nI s)) := by
  have FB' : Fr [62] [] w0 gB (sS gB 62 (nI s)) := Fr.rf.sS (by simp)
  obtain ⟨r1, r2, r3, r4, r5, r6, r7, r8, r9, r10, r11, r12, r13, r14, r15, r16⟩ := h
  exact ⟨r1, r2, r3, r4.fr FB' (by simp) (by simp), r5, r6, r7, r8, r9, r10, r11, ⟨s, hs, rfl, rfl⟩, r13, r14, r15, r16⟩
theorem SK.sd {p : Pl} {g : G} (h : SK p g) (v : Int64) : SK p (sD g v) := h.fr (S := []) (T := []) (w := (true, false, false)) (Fr.rf.sD rfl) (by simp) (by simp)
/-- one change by chance, on both sides -/
theorem chance1 {p : Pl} (hw : WP p) (hK : 0 < pK p) {gA gB : G} (h : Ch p gA gB) : ∃ gA' gB', fA_D_changeByChance gA = some gA' ∧ Ch p gA' gB' ∧ ∀ (β : Type) (J : G → Option β),
    (Option.bind (fB_M_draw (gB.1 5) gB) fun x7 => Option.bind (fB_M_draw 4 x7.2) fun x8 => (if x8.1 = 0 then ag 28 (x8.2.2.1 20) (4 + x7.1) fun x18 => ck 28 (4 + x7.1) (bv (sA x8.2 20 (4 + x7.1 : Int32).toNatClampNeg (1 - x18)) fun g19 => J g19) else (if x8.1 = 1 then Option.bind (fB_M_turnOf x7.1 x8.2) fun x15 => Option.bind (fB_M_draw x15 x8.2) fun x16 => ck 28 (12 + x7.1) (bv (sA x16.2 20 (12 + x7.1 : Int32).toNatClampNeg x16.1) fun g17 => J g17) else (if x8.1 = 2 then Option.bind (fB_M_draw 7 x8.2) fun x13 => ck 28 (20 + x7.1) (bv (sA x13.2 20 (20 + x7.1 : Int32).toNatClampNeg x13.1) fun g14 => J g14) else ag 8 (x8.2.2.1 4) x7.1 fun x10 => Option.bind (fB_M_draw (x8.2.1 1) x8.2) fun x11 => ck 28 (0 + x10) (bv (sA x11.2 20 (0 + x10 : Int32).toNatClampNeg x11.1) fun g12 => J g12))))) = J gB' := by
  have h1 := hw.c
  obtain ⟨f, hR, hS, f1, f2⟩ := h
  obtain ⟨s, hs, sa, sb'⟩ := hR.2.2.2.2.2.2.2.2.2.2.2.1
  have l1 := nxs_lt s
  have l2 := nxs_lt (nxs s)
  have l3 := nxs_lt (nxs (nxs s))
  obtain ⟨c, hcd⟩ : ∃ c, c = nxs s / 64 % pK p := ⟨_, rfl⟩
  obtain ⟨w, hwd⟩ : ∃ w, w = nxs (nxs s) / 64 % 4 := ⟨_, rfl⟩
  have hc : c < pK p := by rw [hcd]; exact Nat.mod_lt _ hK
  have hw4 : w < 4 := by rw [hwd]; exact Nat.mod_lt _ (by decide)
  have R2 := (hR.seed l1).seed l2
  have S2 := (hS.sd (nI (nxs s)).toInt64).sd (nI (nxs (nxs s))).toInt64
  have tq := hw.q (hw.h hc)
  have w1 := R2.2.2.2.2.2.2.1.2 c hc
  have dA1 := rollA (g := gA) (m := pK p) hs sa hK (by omega)
  have dA2 := rollA (g := sD gA (nI (nxs s)).toInt64) (s := nxs s) (m := 4) l1 rfl (by decide) (by decide)
  have dB1 := rollB (g := gB) (m := pK p) hs sb' hK (by omega)
  have dB2 := rollB (g := sS gB 62 (nI (nxs s))) (s := nxs s) (m := 4) l1 rfl (by decide) (by decide)
  have dA3 := fun m (hm : 0 < m) (hm2 : m < 2 ^ 31) => rollA (g := sD (sD gA (nI (nxs s)).toInt64) (nI (nxs (nxs s))).toInt64) (s := nxs (nxs s)) (m := m) l2 rfl hm hm2
  have dB3 := fun m (hm : 0 < m) (hm2 : m < 2 ^ 31) => rollB (g := sS (sS gB 62 (nI (nxs s))) 62 (nI (nxs (nxs s)))) (s := nxs (nxs s)) (m := m) l2 rfl hm hm2
  have R3 := R2.seed l3
  have S3 := S2.sd (nI (nxs (nxs (nxs s)))).toInt64
  unfold fA_D_changeByChance
  rw [hR.2.2.1.1.2.2.2.2.2.2.1, hR.2.2.2.1.1.2.2.2.2.1, dA1, Option.bind_some]
  dsimp only
  rw [show (4 : Int32) = nI 4 from rfl, dA2, Option.bind_some]
  dsimp only
  rw [← hcd, ← hwd]
  have eB : ∀ (β : Type) (k : Int32 × G → Int32 × G → Option β), (Option.bind (fB_M_draw (nI (pK p)) gB) fun x7 => Option.bind (fB_M_draw (nI 4) x7.2) fun x8 => k x7 x8) = k (nI c, sS gB 62 (nI (nxs s))) (nI w, sS (sS gB 62 (nI (nxs s))) 62 (nI (nxs (nxs s)))) := by
    intro β k
    rw [dB1, Option.bind_some]
    dsimp only
    rw [dB2, Option.bind_some, hcd, hwd]
  have a4 : nI 4 + nI c = nI (4 + c) := nI_add 4 c
  have a12 : (12 : Int32) + nI c = nI (12 + c) := nI_add 12 c
  have a20 : (20 : Int32) + nI c = nI (20 + c) := nI_add 20 c
  have : w = 0 ∨ w = 1 ∨ w = 2 ∨ w = 3 := by omega
  rcases this with e | e | e | e
  · rw [e, if_pos i00]
    unfold fA_Fleet_turnOver_2
    rw [bv_eq, Option.bind_some]
    refine ⟨_, _, rfl, turn2 R2 S2 f1 f2 hc (v := 1 - fup f c) rfl, fun β J => ?_⟩
    rw [eB]
    dsimp only
    have eu : (sS (sS gB 62 (nI (nxs s))) 62 (nI (nxs (nxs s)))).2.1 20 (4 + c) = nI (fup f c) := (R2.2.2.2.2.2.1.2 c hc).1
    rw [e, if_pos i00, a4, ag_nI (by omega) (by decide), eu, show (1 - nI (fup f c) : Int32) = nI (1 - fup f c) from nI_sub (a := 1) w1.2.2, ck_nI (by omega) (by decide), nI_clamp (by omega), bv_eq]
  · have tA := turnA hw R2.2.2.1 hc
    have tB := turnB hw R2.2.2.2.1 hc
    rw [e, if_neg i10, if_pos (show nI 1 = 1 from rfl), tA, Option.bind_some, dA3 _ (by omega) (by omega), Option.bind_some]
    dsimp only
    rw [ck_nI (by omega) (by decide), nI_clamp (by omega), bv_eq]
    refine ⟨_, _, rfl, phase2 R3 S3 f1 f2 hc (v := nxs (nxs (nxs s)) / 64 % tu p (hm p c)) (Nat.mod_lt _ (by omega)), fun β J => ?_⟩
    rw [eB]
    dsimp only
    rw [e, if_neg i10, if_pos (show nI 1 = 1 from rfl), tB, Option.bind_some, dB3 _ (by omega) (by omega), Option.bind_some]
    dsimp only
    rw [a12, ck_nI (by omega) (by decide), nI_clamp (by omega), bv_eq]
  · rw [e, if_neg (show ¬ nI 2 = 0 by decide), if_neg (show ¬ nI 2 = 1 by decide), if_pos (show nI 2 = 2 from rfl), show (7 : Int32) = nI 7 from rfl, dA3 7 (by decide) (by decide), Option.bind_some]
    dsimp only
    rw [ck_nI (by omega) (by decide), nI_clamp (by omega), bv_eq]
    refine ⟨_, _, rfl, reach2 R3 S3 f1 f2 hc (v := nxs (nxs (nxs s)) / 64 % 7) (by have := Nat.mod_lt (nxs (nxs (nxs s)) / 64) (show 0 < 7 by decide); omega), fun β J => ?_⟩
    rw [eB]
    dsimp only
    rw [e, if_neg (show ¬ nI 2 = 0 by decide), if_neg (show ¬ nI 2 = 1 by decide), if_pos (show nI 2 = 2 from rfl), dB3 7 (by decide) (by decide), Option.bind_some]
    dsimp only
    rw [a20, ck_nI (by omega) (by decide), nI_clamp (by omega), bv_eq]
  · have hh := hw.h hc
    have e9 : (sD (sD gA (nI (nxs s)).toInt64) (nI (nxs (nxs s))).toInt64).2.1 9 c = nI (hm p c) := (R2.2.2.1.2.2.1 c hc).1
    have e3 : (sD (sD gA (nI (nxs s)).toInt64) (nI (nxs (nxs s))).toInt64).1 300 = nI (pC p) := R2.2.2.1.1.1
    have e4 : (sS (sS gB 62 (nI (nxs s))) 62 (nI (nxs (nxs s)))).2.1 4 c = nI (hm p c) := R2.2.2.2.1.2.2.1 c hc
    have e5 : (sS (sS gB 62 (nI (nxs s))) 62 (nI (nxs (nxs s)))).1 1 = nI (pC p) := R2.2.2.2.1.1.1
    rw [e, if_neg (show ¬ nI 3 = 0 by decide), if_neg (show ¬ nI 3 = 1 by decide), if_neg (show ¬ nI 3 = 2 by decide), ag_nI (by omega) (by decide), e9, e3, dA3 _ (by omega) (by omega), Option.bind_some]
    dsimp only
    rw [ck_nI (by omega) (by decide), nI_clamp (by omega), bv_eq]
    refine ⟨_, _, rfl, node2 R3 S3 f1 f2 hh (v := nxs (nxs (nxs s)) / 64 % pC p) (Nat.mod_lt _ (by omega)), fun β J => ?_⟩
    rw [eB]
    dsimp only
    have a0 : (0 : Int32) + nI (hm p c) = nI (hm p c) := by rw [nl, nI_add, Nat.zero_add]
    rw [e, if_neg (show ¬ nI 3 = 0 by decide), if_neg (show ¬ nI 3 = 1 by decide), if_neg (show ¬ nI 3 = 2 by decide), ag_nI (by omega) (by decide), e4, e5, dB3 _ (by omega) (by omega), Option.bind_some]
    dsimp only
    rw [a0, ck_nI (by omega) (by decide), nI_clamp (by omega), bv_eq]
/-- two loops in step -/
theorem lock {r : Type} {FA FB : (Int32 × G → Option (r × G)) → Int32 × G → Option (r × G)} {R : G → G → Prop} {n : Nat}
    (step : ∀ i gA gB, i < n → R gA gB → ∃ gA' gB', R gA' gB' ∧ (∀ rec, FA rec (nI i, gA) = rec (nI (i + 1), gA')) ∧ ∀ rec, FB rec (nI i, gB) = rec (nI (i + 1), gB'))
    (fin : ∀ gA gB, R gA gB → ∀ ra rb, Eq2 (FA ra (nI n, gA)) (FB rb (nI n, gB))) : ∀ (m i : Nat) (gA gB : G) (fu : Nat), i + m = n → m < fu → R gA gB → Eq2 (Lp FA fu (nI i, gA)) (Lp FB fu (nI i, gB)) := by
  intro m
  induction m with
  | zero =>
    intro i gA gB fu hi hf hR
    obtain ⟨k, rfl⟩ : ∃ k, fu = k + 1 := ⟨fu - 1, by omega⟩
    have : i = n := by omega
    subst this
    exact fin gA gB hR _ _
  | succ m ih =>
    intro i gA gB fu hi hf hR
    obtain ⟨k, rfl⟩ : ∃ k, fu = k + 1 := ⟨fu - 1, by omega⟩
    obtain ⟨gA', gB', hR', ea, eb⟩ := step i gA gB (by omega) hR
    show Eq2 (FA (Lp FA k) (nI i, gA)) (FB (Lp FB k) (nI i, gB))
    rw [ea, eb]
    exact ih (i + 1) gA' gB' k (by omega) (by omega) hR'
theorem c_chance {p : Pl} {f : Fl} {gA gB : G} (h : RS p f gA gB) (hA : CA p f gA) (hB : CB p f gB) (a : Int32) : Eq2 (fA_D_chance a gA) (fB_M_chance a gB) := by
  have hl := h.lt
  have no := no3 h hA hB (k := 2) (by decide)
  unfold fA_D_chance fB_M_chance
  rw [lj_eq, lj_eq, h.2.2.1.1.2.2.2.2.2.2.1, h.2.2.2.1.1.2.2.2.2.1]
  have inI : ∀ {n : Nat}, 1 ≤ n → n ≤ 40 → fB_M_isIn (nI n) 1 40 gB = some (nI 1) := by
    intro n h1 h2
    unfold fB_M_isIn
    rw [show (1 : Int32) = nI 1 from rfl, show (40 : Int32) = nI 40 from rfl, if_neg (nI_nlt h1 (by omega)), if_neg (nI_nlt h2 (by decide))]
  by_cases z : pK p = 0
  · rw [z, if_pos i00, if_pos i00]
    split
    · exact no
    · split <;> exact no
  · have kn : ¬ nI (pK p) = (0 : Int32) := nI_ne0 (by omega) (by omega)
    have hw := h.wp (by omega)
    rw [if_neg kn, if_neg kn]
    by_cases ha : ∃ n, 1 ≤ n ∧ n ≤ 40 ∧ a = nI n
    · obtain ⟨n, n1, n2, rfl⟩ := ha
      obtain ⟨gA', gB', ea, eb, R', S', x1, x2⟩ := begin2 h hw hA
      rw [if_neg (show ¬ nI n < (1 : Int32) from nI_nlt (b := 1) n1 (by omega)), if_neg (show ¬ (40 : Int32) < nI n from nI_nlt (a := 40) n2 (by decide)), inI n1 n2, Option.bind_some, if_neg i10, ea, Option.bind_some, eb, Option.bind_some]
      refine lock (R := Ch p) (n := n) ?_ ?_ n 0 gA' gB' FU (by omega) (by rw [FU]; omega) ⟨f, R', S', x1, x2⟩
      · intro i g1 g2 hi hC
        obtain ⟨g1', g2', e1, C', e2⟩ := chance1 hw (by omega) hC
        refine ⟨g1', g2', C', fun rec => ?_, fun rec => ?_⟩
        · simp only []
          rw [if_neg (nI_ge hi (by omega)), e1, Option.bind_some, nl, nI_add]
        · simp only []
          rw [if_neg (nI_ge hi (by omega))]
          simp only [lj_eq]
          rw [e2, nl, nI_add]
      · intro g1 g2 hC ra rb
        have hC2 := hC
        obtain ⟨f', R2, S2, y1, y2⟩ := hC
        simp only []
        rw [if_pos (nI_le (Nat.le_refl _) (by omega)), if_pos (nI_le (Nat.le_refl _) (by omega)), R2.2.2.2.2.1.1, bitCount_eq (Nat.lt_trans (us_lt p f') (by decide)), Option.bind_some, upAllB (by omega) R2.2.2.2.1 R2.2.2.2.2.2.1 R2.2.2.2.2.2.2.1, Option.bind_some]
        exact ⟨_, _, _, rfl, rfl, hC2.rel⟩
    · have hh : a < 1 ∨ 40 < a := by
        by_cases l : a < 1
        · exact Or.inl l
        · right
          have l0 : ¬ a < 0 := by
            intro z
            rw [Int32.lt_iff_toInt_lt] at l z
            have : (1 : Int32).toInt = 1 := by decide
            have : (0 : Int32).toInt = 0 := by decide
            omega
          obtain ⟨j, hj, rfl⟩ := nI_of l0
          have j1 : 1 ≤ j := by
            apply Classical.byContradiction
            intro hl
            exact l (nI_lt (b := 1) (by omega) (by decide))
          exact nI_lt (a := 40) (by
            apply Classical.byContradiction
            intro hl
            exact ha ⟨j, j1, by omega, rfl⟩) hj
      have eb : fB_M_isIn a 1 40 gB = some (nI 0) := by
        unfold fB_M_isIn
        rcases hh with l | l
        · rw [if_pos l]
          rfl
        · rw [if_pos l]
          split <;> rfl
      rw [eb, Option.bind_some, if_pos i00]
      rcases hh with l | l
      · rw [if_pos l]
        exact no
      · rw [if_pos l]
        split <;> exact no
