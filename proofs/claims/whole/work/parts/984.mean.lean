/-! THE CALLS: mean, both -/
theorem c_mean {p : Pl} {f : Fl} {gA gB : G} (h : RS p f gA gB) (hA : CA p f gA) (hB : CB p f gB) (a b : Int32) : Eq2 (fA_D_mean a b gA) (fB_M_mean a b gB) := by
  have hl := h.lt
  unfold fA_D_mean fB_M_mean
  by_cases hc : rg (pC p) a ∧ rg (pR p) b
  · obtain ⟨⟨x, hx, rfl⟩, y, hy, rfl⟩ := hc
    have hw := h.wp (by omega)
    have h1 := hw.c
    obtain ⟨⟨n, gB'⟩, eB, en, FB, CB', SB⟩ := c_gapsX h hw hB hx hy
    have en : n = nI (cn (bg (kd p f (us p f) x y 8) (pY p)) (pY p)) := en
    have SB : ST (pY p) (kd p f (us p f) x y 8) gB' := SB
    obtain ⟨g1, g2, e1, e2, FA, CA', PA', SA⟩ := strip2' h hw hA hx hy
    obtain ⟨bb, hbb⟩ : ∃ bb, bb = kd p f (us p f) x y 8 := ⟨_, rfl⟩
    have hp : Per (pY p) bb := by rw [hbb]; exact kd_per hw f _ x y 8
    have rel : Rel g2 gB' := Rel.mk2 h FA FB CA' CB'
    rw [cellA_t h.2.2.1 hx hy (by omega), cellB_t h.2.2.2.1 hx hy (by omega), Option.bind_some, Option.bind_some, if_neg i10, if_neg i10, e1, Option.bind_some, e2, Option.bind_some, eB, Option.bind_some, show (256 : Int32) = nI (1 <<< 8) from rfl, countRunsA hw SA (kd_per hw f _ x y) (by decide), Option.bind_some, rn_one (by decide)]
    dsimp only
    rw [en, ← hbb]
    rw [← hbb] at SB
    have c1 := cn_le (bg bb (pY p)) (pY p)
    have c2 : cn (bg bb (pY p)) (pY p) ≤ cn bb (pY p) := cn_sub (fun i hi => by unfold bg at hi; cases e : bb i; rw [e] at hi; exact hi; rfl) _
    have c3 := cn_le bb (pY p)
    by_cases z : cn (bg bb (pY p)) (pY p) = 0
    · rw [z, if_pos (show nI 0 ≤ 0 by decide), if_pos i00]
      exact ⟨_, _, _, rfl, rfl, rel⟩
    · rw [if_neg (show ¬ nI (cn (bg bb (pY p)) (pY p)) ≤ 0 from nI_ge (a := 0) (by omega) (by omega)), if_neg (show ¬ nI (cn (bg bb (pY p)) (pY p)) = 0 from fun e => z ((nI_eq (b := 0) (by omega) (by decide)).mp e)), unseenA hw SA, Option.bind_some, ← hbb]
      have mb := mean_b (u := cn bb (pY p)) (c := cn (bg bb (pY p)) (pY p)) (by omega) c2 (by omega)
      rw [nd_eq (by omega), doubleBitsA mb.1 mb.2, Option.bind_some]
      have eL : Sat (Lp (α := Int32 × Int32) (fun rec3 s3 => (if (gB'.1 50) ≤ s3.2 then nd (FP.ddiv (FP.i2d s3.1) (FP.i2d (gB'.1 50))) (Option.bind (fB_Double_doubleToLongBits (FP.ddiv (FP.i2d s3.1) (FP.i2d (gB'.1 50))) gB') fun x4 => some (x4, gB')) else ag 240 (gB'.2.1 24) s3.2 fun x5 => bv (s3.1 + x5) fun x6 => rec3 (x6, s3.2 + 1))) FU (0, 0)) (fun r => r = ((FP.ddiv (FP.i2d (nI (cn bb (pY p)))) (FP.i2d (nI (cn (bg bb (pY p)) (pY p))))).toInt64, gB')) := by
        obtain ⟨V, hV⟩ : ∃ V : Nat → Nat, V = fun k => (gB'.2.1 24 k).toBitVec.toNat := ⟨_, rfl⟩
        have hs := sm_ST (V := V) (b := bb) (Y := pY p) (fun t ht hb => by
          have l := ln_le bb (pY p) t
          rw [hV]
          show (gB'.2.1 24 (cn (bg bb (pY p)) t)).toBitVec.toNat = _
          rw [(SB.2 t ht hb).2]
          show (BitVec.ofNat 32 (ln bb (pY p) t)).toNat = _
          rw [BitVec.toNat_ofNat, Nat.mod_eq_of_lt (by omega)]) (pY p) (Nat.le_refl _)
        rw [sl_eq hp (by omega)] at hs
        rw [SB.1]
        refine Sat.lp (fun k s => s = (nI (sm V k), nI k)) (cn (bg bb (pY p)) (pY p)) (by omega) rfl ?_ ?_
        · rintro rec k _ hk rfl hrec
          simp only []
          rw [if_neg (nI_ge hk (by omega)), ag_nI (by omega) (by decide), bv_eq, show gB'.2.1 24 k = nI (V k) by rw [hV]; exact n_all _, nI_add, show (nI k + 1 : Int32) = nI (k + 1) from nI_add k 1]
          exact hrec _ rfl
        · rintro rec _ rfl
          simp only []
          rw [if_pos (nI_le (Nat.le_refl _) (by omega)), hs, nd_eq (by omega), dbitsB (by omega), Option.bind_some]
          exact Sat.of rfl
      rw [Sat.eq eL]
      exact ⟨_, _, _, rfl, rfl, rel⟩
  · rw [cellA_f h.2.2.1 hc, cellB_f h.2.2.2.1 hc (by omega), Option.bind_some, Option.bind_some, if_pos i00, if_pos i00]
    exact ⟨_, _, _, rfl, rfl, p, f, h, hA, hB⟩
