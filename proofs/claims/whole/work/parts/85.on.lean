/-! THE CALLS: on -/
theorem byteA {g : G} {n k : Nat} (e : g.1 101 = nI n) (hk : k < n) (hn : n ≤ 1600) : fA_Tape_byteAt (nI k) g = some (g.2.1 2 k) := by
  unfold fA_Tape_byteAt
  rw [e, A_t hk (by omega), ag_nI (by omega) (by decide)]
/-- bytes that are an image -/
def IM (p : Pl) (v : Nat → Nat) : Prop :=
  v (pP p + 3 * pK p) = ckN v (pP p + 3 * pK p) ∧ (∀ q, q < pP p → v q < pC p) ∧ ∀ c, c < pK p → v (pP p + 3 * c) ≤ 1 ∧ v (pP p + 3 * c + 1) < tu p (hm p c) ∧ v (pP p + 3 * c + 2) ≤ 12
/-- the fleet of an image -/
def fim (p : Pl) (v : Nat → Nat) : Fl := fun b j => if b = 0 then v j else if b = 1 then v (pP p + 3 * j + 1) else if b = 2 then v (pP p + 3 * j + 2) else v (pP p + 3 * j)
theorem fim_wf {p : Pl} {v : Nat → Nat} (h : IM p v) : WF p (fim p v) := ⟨h.2.1, fun c hc => ⟨(h.2.2 c hc).2.1, (h.2.2 c hc).2.2, (h.2.2 c hc).1⟩⟩
set_option maxHeartbeats 1000000 in
theorem readA {p : Pl} (hw : WP p) {g : G} (hP : PA p g) {n : Nat} (hn : n ≤ 1600) (e : g.1 101 = nI n) {v : Nat → Nat} (hv : ∀ i, i < n → v i < 256 ∧ g.2.1 2 i = nI (v i)) :
    Sat (fA_Fleet_readImage g) (fun r => Fr [3100] [32, 33, 34] w0 g r.2 ∧ ((r.1 = 1 ∧ n = pP p + 3 * pK p + 1 ∧ IM p v ∧ FA p (fim p v) 3100 31 r.2) ∨ (r.1 = 0 ∧ ¬ (n = pP p + 3 * pK p + 1 ∧ IM p v)))) := by
  have h1 := hw.c
  unfold fA_Fleet_readImage fA_Tape_size
  simp only [nl]
  rw [hP.1.2.2.2.2.2.1, hP.1.2.2.2.2.2.2.1, nI_mul, nI_add, bv_eq, Option.bind_some, e, nI_add, ite_eqn (by omega) (by omega)]
  by_cases c1 : n = pP p + 3 * pK p + 1
  · rw [if_pos c1, byteA e (by omega) hn, Option.bind_some, (hv _ (by omega)).2]
    have eck : fA_Fleet_checkOf (nI (pP p + 3 * pK p)) g = some (nI (ckN v (pP p + 3 * pK p))) := by
      apply Sat.eq
      unfold fA_Fleet_checkOf
      refine Sat.lp (fun k s => s = (nI (ckN v k), nI k)) (pP p + 3 * pK p) (by omega) rfl ?_ ?_
      · rintro rec k _ hk rfl hrec
        have cl := ckN_lt v k
        have q := hv k (by omega)
        simp only []
        rw [if_neg (nI_ge hk (by omega)), byteA e (by omega) hn, Option.bind_some, q.2, checkA cl (by omega), Option.bind_some, nl, nI_add]
        exact hrec _ rfl
      · rintro rec _ rfl
        simp only []
        rw [if_pos (nI_le (Nat.le_refl _) (by omega))]
        exact Sat.of rfl
    have vl := (hv (pP p + 3 * pK p) (by omega)).1
    have cl := ckN_lt v (pP p + 3 * pK p)
    rw [eck, Option.bind_some, ite_eqn (by omega) (by omega)]
    by_cases c2 : v (pP p + 3 * pK p) = ckN v (pP p + 3 * pK p)
    · rw [if_pos c2]
      refine Sat.lp (fun q s => ∃ g', s = (nI q, g') ∧ Fr [3100] [32, 33, 34] w0 g g' ∧ ∀ j, j < q → v j < pC p ∧ g'.2.1 32 j = nI (v j)) (pP p) (by omega) ⟨g, rfl, Fr.rf, fun j hj => by omega⟩ ?_ ?_
      · rintro rec q _ hq ⟨g1, rfl, F1, a1⟩ hrec
        have P1 := hP.fr F1 (by simp) (by simp)
        have t1 : g1.1 101 = nI n := (F1.1 101 (by simp)).trans e
        have b1 : g1.2.1 2 q = nI (v q) := by rw [F1.2.1 2 (by simp)]; exact (hv q (by omega)).2
        have vq := (hv q (by omega)).1
        simp only []
        rw [P1.1.2.2.2.2.2.1, if_neg (nI_ge hq (by omega)), byteA t1 (by omega) hn, Option.bind_some, b1, ck_nI (by omega) (by decide), nI_clamp (by omega), bv_eq, ag_nI (by omega) (by decide), sA_21, if_pos rfl, upd_self, sA_1, P1.1.1, ite_ltn (by omega) (by omega)]
        by_cases c3 : v q < pC p
        · rw [if_pos c3, nI_add]
          refine hrec _ ⟨_, rfl, F1.sA (by simp), fun j hj => ?_⟩
          rw [sA_21, if_pos rfl]
          by_cases ej : j = q
          · subst ej
            rw [upd_self]
            exact ⟨c3, rfl⟩
          · rw [upd_ne _ _ ej]
            exact a1 j (by omega)
        · rw [if_neg c3]
          exact Sat.of ⟨F1.sA (by simp), Or.inr ⟨rfl, fun z => c3 (z.2.2.1 q hq)⟩⟩
      · rintro rec _ ⟨g1, rfl, F1, a1⟩
        have P1 := hP.fr F1 (by simp) (by simp)
        simp only []
        rw [P1.1.2.2.2.2.2.1, if_pos (nI_le (Nat.le_refl _) (by omega)), bv_eq]
        refine Sat.lp (fun c s => ∃ g', s = (nI c, g') ∧ Fr [3100] [32, 33, 34] w0 g g' ∧ (∀ j, j < pP p → g'.2.1 32 j = nI (v j)) ∧ g'.1 3100 = nI (mk (fun i => decide (i < c) && decide (v (pP p + 3 * i) = 1)) 8) ∧ ∀ d, d < c → (v (pP p + 3 * d) ≤ 1 ∧ v (pP p + 3 * d + 1) < tu p (hm p d) ∧ v (pP p + 3 * d + 2) ≤ 12) ∧ g'.2.1 33 d = nI (v (pP p + 3 * d + 1)) ∧ g'.2.1 34 d = nI (v (pP p + 3 * d + 2))) (pK p) (by omega) ⟨_, rfl, F1.sS (by simp), fun j hj => (a1 j hj).2, by rw [mkp_0]; rfl, fun d hd => by omega⟩ ?_ ?_
        · rintro rec2 c _ hc ⟨g2, rfl, F2, b0, b1, b2⟩ hrec2
          have P2 := hP.fr F2 (by simp) (by simp)
          have tq := hw.q (hw.h hc)
          have ft : ∀ (g' : G), Fr [3100] [32, 33, 34] w0 g g' → ∀ k, k < n → fA_Tape_byteAt (nI k) g' = some (nI (v k)) := by
            intro g' Fg k hk
            rw [byteA ((Fg.1 101 (by simp)).trans e) hk hn, Fg.2.1 2 (by simp), (hv k hk).2]
          have v0 := (hv (pP p + 3 * c) (by omega)).1
          have v1 := (hv (pP p + 3 * c + 1) (by omega)).1
          have v2 := (hv (pP p + 3 * c + 2) (by omega)).1
          have body : fA_Fleet_readCraftImage (nI c) g2 = some ((if v (pP p + 3 * c) ≤ 1 ∧ v (pP p + 3 * c + 1) < tu p (hm p c) ∧ v (pP p + 3 * c + 2) ≤ 12 then (1 : Int32) else 0), sA (sA (sS g2 3100 (nI (mk (fun i => decide (i < c + 1) && decide (v (pP p + 3 * i) = 1)) 8))) 33 c (nI (v (pP p + 3 * c + 1)))) 34 c (nI (v (pP p + 3 * c + 2)))) := by
            unfold fA_Fleet_readCraftImage
            rw [P2.1.2.2.2.2.2.1, show (3 : Int32) * nI c = nI (3 * c) from nI_mul 3 c, nI_add, bv_eq, ft g2 F2 _ (by omega), Option.bind_some, lj_eq]
            have go : ∀ b3 : Int32, b3 = nI ((decide (v (pP p + 3 * c) = 1)).toNat <<< c) → (bv (sS g2 3100 ((g2.1 3100) ||| b3)) fun g4 => Option.bind (fA_Tape_byteAt (nI (pP p + 3 * c) + 1) g4) fun x5 => ck 8 (nI c) (bv (sA g4 33 (nI c : Int32).toNatClampNeg x5) fun g6 => Option.bind (fA_Tape_byteAt (nI (pP p + 3 * c) + 2) g6) fun x7 => ck 8 (nI c) (bv (sA g6 34 (nI c : Int32).toNatClampNeg x7) fun g8 => (if 1 < nI (v (pP p + 3 * c)) then some (0, g8) else ag 8 (g8.2.1 33) (nI c) fun x9 => Option.bind (fA_Plan_turnOf_2 (nI c) g8) fun x10 => (if x10 ≤ x9 then some (0, g8) else ag 8 (g8.2.1 34) (nI c) fun x11 => (if 12 < x11 then some (0, g8) else some (1, g8))))))) = some ((if v (pP p + 3 * c) ≤ 1 ∧ v (pP p + 3 * c + 1) < tu p (hm p c) ∧ v (pP p + 3 * c + 2) ≤ 12 then (1 : Int32) else 0), sA (sA (sS g2 3100 (nI (mk (fun i => decide (i < c + 1) && decide (v (pP p + 3 * i) = 1)) 8))) 33 c (nI (v (pP p + 3 * c + 1)))) 34 c (nI (v (pP p + 3 * c + 2)))) := by
              intro b3 eb3
              have Fx : Fr [3100] [32, 33, 34] w0 g (sS g2 3100 (nI (mk (fun i => decide (i < c + 1) && decide (v (pP p + 3 * i) = 1)) 8))) := F2.sS (by simp)
              have Fy := Fx.sA (k := 33) (i := c) (v := nI (v (pP p + 3 * c + 1))) (by simp)
              have Fz := Fy.sA (k := 34) (i := c) (v := nI (v (pP p + 3 * c + 2))) (by simp)
              rw [b1, eb3, n_or, mkp_succ (fun i => decide (v (pP p + 3 * i) = 1)) (show c < 8 by omega), bv_eq, show (nI (pP p + 3 * c) + 1 : Int32) = nI (pP p + 3 * c + 1) from nI_add _ 1, ft _ Fx _ (by omega), Option.bind_some, ck_nI (by omega) (by decide), nI_clamp (by omega), bv_eq, show (nI (pP p + 3 * c) + 2 : Int32) = nI (pP p + 3 * c + 2) from nI_add _ 2, ft _ Fy _ (by omega), Option.bind_some, ck_nI (by omega) (by decide), bv_eq, ag_nI (by omega) (by decide), turnA hw (hP.fr Fz (by simp) (by simp)) hc, Option.bind_some, ag_nI (by omega) (by decide)]
              have x33 : (sA (sA (sS g2 3100 (nI (mk (fun i => decide (i < c + 1) && decide (v (pP p + 3 * i) = 1)) 8))) 33 c (nI (v (pP p + 3 * c + 1)))) 34 c (nI (v (pP p + 3 * c + 2)))).2.1 33 c = nI (v (pP p + 3 * c + 1)) := upd_self _ _ _
              have x34 : (sA (sA (sS g2 3100 (nI (mk (fun i => decide (i < c + 1) && decide (v (pP p + 3 * i) = 1)) 8))) 33 c (nI (v (pP p + 3 * c + 1)))) 34 c (nI (v (pP p + 3 * c + 2)))).2.1 34 c = nI (v (pP p + 3 * c + 2)) := upd_self _ _ _
              rw [x33, x34, show (1 : Int32) = nI 1 from rfl, show (12 : Int32) = nI 12 from rfl, ite_ltn (by decide) (by omega), ite_len (by omega) (by omega), ite_ltn (by decide) (by omega)]
              by_cases d1 : 1 < v (pP p + 3 * c)
              · rw [if_pos d1, if_neg (by omega)]
              · rw [if_neg d1]
                by_cases d2 : tu p (hm p c) ≤ v (pP p + 3 * c + 1)
                · rw [if_pos d2, if_neg (by omega)]
                · rw [if_neg d2]
                  by_cases d3 : 12 < v (pP p + 3 * c + 2)
                  · rw [if_pos d3, if_neg (by omega)]
                  · rw [if_neg d3, if_pos ⟨by omega, by omega, by omega⟩]
            by_cases d : v (pP p + 3 * c) = 1
            · rw [if_pos (show nI (v (pP p + 3 * c)) = 1 by rw [d]; rfl)]
              apply go
              rw [decide_eq_true d]
              simp only [nl]
              rw [n_31 (by omega), n_shl _ (by omega)]
              rfl
            · rw [if_neg (show ¬ nI (v (pP p + 3 * c)) = 1 from fun z => d ((nI_eq (b := 1) (by omega) (by decide)).mp z))]
              apply go
              rw [decide_eq_false d]
              simp
              rfl
          simp only []
          rw [P2.1.2.2.2.2.2.2.1, if_neg (nI_ge hc (by omega)), body, Option.bind_some]
          dsimp only
          have Fz : Fr [3100] [32, 33, 34] w0 g (sA (sA (sS g2 3100 (nI (mk (fun i => decide (i < c + 1) && decide (v (pP p + 3 * i) = 1)) 8))) 33 c (nI (v (pP p + 3 * c + 1)))) 34 c (nI (v (pP p + 3 * c + 2)))) := ((F2.sS (by simp)).sA (by simp)).sA (by simp)
          by_cases ok : v (pP p + 3 * c) ≤ 1 ∧ v (pP p + 3 * c + 1) < tu p (hm p c) ∧ v (pP p + 3 * c + 2) ≤ 12
          · rw [if_pos ok, if_neg (show ¬ (1 : Int32) = nI 0 by decide), nI_add]
            refine hrec2 _ ⟨_, rfl, Fz, b0, rfl, fun d hd => ?_⟩
            by_cases ed : d = c
            · subst ed
              exact ⟨ok, upd_self _ _ _, upd_self _ _ _⟩
            · have q := b2 d (by omega)
              exact ⟨q.1, (upd_ne _ _ ed).trans q.2.1, (upd_ne _ _ ed).trans q.2.2⟩
          · rw [if_neg ok, if_pos (show (0 : Int32) = nI 0 from rfl)]
            exact Sat.of ⟨Fz, Or.inr ⟨rfl, fun z => ok (z.2.2.2 c hc)⟩⟩
        · rintro rec2 _ ⟨g2, rfl, F2, b0, b1, b2⟩
          have P2 := hP.fr F2 (by simp) (by simp)
          simp only []
          rw [P2.1.2.2.2.2.2.2.1, if_pos (nI_le (Nat.le_refl _) (by omega))]
          refine Sat.of ⟨F2, Or.inl ⟨rfl, c1, ⟨c2, fun q hq => (a1 q hq).1, fun c hc => (b2 c hc).1⟩, b1, b0, fun c hc => ⟨(b2 c hc).2.1, (b2 c hc).2.2⟩⟩⟩
    · rw [if_neg c2]
      exact Sat.of ⟨Fr.rf, Or.inr ⟨rfl, fun z => c2 z.2.1⟩⟩
  · rw [if_neg c1]
    exact Sat.of ⟨Fr.rf, Or.inr ⟨rfl, fun z => c1 z.1⟩⟩
