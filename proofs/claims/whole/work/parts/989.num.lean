/-! THE TEXT: numbers -/
theorem dv_1 {n : Nat} {T : Nat → Nat} {s : Nat} (h : bkD n T s = true) : dv T s 1 ≤ 9 := by
  have := bkD_iff.mp h
  have e : dv T s 1 = 10 * 0 + (T (s + 0) - 48) := rfl
  rw [e, Nat.add_zero]
  omega
theorem dv_step {n : Nat} {T : Nat → Nat} {s i : Nat} (h : bkD n T (s + i) = true) : (10 * nI (dv T s i) + nI (T (s + i)) - 48 : Int32) = nI (dv T s (i + 1)) := by
  have := bkD_iff.mp h
  rw [show (10 : Int32) = nI 10 from rfl, show (48 : Int32) = nI 48 from rfl, nI_mul, nI_add, nI_sub (by omega)]
  congr 1
  have e : dv T s (i + 1) = 10 * dv T s i + (T (s + i) - 48) := rfl
  rw [e]
  omega
theorem dv_le {n : Nat} {T : Nat → Nat} {s : Nat} (h : bkD n T s = true) : dv T s (nd' n T s) ≤ 99 ∧ (nd' n T s = 1 ∨ nd' n T s = 2) := by
  have h1 := dv_1 h
  unfold nd'
  by_cases z : bkD n T (s + 1) = true
  · rw [if_pos z]
    have := bkD_iff.mp z
    have e : dv T s 2 = 10 * dv T s 1 + (T (s + 1) - 48) := rfl
    rw [e]
    omega
  · rw [if_neg z]
    omega
theorem xNu_0 {n : Nat} {T : Nat → Nat} {lo hi : Nat} {X : Xs} (h : X.1 = 0) (hb : (tch n T (skp n T X.2.2.1) || !bkD n T (skp n T X.2.2.1)) = true) : xNu n T lo hi X = (0, fl 1 (skp n T X.2.2.1)) := by
  unfold xNu
  rw [if_neg (fun z => z h), if_pos hb]
theorem xNu_1 {n : Nat} {T : Nat → Nat} {lo hi : Nat} {X : Xs} (h : X.1 = 0) (ht : tch n T (skp n T X.2.2.1) = false) (hd : bkD n T (skp n T X.2.2.1) = true) (h1 : bkD n T (skp n T X.2.2.1 + 1) = true) (h2 : bkD n T (skp n T X.2.2.1 + 2) = true) : xNu n T lo hi X = (0, fl 1 (skp n T X.2.2.1 + 2)) := by
  unfold xNu
  rw [if_neg (fun z => z h), if_neg (by rw [ht, hd]; decide), if_pos (by rw [h1, h2]; rfl)]
theorem xNu_2 {n : Nat} {T : Nat → Nat} {lo hi : Nat} {X : Xs} (h : X.1 = 0) (ht : tch n T (skp n T X.2.2.1) = false) (hd : bkD n T (skp n T X.2.2.1) = true) (h1 : ¬ (bkD n T (skp n T X.2.2.1 + 1) && bkD n T (skp n T X.2.2.1 + 2)) = true) : xNu n T lo hi X =
    if lo ≤ dv T (skp n T X.2.2.1) (nd' n T (skp n T X.2.2.1)) ∧ dv T (skp n T X.2.2.1) (nd' n T (skp n T X.2.2.1)) ≤ hi then (dv T (skp n T X.2.2.1) (nd' n T (skp n T X.2.2.1)), (0, 0, skp n T X.2.2.1 + nd' n T (skp n T X.2.2.1), skp n T X.2.2.1)) else (0, fl 2 (skp n T X.2.2.1)) := by
  unfold xNu
  rw [if_neg (fun z => z h), if_neg (by rw [ht, hd]; decide), if_neg h1]
/-- a number was read -/
theorem xNu_ok {n : Nat} {T : Nat → Nat} {lo hi : Nat} {X : Xs} (h : X.1 = 0) (ha : X.2.2.1 ≤ n) (hz : (xNu n T lo hi X).2.1 = 0) : (lo ≤ (xNu n T lo hi X).1 ∧ (xNu n T lo hi X).1 ≤ hi ∧ (xNu n T lo hi X).1 ≤ 99) ∧ (xNu n T lo hi X).2.2.2.2 < (xNu n T lo hi X).2.2.2.1 ∧ X.2.2.1 ≤ (xNu n T lo hi X).2.2.2.2 := by
  have hs := skp_all T ha
  cases ht : tch n T (skp n T X.2.2.1)
  · cases hd : bkD n T (skp n T X.2.2.1)
    · rw [xNu_0 h (by rw [hd, Bool.not_false, Bool.or_true])] at hz
      exact absurd hz (by show ¬ (1 : Nat) = 0; decide)
    · by_cases h1 : (bkD n T (skp n T X.2.2.1 + 1) && bkD n T (skp n T X.2.2.1 + 2)) = true
      · rw [Bool.and_eq_true] at h1
        rw [xNu_1 h ht hd h1.1 h1.2] at hz
        exact absurd hz (by show ¬ (1 : Nat) = 0; decide)
      · have d := dv_le hd
        rw [xNu_2 h ht hd h1] at hz ⊢
        by_cases r : lo ≤ dv T (skp n T X.2.2.1) (nd' n T (skp n T X.2.2.1)) ∧ dv T (skp n T X.2.2.1) (nd' n T (skp n T X.2.2.1)) ≤ hi
        · rw [if_pos r]
          refine ⟨⟨r.1, r.2, d.1⟩, ?_, hs.1⟩
          show skp n T X.2.2.1 < skp n T X.2.2.1 + nd' n T (skp n T X.2.2.1)
          omega
        · rw [if_neg r] at hz
          exact absurd hz (by show ¬ (2 : Nat) = 0; decide)
  · rw [xNu_0 h (by rw [ht, Bool.true_or])] at hz
    exact absurd hz (by show ¬ (1 : Nat) = 0; decide)
theorem xNu_99 {n : Nat} {T : Nat → Nat} {lo hi : Nat} {X : Xs} : (xNu n T lo hi X).1 ≤ 99 := by
  unfold xNu
  by_cases h : X.1 ≠ 0
  · rw [if_pos h]; exact Nat.zero_le _
  · rw [if_neg h]
    by_cases hb : (tch n T (skp n T X.2.2.1) || !bkD n T (skp n T X.2.2.1)) = true
    · rw [if_pos hb]; exact Nat.zero_le _
    · rw [if_neg hb]
      have hd : bkD n T (skp n T X.2.2.1) = true := by
        cases e : bkD n T (skp n T X.2.2.1)
        · rw [e, Bool.not_false, Bool.or_true] at hb
          exact absurd rfl hb
        · rfl
      have := dv_le hd
      split
      · exact Nat.zero_le _
      · split
        · exact this.1
        · exact Nat.zero_le _
set_option maxHeartbeats 1000000 in
theorem numA {n : Nat} {T : Nat → Nat} {X : Xs} {g : G} {lo hi : Nat} (hx : TX n T) (h : LA n T X g) (h0 : X.1 = 0) (hlo : lo < 2 ^ 31) (hhi : hi < 2 ^ 31) :
    Sat (fA_Reader_takeNumber (nI lo) (nI hi) g) (fun r => Fr aS [] w0 g r.2 ∧ LA n T (xNu n T lo hi X).2 r.2 ∧ r.1 = bI (decide ((xNu n T lo hi X).2.1 = 0)) ∧ ((xNu n T lo hi X).2.1 = 0 → r.2.1 3510 = nI (xNu n T lo hi X).1)) := by
  obtain ⟨hT, hk, h4, _⟩ := h
  obtain ⟨p1, p2, p3, p4, p5⟩ := h4 h0
  have hn := hx.1
  have hs := skp_all T p2
  obtain ⟨Q, hQ⟩ : ∃ Q : Int32 × G → Prop, Q = fun r => Fr aS [] w0 g r.2 ∧ LA n T (xNu n T lo hi X).2 r.2 ∧ r.1 = bI (decide ((xNu n T lo hi X).2.1 = 0)) ∧ ((xNu n T lo hi X).2.1 = 0 → r.2.1 3510 = nI (xNu n T lo hi X).1) := ⟨_, rfl⟩
  rw [← hQ]
  unfold fA_Reader_takeNumber
  refine (skipA hx hT p2 p3 p4).bind ?_
  rintro g1 ⟨F1, a1, t1⟩
  have T1 := hT.fr F1 (by simp) (by simp)
  obtain ⟨s, es⟩ : ∃ s, s = skp n T X.2.2.1 := ⟨_, rfl⟩
  rw [← es] at a1 t1 hs
  have F1' : Fr aS [] w0 g g1 := F1.wd (by decide) (by simp) (by simp)
  rw [lj_eq, a1, t1]
  have bad : (tch n T s || !bkD n T s) = true → Sat (Option.bind (fA_Reader_fail 1 (nI s) g1) fun x3 => bt x3.1 (some (x3.1, x3.2))) Q := by
    intro hb
    obtain ⟨g2, e2, F2, L2⟩ := failA (k := 1) (w := s) T1 (by decide) (by decide)
    rw [show (1 : Int32) = nI 1 from rfl, e2, Option.bind_some]
    dsimp only
    rw [btz, hQ, xNu_0 h0 (by rw [← es]; exact hb), ← es]
    exact Sat.of ⟨F1'.tr F2 (by decide) (by simp) (by simp), L2, rfl, fun z => absurd z (by show ¬ (1 : Nat) = 0; decide)⟩
  cases et : tch n T s
  · rw [if_pos b0, bytA hx T1 (by omega), Option.bind_some, isDigitA hx, Option.bind_some]
    cases el : bkD n T s
    · rw [if_pos b0]
      exact bad (by rw [el, Bool.not_false, Bool.or_true])
    · rw [if_neg b1, bv_eq, bv_eq]
      have dl := dv_le el
      have sn := (bkD_iff.mp el).1
      obtain ⟨g7, hg7⟩ : ∃ g7, g7 = sS (sS g1 3507 (nI s)) 3510 0 := ⟨_, rfl⟩
      have F7 : Fr aS [] w0 g g7 := by
        rw [hg7]
        exact (F1'.sS (by decide)).sS (by decide)
      have k70 : g7.1 3500 = nI 0 := by
        rw [hg7]
        show g1.1 3500 = _
        rw [F1.1 3500 (by simp), hk.2, h0]
      have k71 : g7.1 3501 = m1 := by
        rw [hg7]
        show g1.1 3501 = _
        rw [F1.1 3501 (by simp), p1]
      have k72 : g7.1 3507 = nI s := by
        rw [hg7]
        rfl
      have k73 : g7.1 3506 = nI (s + 0) := by
        rw [hg7]
        exact a1
      have k74 : g7.1 3510 = nI (dv T s 0) := by
        rw [hg7]
        rfl
      rw [← hg7]
      have hd : ∀ i, i < nd' n T s → bkD n T (s + i) = true := by
        intro i hi
        have h2 := dl.2
        by_cases z : i = 0
        · rw [z]; exact el
        · have e1 : i = 1 := by omega
          rw [e1]
          unfold nd' at hi
          by_cases y : bkD n T (s + 1) = true
          · exact y
          · rw [if_neg y] at hi
            omega
      refine Sat.lp (fun i g' => Fr [3506, 3510] [] w0 g7 g' ∧ g'.1 3506 = nI (s + i) ∧ g'.1 3510 = nI (dv T s i)) (nd' n T s) (by omega) ⟨Fr.rf, k73, k74⟩ ?_ ?_
      · rintro rec i g' hi ⟨F, k3, k4⟩ hrec
        have T' := hT.fr (F7.tr F (by decide) (by simp) (by simp)) (by decide) (by simp)
        have q := hd i hi
        have k2 : g'.1 3507 = nI s := by rw [F.1 3507 (by simp), k72]
        have dl2 := dl.2
        rw [lj_eq, k2, k3, show (nI s + 2 : Int32) = nI (s + 2) from nI_add s 2, if_neg (nI_ge (by omega) (by omega)), bytA hx T' (by omega), Option.bind_some, isDigitA hx, Option.bind_some, q, if_neg b1, Option.bind_some, bv_eq, bv_eq, k4, show byt n T (s + i) = nI (T (s + i)) from if_pos (bkD_iff.mp q).1, dv_step q]
        refine hrec _ ⟨(F.sS (by simp)).sS (by simp), ?_, rfl⟩
        show g'.1 3506 + 1 = _
        rw [k3]
        exact nI_add (s + i) 1
      · rintro rec g' ⟨F, k3, k4⟩
        have F' : Fr aS [] w0 g g' := F7.tr F (by decide) (by simp) (by simp)
        have T' := hT.fr F' (by decide) (by simp)
        have k2 : g'.1 3507 = nI s := by rw [F.1 3507 (by simp), k72]
        have dl2 := dl.2
        obtain ⟨v, ev⟩ : ∃ v, v = dv T s (nd' n T s) := ⟨_, rfl⟩
        rw [← ev] at k4 dl
        obtain ⟨g10, hg10⟩ : ∃ g10, g10 = sS g' 3511 1 := ⟨_, rfl⟩
        have F10 : Fr aS [] w0 g g10 := by
          rw [hg10]
          exact F'.sS (by decide)
        have T10 := hT.fr F10 (by decide) (by simp)
        have m0 : g10.1 3500 = nI 0 := by
          rw [hg10]
          show g'.1 3500 = _
          rw [F.1 3500 (by simp), k70]
        have m1' : g10.1 3501 = m1 := by
          rw [hg10]
          show g'.1 3501 = _
          rw [F.1 3501 (by simp), k71]
        have m2 : g10.1 3507 = nI s := by
          rw [hg10]
          exact k2
        have m3 : g10.1 3506 = nI (s + nd' n T s) := by
          rw [hg10]
          exact k3
        have m4 : g10.1 3510 = nI v := by
          rw [hg10]
          exact k4
        have m5 : g10.1 3511 = bI (tch n T (s + nd' n T s)) := by
          rw [hg10]
          have q := hd (nd' n T s - 1) (by omega)
          have := tch_D q
          rw [show s + (nd' n T s - 1) + 1 = s + nd' n T s by omega] at this
          rw [this]
          rfl
        have sl : s + nd' n T s ≤ n := by
          have q := bkD_iff.mp (hd (nd' n T s - 1) (by omega))
          omega
        have fin : Sat (bv (sS g' 3511 1) fun g10 => Option.bind (fA_Tape_byteAt (g10.1 3506) g10) fun x11 => Option.bind (fA_Reader_isDigit x11 g10) fun x12 => (if x12 = 0 then lj (α := G) (fun b13 => some ((1 : Int32), b13)) fun J13 => lj (α := Unit) (fun b14 => Option.bind (fA_Reader_fail 2 (g10.1 3507) g10) fun x15 => (if x15.1 = 0 then some (0, x15.2) else J13 x15.2)) fun J14 => (if (g10.1 3510) < nI lo then J14 () else (if (g10.1 3510) ≤ nI hi then J13 g10 else J14 ())) else Option.bind (fA_Reader_fail 1 (g10.1 3506) g10) fun x16 => bt x16.1 (some (x16.1, x16.2)))) Q := by
          rw [bv_eq, ← hg10, m3, bytA hx T10 (by omega), Option.bind_some, isDigitA hx, Option.bind_some]
          cases e3 : bkD n T (s + nd' n T s)
          · rw [if_pos b0, lj_eq, lj_eq, m4, m2, ite_ltn (by omega) hlo, ite_len (by omega) hhi]
            have hn1 : ¬ (bkD n T (s + 1) && bkD n T (s + 2)) = true := by
              intro z
              rw [Bool.and_eq_true] at z
              have : nd' n T s = 2 := if_pos z.1
              rw [this, z.2] at e3
              exact absurd e3 (by decide)
            have ex : xNu n T lo hi X = if lo ≤ v ∧ v ≤ hi then (v, (0, 0, s + nd' n T s, s)) else (0, fl 2 s) := by
              rw [xNu_2 h0 (by rw [← es]; exact et) (by rw [← es]; exact el) (by rw [← es]; exact hn1), ← es, ← ev]
            have no : ¬ (lo ≤ v ∧ v ≤ hi) → Sat (Option.bind (fA_Reader_fail 2 (nI s) g10) fun x15 => (if x15.1 = 0 then some ((0 : Int32), x15.2) else some (1, x15.2))) Q := by
              intro z
              obtain ⟨g2, e2, F2, L2⟩ := failA (k := 2) (w := s) T10 (by decide) (by decide)
              rw [show (2 : Int32) = nI 2 from rfl, e2, Option.bind_some]
              dsimp only
              rw [if_pos rfl, hQ, ex, if_neg z]
              exact Sat.of ⟨F10.tr F2 (by decide) (by simp) (by simp), L2, rfl, fun z => absurd z (by show ¬ (2 : Nat) = 0; decide)⟩
            by_cases l1 : v < lo
            · rw [if_pos l1]
              exact no (by omega)
            · rw [if_neg l1]
              by_cases l2 : v ≤ hi
              · rw [if_pos l2, hQ, ex, if_pos ⟨by omega, l2⟩]
                exact Sat.of ⟨F10, ⟨T10, ⟨Nat.zero_le _, m0⟩, fun _ => ⟨m1', sl, m3, m5, fun _ => m2⟩, fun z => absurd rfl z⟩, rfl, fun _ => m4⟩
              · rw [if_neg l2]
                exact no (by omega)
          · rw [if_neg b1]
            have n2 : nd' n T s = 2 := by
              rcases dl2 with z | z
              · unfold nd' at z
                by_cases y : bkD n T (s + 1) = true
                · rw [if_pos y] at z
                  omega
                · rw [show nd' n T s = 1 from if_neg y] at e3
                  exact absurd e3 y
              · exact z
            have d1 : bkD n T (s + 1) = true := hd 1 (by omega)
            rw [n2] at e3 ⊢
            obtain ⟨g2, e2, F2, L2⟩ := failA (k := 1) (w := s + 2) T10 (by decide) (by decide)
            rw [show (1 : Int32) = nI 1 from rfl, e2, Option.bind_some]
            dsimp only
            rw [btz, hQ, xNu_1 h0 (by rw [← es]; exact et) (by rw [← es]; exact el) (by rw [← es]; exact d1) (by rw [← es]; exact e3), ← es]
            exact Sat.of ⟨F10.tr F2 (by decide) (by simp) (by simp), L2, rfl, fun z => absurd z (by show ¬ (1 : Nat) = 0; decide)⟩
        rw [lj_eq, k2, k3, show (nI s + 2 : Int32) = nI (s + 2) from nI_add s 2]
        by_cases l2 : nd' n T s = 2
        · rw [l2, if_pos (nI_le (Nat.le_refl _) (by omega))]
          exact fin
        · have l1 : nd' n T s = 1 := by omega
          have y : bkD n T (s + 1) = false := by
            cases y : bkD n T (s + 1)
            · rfl
            · exact absurd (show nd' n T s = 2 from if_pos y) l2
          rw [l1, if_neg (nI_ge (by omega) (by omega)), bytA hx T' (by omega), Option.bind_some, isDigitA hx, Option.bind_some, y, if_pos b0]
          exact fin
  · rw [if_neg b1]
    exact bad (by rw [et, Bool.true_or])
