/-! THE CALLS: cover, score -/
def shr (p : Pl) (y : Nat) : UInt32 := FP.fdiv (FP.i2f (nI (wd p y))) (FP.i2f (nI (al p)))
def rpt (s x : UInt32) : Nat → UInt32
  | 0 => s
  | n + 1 => FP.fadd (rpt s x n) x
/-- what is covered, weighed, by rows -/
def cvr (p : Pl) (b : Nat → Nat → Bool) : Nat → UInt32
  | 0 => FP.fconst0
  | y + 1 => rpt (cvr p b y) (shr p y) (cn (b y) (pC p))
/-- the mean of the cycle -/
def scr (p : Pl) (H : Nat → Nat → Nat → Bool) : Nat → UInt32
  | 0 => FP.fconst0
  | t + 1 => FP.fadd (scr p H t) (FP.fdiv (cvr p (H t) (pR p)) (FP.i2f (nI (pY p))))
theorem wd_pos {p : Pl} (hw : WP p) {y : Nat} (hy : y < pR p) : 0 < wd p y := by
  have h1 := hw.c
  unfold wd
  have : ds (2 * y) (pR p - 1) ≤ pR p - 1 := by
    unfold ds
    split <;> omega
  omega
theorem sm_ge2 {f : Nat → Nat} : ∀ {n i : Nat}, i < n → f i ≤ sm f n
  | 0, i, h => absurd h (Nat.not_lt_zero i)
  | n + 1, i, h => by
    have e : sm f (n + 1) = sm f n + f n := rfl
    rw [e]
    by_cases l : i = n
    · rw [l]; omega
    · have := sm_ge2 (f := f) (n := n) (i := i) (by omega)
      omega
theorem sm_le2 {f : Nat → Nat} {m : Nat} (h : ∀ i, f i ≤ m) : ∀ n, sm f n ≤ n * m
  | 0 => by rw [Nat.zero_mul]; exact Nat.le_refl _
  | n + 1 => by
    have e : sm f (n + 1) = sm f n + f n := rfl
    have := sm_le2 h n
    have := h n
    rw [e, Nat.succ_mul]
    omega
theorem al_b {p : Pl} (hw : WP p) : al p ≤ 2 ^ 12 ∧ ∀ y, y < pR p → wd p y ≤ al p := by
  have h1 := hw.c
  refine ⟨?_, fun y hy => ?_⟩
  · unfold al
    have := sm_le2 (f := fun y => pC p * wd p y) (m := 24 * 12) (fun i => Nat.mul_le_mul (by omega) (Nat.le_trans (wd_le p i) (by omega))) (pR p)
    have h2 : pR p * (24 * 12) ≤ 12 * (24 * 12) := Nat.mul_le_mul_right _ (by omega)
    omega
  · unfold al
    have := sm_ge2 (f := fun y => pC p * wd p y) hy
    have h2 : wd p y ≤ pC p * wd p y := Nat.le_mul_of_pos_left _ (by omega)
    exact Nat.le_trans h2 this
theorem shr_b {p : Pl} (hw : WP p) {y : Nat} (hy : y < pR p) : lz (shr p y) 1 ∧ gz 115 (shr p y) := by
  have a := al_b hw
  have w0 := wd_pos hw hy
  have w1 := a.2 y hy
  exact ⟨lz.share (by omega) (by omega) w1, gz.share (by omega) a.1 w0 (by omega)⟩
theorem rpt_b {s x : UInt32} {N : Nat} (hs : lz s N ∧ gz 115 s) (hx : lz x 1 ∧ gz 115 x) : ∀ n, N + n ≤ 2 ^ 24 → lz (rpt s x n) (N + n) ∧ gz 115 (rpt s x n)
  | 0, _ => hs
  | n + 1, h => by
    have ih := rpt_b hs hx n (by omega)
    have a1 := lz.add ih.1 hx.1 (by omega)
    have a2 := gz.add ih.2 hx.2 ih.1.1 hx.1.1 (by decide) (by decide)
    rw [← Nat.add_assoc]
    exact ⟨a1, a2⟩
theorem z_b : lz FP.fconst0 0 ∧ gz 115 FP.fconst0 ∧ gz 107 FP.fconst0 := by
  refine ⟨⟨by decide, ?_⟩, Or.inl rfl, Or.inl rfl⟩
  rw [show (FP.fconst0).toNat = 0 from rfl, FP.Core.unitsOf_zero]
  exact Nat.zero_le _
theorem lz.mono {x : UInt32} {N M : Nat} (h : lz x N) (l : N ≤ M) : lz x M := ⟨h.1, Nat.le_trans h.2 (Nat.mul_le_mul_right _ l)⟩
theorem cvr_b {p : Pl} (hw : WP p) (b : Nat → Nat → Bool) : ∀ y, y ≤ pR p → lz (cvr p b y) (y * 24) ∧ gz 115 (cvr p b y)
  | 0, _ => ⟨z_b.1, z_b.2.1⟩
  | y + 1, h => by
    have h1 := hw.c
    have ih := cvr_b hw b y (by omega)
    have c := cn_le (b y) (pC p)
    have := rpt_b ih (shr_b hw (by omega : y < pR p)) (cn (b y) (pC p)) (by omega)
    exact ⟨this.1.mono (by omega), this.2⟩
theorem dv_b {p : Pl} (hw : WP p) (b : Nat → Nat → Bool) : lz (FP.fdiv (cvr p b (pR p)) (FP.i2f (nI (pY p)))) 288 ∧ gz 107 (FP.fdiv (cvr p b (pR p)) (FP.i2f (nI (pY p)))) := by
  have h1 := hw.c
  have c := cvr_b hw b (pR p) (Nat.le_refl _)
  exact ⟨(c.1.mono (by omega)).div (by decide) (by omega) (by omega), gz.div (k := 8) c.2 c.1.1 (by omega) (by omega) (by decide) (by decide) (by decide) (by decide)⟩
theorem scr_b {p : Pl} (hw : WP p) (H : Nat → Nat → Nat → Bool) : ∀ t, t ≤ pY p → lz (scr p H t) (t * 288) ∧ gz 107 (scr p H t)
  | 0, _ => ⟨z_b.1, z_b.2.2⟩
  | t + 1, h => by
    have h1 := hw.c
    have ih := scr_b hw H t (by omega)
    have d := dv_b hw (H t)
    exact ⟨(ih.1.add d.1 (by omega)).mono (by omega), ih.2.add d.2 ih.1.1 d.1.1 (by decide) (by decide)⟩
theorem agf_nI {β : Type} {n i : Nat} {f : Nat → UInt32} {K : UInt32 → Option β} (h : i < n) (hn : n < 2 ^ 31) : agf n f (nI i) K = K (f i) := by
  rw [agf, if_neg (nI_in h hn), nI_clamp (by omega)]
theorem cvr_cong {p : Pl} {b b' : Nat → Nat → Bool} : ∀ {n : Nat}, (∀ y x, y < n → x < pC p → b y x = b' y x) → cvr p b n = cvr p b' n
  | 0, _ => rfl
  | n + 1, h => by
    show rpt (cvr p b n) (shr p n) (cn (b n) (pC p)) = rpt (cvr p b' n) (shr p n) (cn (b' n) (pC p))
    rw [cvr_cong (fun y x hy hx => h y x (by omega) hx), cn_cong (fun x hx => h n x (by omega) hx)]
theorem scr_cong {p : Pl} {H H' : Nat → Nat → Nat → Bool} : ∀ {n : Nat}, (∀ t y x, t < n → y < pR p → x < pC p → H t y x = H' t y x) → scr p H n = scr p H' n
  | 0, _ => rfl
  | n + 1, h => by
    show FP.fadd (scr p H n) (FP.fdiv (cvr p (H n) (pR p)) (FP.i2f (nI (pY p)))) = FP.fadd (scr p H' n) (FP.fdiv (cvr p (H' n) (pR p)) (FP.i2f (nI (pY p))))
    rw [scr_cong (fun t y x ht hy hx => h t y x (by omega) hy hx), cvr_cong (fun y x hy hx => h n y x (by omega) hy hx)]
theorem coverA {p : Pl} (hw : WP p) {g : G} (hP : PA p g) (hS : SH p g) {H : Nat → Nat → Nat → Bool} (hH : HH p 128 H g) {t : Nat} (ht : t < pY p) : fA_Sky_coverAt (nI t) g = some (cvr p (H t) (pR p)) := by
  have h1 := hw.c
  apply Sat.eq
  unfold fA_Sky_coverAt
  refine Sat.lp (fun y s => s = (cvr p (H t) y, nI y)) (pR p) (by omega) rfl ?_ ?_
  · rintro rec y _ hy rfl hrec
    have b := cvr_b hw (H t) y (by omega)
    have hs := shr_b hw hy
    have cl := cn_le (H t y) (pC p)
    simp only []
    rw [hP.1.2.1, if_neg (nI_ge hy (by omega)), agf_nI (by omega) (by decide), hS y hy, show (nI y * 240 + nI t : Int32) = nI (y * 240 + t) by rw [show (240 : Int32) = nI 240 from rfl, nI_mul, nI_add], ag_nI (by omega) (by decide), hH t y ht hy, bitCount_eq (Nat.lt_of_lt_of_le (mk_lt _ _) (Nat.pow_le_pow_right (by decide) (by omega))), Option.bind_some, pc_mk (by omega)]
    refine Sat.lp (fun k s => s = (rpt (cvr p (H t) y) (shr p y) k, nI (cn (H t y) (pC p) - k))) (cn (H t y) (pC p)) (by omega) rfl ?_ ?_
    · rintro rec2 k _ hk rfl hrec2
      have q := rpt_b b hs (k + 1) (by omega)
      simp only []
      rw [if_neg (show ¬ nI (cn (H t y) (pC p) - k) ≤ 0 from nI_ge (a := 0) (by omega) (by omega)), nf_eq (show (FP.fadd (rpt (cvr p (H t) y) (shr p y) k) (FP.fdiv (FP.i2f (nI (wd p y))) (FP.i2f (nI (al p))))).toNat ≤ 2139095040 from Nat.le_of_lt q.1.1), bv_eq, n_m1 (by omega)]
      exact hrec2 _ (by rw [show cn (H t y) (pC p) - k - 1 = cn (H t y) (pC p) - (k + 1) by omega]; rfl)
    · rintro rec2 _ rfl
      simp only []
      rw [Nat.sub_self, if_pos (show nI 0 ≤ 0 by decide), show (nI y + 1 : Int32) = nI (y + 1) from nI_add y 1]
      exact hrec _ rfl
  · rintro rec _ rfl
    simp only []
    rw [hP.1.2.1, if_pos (nI_le (Nat.le_refl _) (by omega))]
    exact Sat.of rfl
theorem meanA {p : Pl} (hw : WP p) {g : G} (hP : PA p g) (hS : SH p g) {H : Nat → Nat → Nat → Bool} (hH : HH p 128 H g) : fA_Sky_meanCover g = some (scr p H (pY p)) := by
  have h1 := hw.c
  apply Sat.eq
  unfold fA_Sky_meanCover
  rw [hP.1.2.2.2.1, if_pos (show (0 : Int32) < nI (pY p) from nI_lt (a := 0) (by omega) (by omega)), bv_eq]
  refine Sat.lp (fun t s => s = (scr p H t, nI t)) (pY p) (by omega) rfl ?_ ?_
  · rintro rec t _ ht rfl hrec
    have d := dv_b hw (H t)
    have q := scr_b hw H (t + 1) (by omega)
    simp only []
    rw [if_neg (nI_ge ht (by omega)), coverA hw hP hS hH ht, Option.bind_some, nf_eq (Nat.le_of_lt d.1.1), nf_eq (show (FP.fadd (scr p H t) (FP.fdiv (cvr p (H t) (pR p)) (FP.i2f (nI (pY p))))).toNat ≤ 2139095040 from Nat.le_of_lt q.1.1), bv_eq, show (nI t + 1 : Int32) = nI (t + 1) from nI_add t 1]
    exact hrec _ rfl
  · rintro rec _ rfl
    simp only []
    rw [if_pos (nI_le (Nat.le_refl _) (by omega))]
    exact Sat.of rfl
theorem coverB {p : Pl} (hw : WP p) {f : Fl} {g : G} (hP : PB p g) (hL : LB p f g) {t : Nat} (s : Nat) (ht : t < 2 ^ 20) : fB_M_coverBy (nI t) (nI s) g = some (cvr p (fun y x => sb p f s t x y) (pR p)) := by
  have h1 := hw.c
  have a := al_b hw
  apply Sat.eq
  unfold fB_M_coverBy
  refine Sat.lp (fun y z => z = (cvr p (fun y x => sb p f s t x y) y, nI y)) (pR p) (by omega) rfl ?_ ?_
  · rintro rec y _ hy rfl hrec
    have b := cvr_b hw (fun y x => sb p f s t x y) y (by omega)
    have hs := shr_b hw hy
    simp only []
    rw [hP.1.2.1, if_neg (nI_ge hy (by omega)), widthB hw hP hy, Option.bind_some, hP.1.2.2.2.2.2.2.2.2, nf_eq (show (FP.fdiv (FP.i2f (nI (wd p y))) (FP.i2f (nI (al p)))).toNat ≤ 2139095040 from Nat.le_of_lt hs.1.1), bv_eq]
    refine Sat.lp (fun x z => z = (rpt (cvr p (fun y x => sb p f s t x y) y) (shr p y) (cn (fun x => sb p f s t x y) x), nI x)) (pC p) (by omega) rfl ?_ ?_
    · rintro rec2 x _ hx rfl hrec2
      have cl := cn_le (fun x => sb p f s t x y) x
      have q := rpt_b b hs (cn (fun x => sb p f s t x y) x + 1) (by omega)
      have hm : pC p * y + x < pC p * pR p := ixt (t := 0) hx hy
      have ec : (pC p * y + x) % pC p = x ∧ (pC p * y + x) / pC p = y := by
        constructor
        · rw [Nat.mul_add_mod, Nat.mod_eq_of_lt hx]
        · rw [Nat.mul_add_div (by omega), Nat.div_eq_of_lt hx, Nat.add_zero]
      simp only []
      rw [hP.1.1, if_neg (nI_ge hx (by omega)), nI_mul, nI_add, isByB hw hP hL hm ht, Option.bind_some, ec.1, ec.2, lj_eq, show (nI x + 1 : Int32) = nI (x + 1) from nI_add x 1]
      cases eb : sb p f s t x y
      · rw [if_pos (show bI false = (0 : Int32) from rfl)]
        exact hrec2 _ (by rw [cn_f (b := fun x => sb p f s t x y) eb])
      · rw [if_neg (show ¬ bI true = (0 : Int32) from z1), nf_eq (show (FP.fadd (rpt (cvr p (fun y x => sb p f s t x y) y) (shr p y) (cn (fun x => sb p f s t x y) x)) (FP.fdiv (FP.i2f (nI (wd p y))) (FP.i2f (nI (al p))))).toNat ≤ 2139095040 from Nat.le_of_lt q.1.1), bv_eq]
        exact hrec2 _ (by rw [cn_t (b := fun x => sb p f s t x y) eb]; rfl)
    · rintro rec2 _ rfl
      simp only []
      rw [hP.1.1, if_pos (nI_le (Nat.le_refl _) (by omega)), show (nI y + 1 : Int32) = nI (y + 1) from nI_add y 1]
      exact hrec _ rfl
  · rintro rec _ rfl
    simp only []
    rw [hP.1.2.1, if_pos (nI_le (Nat.le_refl _) (by omega))]
    exact Sat.of rfl
theorem scoreB {p : Pl} (hw : WP p) {f : Fl} {g : G} (hP : PB p g) (hL : LB p f g) (s : Nat) : fB_M_scoreBy (nI s) g = some (scr p (sx2 p f s) (pY p)) := by
  have h1 := hw.c
  apply Sat.eq
  unfold fB_M_scoreBy
  refine Sat.lp (fun t z => z = (scr p (sx2 p f s) t, nI t)) (pY p) (by omega) rfl ?_ ?_
  · rintro rec t _ ht rfl hrec
    have d := dv_b hw (sx2 p f s t)
    have q := scr_b hw (sx2 p f s) (t + 1) (by omega)
    simp only []
    rw [hP.1.2.2.2.2.2.2.1, if_neg (nI_ge ht (by omega)), coverB hw hP hL s (by omega), Option.bind_some, nf_eq (show (FP.fdiv (cvr p (fun y x => sb p f s t x y) (pR p)) (FP.i2f (nI (pY p)))).toNat ≤ 2139095040 from Nat.le_of_lt d.1.1), nf_eq (show (FP.fadd (scr p (sx2 p f s) t) (FP.fdiv (cvr p (fun y x => sb p f s t x y) (pR p)) (FP.i2f (nI (pY p))))).toNat ≤ 2139095040 from Nat.le_of_lt q.1.1), bv_eq, show (nI t + 1 : Int32) = nI (t + 1) from nI_add t 1]
    exact hrec _ rfl
  · rintro rec _ rfl
    simp only []
    rw [hP.1.2.2.2.2.2.2.1, if_pos (nI_le (Nat.le_refl _) (by omega))]
    exact Sat.of rfl
theorem bitsB {x : UInt32} (h : x.toNat ≤ 2139095040) (g : G) : fB_Float_floatToIntBits x g = some x.toInt32 := by
  unfold fB_Float_floatToIntBits fB_Float_isNaN
  rw [cmp32 h h, if_neg (Nat.lt_irrefl _), if_pos rfl, if_pos rfl, Option.bind_some, if_pos rfl]
theorem gz.nm {x : UInt32} {L : Nat} (h : gz L x) (hL : 1 ≤ L) : x.toNat = 0 ∨ 8388608 ≤ x.toNat := by
  rcases h with h | h
  · exact Or.inl h
  · right
    have : 1 * 2 ^ 23 ≤ L * 2 ^ 23 := Nat.mul_le_mul_right _ hL
    omega
theorem c_cover {p : Pl} {f : Fl} {gA gB : G} (h : RS p f gA gB) (hA : CA p f gA) (hB : CB p f gB) (a : Int32) : Eq2 (fA_D_cover a gA) (fB_M_cover a gB) := by
  have no : Eq2 (some ((-1 : Int32), gA)) (some (-1, gB)) := ⟨_, _, _, rfl, rfl, p, f, h, hA, hB⟩
  unfold fA_D_cover fB_M_cover
  rcases standsA h with ⟨hw, e1, e2⟩ | ⟨hz, e1, e2⟩
  · have h1 := hw.c
    rw [e2, if_neg i10]
    by_cases ht : rg 10000 a
    · obtain ⟨t, ht, rfl⟩ := ht
      have hm : t % pY p < pY p := Nat.mod_lt _ (by omega)
      rw [tickA_t h hw (by omega), tickB_t (by omega), Option.bind_some, Option.bind_some, if_neg i10, if_neg i10]
      obtain ⟨g1, e1, F1, R1, C1, L1, P1, U1⟩ := look2 h hw hA
      obtain ⟨g3, e3, F3, L3, P3, N3, C3⟩ := lays2 h hw hB
      have b := cvr_b hw (fun y x => sb p f (us p f) t x y) (pR p) (Nat.le_refl _)
      have eq : cvr p (fun y x => sb p f (us p f) (t % pY p) x y) (pR p) = cvr p (fun y x => sb p f (us p f) t x y) (pR p) := cvr_cong (fun y x _ _ => sb_per hw f _ t x y)
      rw [e1, Option.bind_some, e3, Option.bind_some, inCycleA hw P1 (by omega), Option.bind_some, coverA hw P1 R1.2.2.2.2.2.2.2.2.2.2.2.2.2.2.1 L1.2.2 hm, Option.bind_some, upSetB hw P3 N3 h.2.2.2.2.2.2.1, Option.bind_some, coverB hw P3 L3 _ (by omega), Option.bind_some, eq, floatBitsA (b.2.nm (by decide)) b.1.1, bitsB (Nat.le_of_lt b.1.1)]
      exact ⟨_, _, _, rfl, rfl, Rel.mk2 h F1 F3 C1 C3⟩
    · rw [(tick_f h ht).1, (tick_f h ht).2, Option.bind_some, Option.bind_some, if_pos i00, if_pos i00]
      exact no
  · have ez : fA_D_isTick a gA = some (nI 0) := by
      unfold fA_D_isTick
      rw [e1, Option.bind_some, if_pos i00]
      rfl
    rw [e2, if_pos i00, ez, Option.bind_some, if_pos i00]
    exact no
theorem c_score {p : Pl} {f : Fl} {gA gB : G} (h : RS p f gA gB) (hA : CA p f gA) (hB : CB p f gB) : Eq2 (fA_D_score gA) (fB_M_score gB) := by
  have no : Eq2 (some ((-1 : Int32), gA)) (some (-1, gB)) := ⟨_, _, _, rfl, rfl, p, f, h, hA, hB⟩
  unfold fA_D_score fB_M_score
  rcases standsA h with ⟨hw, e1, e2⟩ | ⟨hz, e1, e2⟩
  · have h1 := hw.c
    rw [e2, if_neg i10, e1, Option.bind_some, if_neg i10]
    obtain ⟨g1, e1, F1, R1, C1, L1, P1, U1⟩ := look2 h hw hA
    obtain ⟨g3, e3, F3, L3, P3, N3, C3⟩ := lays2 h hw hB
    have b := scr_b hw (sx2 p f (us p f)) (pY p) (Nat.le_refl _)
    rw [e1, Option.bind_some, e3, Option.bind_some, meanA hw P1 R1.2.2.2.2.2.2.2.2.2.2.2.2.2.2.1 L1.2.2, Option.bind_some, upSetB hw P3 N3 h.2.2.2.2.2.2.1, Option.bind_some, scoreB hw P3 L3, Option.bind_some, bitsB (Nat.le_of_lt b.1.1)]
    rw [show scr p (fun t y x => sb p f (us p f) t x y) (pY p) = scr p (sx2 p f (us p f)) (pY p) from rfl, floatBitsA (b.2.nm (by decide)) b.1.1]
    exact ⟨_, _, _, rfl, rfl, Rel.mk2 h F1 F3 C1 C3⟩
  · rw [e2, if_pos i00, e1, Option.bind_some, if_pos i00]
    exact no
