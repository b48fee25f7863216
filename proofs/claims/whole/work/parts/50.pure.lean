/-! THE PURE PART. Programs and their rules. -/
theorem Lp_run {α β : Type} {F : (α → Option β) → α → Option β} (I : Nat → α → Prop) (N : Nat) (P : Option β → Prop)
    (hs : ∀ (rec : α → Option β) (i : Nat) (a : α), i < N → I i a → (∀ a', I (i + 1) a' → P (rec a')) → P (F rec a))
    (he : ∀ (rec : α → Option β) (a : α), I N a → P (F rec a)) : ∀ (n i : Nat) (a : α), N - i < n → i ≤ N → I i a → P (Lp F n a) := by
  intro n
  induction n with
  | zero => intro i a h; omega
  | succ n ih =>
    intro i a hn hi hI
    by_cases h : i < N
    · exact hs (Lp F n) i a h hI (fun a' hI' => ih (i + 1) a' (by omega) (by omega) hI')
    · have : i = N := by omega
      subst this
      exact he (Lp F n) a hI
/-- a loop with a measure that falls -/
theorem Lp_meas {α β : Type} {F : (α → Option β) → α → Option β} (I : α → Prop) (μ : α → Nat) (P : Option β → Prop)
    (hs : ∀ (rec : α → Option β) (a : α), I a → (∀ a', I a' → μ a' < μ a → P (rec a')) → P (F rec a)) : ∀ (n : Nat) (a : α), μ a < n → I a → P (Lp F n a) := by
  intro n
  induction n with
  | zero => intro a h; omega
  | succ n ih =>
    intro a hn hI
    exact hs (Lp F n) a hI (fun a' hI' hm => ih a' (by omega) hI')
theorem FU_lt {k : Nat} (h : k < 1000000) : k < FU := h
theorem lit32 (n : Nat) : (OfNat.ofNat n : Int32) = nI n := rfl
theorem nI_mul (a b : Nat) : nI a * nI b = nI (a * b) := by
  simp only [nI, Int32.ofNat_mul]
theorem nI_sub {a b : Nat} (h : b ≤ a) : nI a - nI b = nI (a - b) := by
  have e : a = (a - b) + b := by omega
  rw [e, ← nI_add, Nat.add_sub_cancel]
  simp
theorem ag_nI {β : Type} {n i : Nat} {f : Nat → Int32} {K : Int32 → Option β} (h : i < n) (hn : n < 2 ^ 31) : ag n f (nI i) K = K (f i) := by
  rw [ag, if_neg (nI_in h hn), nI_clamp (by omega)]
theorem ck_nI {β : Type} {n i : Nat} {k : Option β} (h : i < n) (hn : n < 2 ^ 31) : ck n (nI i) k = k := by
  rw [ck, if_neg (nI_in h hn)]
theorem upd_self (f : Nat → Int32) (k : Nat) (x : Int32) : upd f k x k = x := if_pos rfl
theorem upd_ne (f : Nat → Int32) {k j : Nat} (x : Int32) (h : j ≠ k) : upd f k x j = f j := if_neg h
theorem uA_self (F : Nat → Nat → Int32) (k : Nat) (f : Nat → Int32) : uA F k f k = f := if_pos rfl
theorem uA_ne (F : Nat → Nat → Int32) {k j : Nat} (f : Nat → Int32) (h : j ≠ k) : uA F k f j = F j := if_neg h
theorem sS_1 (g : G) (k : Nat) (v : Int32) (j : Nat) : (sS g k v).1 j = if j = k then v else g.1 j := rfl
theorem sS_2 (g : G) (k : Nat) (v : Int32) : (sS g k v).2 = g.2 := rfl
theorem sC_1 (g : G) (k : Nat) (f : Nat → Int32) : (sC g k f).1 = g.1 := rfl
theorem sC_21 (g : G) (k : Nat) (f : Nat → Int32) (j : Nat) : (sC g k f).2.1 j = if j = k then f else g.2.1 j := rfl
theorem sC_22 (g : G) (k : Nat) (f : Nat → Int32) : (sC g k f).2.2 = g.2.2 := rfl
theorem sA_1 (g : G) (k i : Nat) (v : Int32) : (sA g k i v).1 = g.1 := rfl
theorem sA_21 (g : G) (k i : Nat) (v : Int32) (j : Nat) : (sA g k i v).2.1 j = if j = k then upd (g.2.1 k) i v else g.2.1 j := rfl
theorem sA_22 (g : G) (k i : Nat) (v : Int32) : (sA g k i v).2.2 = g.2.2 := rfl
