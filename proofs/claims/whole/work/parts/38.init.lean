def gA0 : G := (fun k => if k = 16 then (-1) else if k = 3501 then (-1) else if k = 13200 then (-1) else if k = 13201 then (-1) else if k = 13202 then (-1) else 0, fun _ _ => 0, 1, fun _ => FP.fconst0, fun _ => 0)
def gB0 : G := (fun k => if k = 36 then (-1) else if k = 41 then (-1) else if k = 62 then 1 else 0, fun k => if k = 19 then (upd (upd (upd (upd (upd (upd (upd (upd (upd (upd (upd (upd (upd (upd (upd (upd (upd (upd (upd (upd (upd (upd (upd (upd (upd (upd (upd (upd (upd (upd (upd (upd (upd (upd (upd (upd (upd (upd (upd (upd (upd (upd (upd (upd (upd (upd (upd (upd (upd (upd (upd (upd (upd (upd (upd (upd (upd (upd (upd (upd (upd (upd (upd (upd (upd (upd (upd (upd (upd (upd (fun _ => 0) 0 7) 1 18) 2 9) 3 4) 4 0) 5 2) 6 25) 7 0) 8 4) 9 1) 10 25) 11 0) 12 16) 13 12) 14 1) 15 14) 16 5) 17 0) 18 14) 19 15) 20 4) 21 5) 22 0) 23 20) 24 9) 25 12) 26 20) 27 0) 28 20) 29 21) 30 18) 31 14) 32 0) 33 3) 34 18) 35 1) 36 6) 37 20) 38 0) 39 9) 40 14) 41 0) 42 16) 43 8) 44 1) 45 19) 46 5) 47 0) 48 18) 49 5) 50 1) 51 3) 52 8) 53 0) 54 19) 55 9) 56 20) 57 5) 58 0) 59 1) 60 20) 61 0) 62 6) 63 18) 64 15) 65 13) 66 0) 67 20) 68 15) 69 0) else fun _ => 0, 0, fun _ => FP.fconst0, fun _ => 0)
def eV (Z : Zt) (β : Nat) (ads : Nat → Nat) : Ev := (fun k => β + k, ads, Z.1, Z.2)
def kept0 (Z : Zt) (β : Nat) (f : Nat → Option Nat) : va_E := .inl (Z.1.2.2, 20, .inr (.inr (.inr (.inr f))))
theorem vaP_eq {Z : Zt} {ws1 ws2 : va_W} {H : Heap} (h : ws1 = ws2) (hP : va_P Z.2 vwCl ws2 H) : va_P Z.2 vwCl ws1 H := h ▸ hP
set_option maxRecDepth 100000 in
set_option maxHeartbeats 4000000 in
theorem wB0 (Z : Zt) (β : Nat) (ads : Nat → Nat) : cWB (eV Z β ads) gB0 = wsF β (tN_M Z β) := rfl

def keptN (β : Nat) : Nat → Option Nat := (va_up (va_up (va_up (va_up (va_up (va_up (va_up (va_up (va_up (va_up (va_up (va_up (va_up (va_up (va_up (va_up (va_up (va_up (va_up (va_up (fun _ => none) 0 (some (β + 36 + 2))) 1 (some (β + 36 + 6))) 2 (some (β + 36 + 10))) 3 (some (β + 36 + 14))) 4 (some (β + 36 + 18))) 5 (some (β + 36 + 22))) 6 (some (β + 36 + 26))) 7 (some (β + 36 + 30))) 8 (some (β + 36 + 34))) 9 (some (β + 36 + 38))) 10 (some (β + 36 + 42))) 11 (some (β + 36 + 46))) 12 (some (β + 36 + 50))) 13 (some (β + 36 + 54))) 14 (some (β + 36 + 58))) 15 (some (β + 36 + 62))) 16 (some (β + 36 + 66))) 17 (some (β + 36 + 70))) 18 (some (β + 36 + 74))) 19 (some (β + 36 + 78)))
set_option maxRecDepth 100000 in
set_option maxHeartbeats 4000000 in
theorem wA0 (Z : Zt) (β : Nat) (ads : Nat → Nat) : cWA (eV Z β ads) gA0 = (wsF β (tN_D Z β)).set 37 (β + 37, kept0 Z β (fun j => some (β + (38 + 4 * j)))) := rfl
set_option maxRecDepth 100000 in
set_option maxHeartbeats 4000000 in
theorem wA37 (Z : Zt) (β : Nat) : (wsF β (tN_D Z β))[37]? = some (β + 37, kept0 Z β (keptN β)) := rfl
theorem keptN_ok (β : Nat) : ∀ j : Nat, j < 20 → keptN β j = some (β + (38 + 4 * j)) := by
  intro j hj
  match j, hj with
  | 0, _ => exact congrArg some (by omega)
  | 1, _ => exact congrArg some (by omega)
  | 2, _ => exact congrArg some (by omega)
  | 3, _ => exact congrArg some (by omega)
  | 4, _ => exact congrArg some (by omega)
  | 5, _ => exact congrArg some (by omega)
  | 6, _ => exact congrArg some (by omega)
  | 7, _ => exact congrArg some (by omega)
  | 8, _ => exact congrArg some (by omega)
  | 9, _ => exact congrArg some (by omega)
  | 10, _ => exact congrArg some (by omega)
  | 11, _ => exact congrArg some (by omega)
  | 12, _ => exact congrArg some (by omega)
  | 13, _ => exact congrArg some (by omega)
  | 14, _ => exact congrArg some (by omega)
  | 15, _ => exact congrArg some (by omega)
  | 16, _ => exact congrArg some (by omega)
  | 17, _ => exact congrArg some (by omega)
  | 18, _ => exact congrArg some (by omega)
  | 19, _ => exact congrArg some (by omega)
  | k + 20, h => exact absurd h (by omega)
theorem vaP_A0 {Z : Zt} {β : Nat} {H : Heap} (ads : Nat → Nat) (hP : va_P Z.2 vwCl (wsF β (tN_D Z β)) H) : va_P Z.2 vwCl (cWA (eV Z β ads) gA0) H := by
  rw [wA0]
  intro k q hq
  by_cases hk : k = 37
  · subst hk
    have hlt : 37 < (wsF β (tN_D Z β)).length := (List.getElem?_eq_some_iff.mp (wA37 Z β)).1
    rw [List.getElem?_set_self hlt] at hq
    cases hq
    have h0 : H[β + 37]? = some (vp_cell Z.1.2.2 (20, .inr (.inr (.inr (.inr (keptN β)))))) := hP 37 _ (wA37 Z β)
    show H[β + 37]? = some (vp_cell Z.1.2.2 (20, .inr (.inr (.inr (.inr (fun j => some (β + (38 + 4 * j))))))))
    rw [h0]
    congr 1
  · rw [List.getElem?_set_ne (fun h => hk h.symm)] at hq
    exact hP k q hq

