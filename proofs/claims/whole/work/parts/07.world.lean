/-! what the two worlds are: their cells, place by place, out of a state -/
/-- addresses of the cells; of the strings; the array classes; the classes -/
abbrev Ev : Type := (Nat → Nat) × (Nat → Nat) × (ClassId × ClassId × ClassId) × va_G
def nST : Nat := 16
def lenST : List Nat := [4, 2, 3, 5, 4, 4, 4, 5, 2, 5, 5, 4, 2, 4, 2, 70]
def bytST : List (List Int32) := [[103, 114, 105, 100], [98, 121], [100, 97, 121], [112, 108, 97, 110, 101], [110, 111, 100, 101], [116, 105, 108, 116], [116, 117, 114, 110], [99, 114, 97, 102, 116], [105, 110], [112, 104, 97, 115, 101], [114, 101, 97, 99, 104], [115, 105, 116, 101], [97, 116], [102, 114, 111, 109], [116, 111], [103, 114, 105, 100, 32, 98, 121, 32, 100, 97, 121, 32, 112, 108, 97, 110, 101, 32, 110, 111, 100, 101, 32, 116, 105, 108, 116, 32, 116, 117, 114, 110, 32, 99, 114, 97, 102, 116, 32, 105, 110, 32, 112, 104, 97, 115, 101, 32, 114, 101, 97, 99, 104, 32, 115, 105, 116, 101, 32, 97, 116, 32, 102, 114, 111, 109, 32, 116, 111, 32]]
def nestA : List (String × Nat × MethodName × String) := [("OrbitDesk", 11, ⟨"OrbitDesk$Tape", "<init>", "()V"⟩, "OrbitDesk"), ("OrbitDesk", 18, ⟨"OrbitDesk$Plan", "<init>", "()V"⟩, "OrbitDesk"), ("OrbitDesk", 28, ⟨"OrbitDesk$Fleet", "<init>", "()V"⟩, "OrbitDesk"), ("OrbitDesk$Fleet", 48, ⟨"OrbitDesk", "cut", "(II)I"⟩, "OrbitDesk"), ("OrbitDesk$Fleet", 52, ⟨"OrbitDesk", "rest", "(II)I"⟩, "OrbitDesk"), ("OrbitDesk$History", 24, ⟨"OrbitDesk$Fleet", "<init>", "()V"⟩, "OrbitDesk"), ("OrbitDesk$Plan", 93, ⟨"OrbitDesk", "rest", "(II)I"⟩, "OrbitDesk"), ("OrbitDesk$Sky", 123, ⟨"OrbitDesk", "rest", "(II)I"⟩, "OrbitDesk"), ("OrbitDesk$Sky", 126, ⟨"OrbitDesk", "cut", "(II)I"⟩, "OrbitDesk"), ("OrbitDesk$Strip", 53, ⟨"OrbitDesk", "rest", "(II)I"⟩, "OrbitDesk"), ("OrbitDesk$Trial", 27, ⟨"OrbitDesk$Fleet", "<init>", "()V"⟩, "OrbitDesk")]
def ldcA : List (String × Nat × String × Nat) := [("OrbitDesk$Reader", 107, "grid", 0), ("OrbitDesk$Reader", 119, "by", 1), ("OrbitDesk$Reader", 124, "day", 2), ("OrbitDesk$Reader", 144, "node", 4), ("OrbitDesk$Reader", 149, "tilt", 5), ("OrbitDesk$Reader", 154, "turn", 6), ("OrbitDesk$Reader", 165, "in", 8), ("OrbitDesk$Reader", 173, "phase", 9), ("OrbitDesk$Reader", 182, "reach", 10), ("OrbitDesk$Reader", 197, "at", 12), ("OrbitDesk$Reader", 204, "from", 13), ("OrbitDesk$Reader", 209, "to", 14), ("OrbitDesk$Reader", 76, "plane", 3), ("OrbitDesk$Reader", 87, "craft", 7), ("OrbitDesk$Reader", 92, "site", 11), ("OrbitDesk$Words", 23, "grid by day plane node tilt turn craft in phase reach site at from to ", 15)]
def xA (E : Ev) (U : State) : Prop := (∀ z ∈ nestA, va_Nw (.methodLinkNest z.1 z.2.1 z.2.2.1 z.2.2.2) U) ∧ vk_S nST lenST bytST E.2.1 (fun i => E.2.1 (16 + i)) (fun q => ∃ k : Nat, k < 146 ∧ q = E.1 k) U U.heap ∧ (∀ z ∈ ldcA, vk_R z.1 z.2.1 z.2.2.1 (E.2.1 z.2.2.2) U) ∧ va_Z "java/lang/String" "COMPACT_STRINGS" "Z" (.int 1) (fun q => ∃ k : Nat, k < 146 ∧ q = E.1 k) U U.heap ∧ va_Zq "jdk/internal/util/Preconditions" "SIOOBE_FORMATTER" "Ljava/util/function/BiFunction;" (fun q => ∃ k : Nat, k < 146 ∧ q = E.1 k) U U.heap
def xB (_ : Ev) (_ : State) : Prop := True
def cWA (E : Ev) (g : G) : va_W := [(E.1 0, .inr (10, [.ref (E.1 1), .ref (E.1 3), .ref (E.1 15), .ref (E.1 27), .ref (E.1 31), .ref (E.1 35), .ref (E.1 36), .ref (E.1 118), .ref (E.1 130), .ref (E.1 132), .ref (E.1 137), .ref (E.1 138), .ref (E.1 144), .ref (E.1 145), .int (g.1 14), .int (g.1 15), .int (g.1 16), .long g.2.2.1, .int (g.1 18)])),
  (E.1 1, .inr (8, [.ref (E.1 2), .int (g.1 101)])),
  (E.1 2, .inl (E.2.2.1.1, 1600, .inl (g.2.1 2))),
  (E.1 3, .inr (4, [.int (g.1 300), .int (g.1 301), .int (g.1 302), .int (g.1 303), .int (g.1 304), .int (g.1 305), .int (g.1 306), .int (g.1 307), .ref (E.1 4), .ref (E.1 5), .ref (E.1 6), .ref (E.1 7), .ref (E.1 8), .ref (E.1 9), .ref (E.1 10), .ref (E.1 11), .ref (E.1 12), .ref (E.1 13), .ref (E.1 14)])),
  (E.1 4, .inl (E.2.2.1.1, 12, .inl (g.2.1 4))),
  (E.1 5, .inl (E.2.2.1.1, 4, .inl (g.2.1 5))),
  (E.1 6, .inl (E.2.2.1.1, 4, .inl (g.2.1 6))),
  (E.1 7, .inl (E.2.2.1.1, 4, .inl (g.2.1 7))),
  (E.1 8, .inl (E.2.2.1.1, 8, .inl (g.2.1 8))),
  (E.1 9, .inl (E.2.2.1.1, 8, .inl (g.2.1 9))),
  (E.1 10, .inl (E.2.2.1.1, 6, .inl (g.2.1 10))),
  (E.1 11, .inl (E.2.2.1.1, 6, .inl (g.2.1 11))),
  (E.1 12, .inl (E.2.2.1.1, 6, .inl (g.2.1 12))),
  (E.1 13, .inl (E.2.2.1.1, 6, .inl (g.2.1 13))),
  (E.1 14, .inl (E.2.2.1.1, 6, .inl (g.2.1 14))),
  (E.1 15, .inr (4, [.int (g.1 1500), .int (g.1 1501), .int (g.1 1502), .int (g.1 1503), .int (g.1 1504), .int (g.1 1505), .int (g.1 1506), .int (g.1 1507), .ref (E.1 16), .ref (E.1 17), .ref (E.1 18), .ref (E.1 19), .ref (E.1 20), .ref (E.1 21), .ref (E.1 22), .ref (E.1 23), .ref (E.1 24), .ref (E.1 25), .ref (E.1 26)])),
  (E.1 16, .inl (E.2.2.1.1, 12, .inl (g.2.1 16))),
  (E.1 17, .inl (E.2.2.1.1, 4, .inl (g.2.1 17))),
  (E.1 18, .inl (E.2.2.1.1, 4, .inl (g.2.1 18))),
  (E.1 19, .inl (E.2.2.1.1, 4, .inl (g.2.1 19))),
  (E.1 20, .inl (E.2.2.1.1, 8, .inl (g.2.1 20))),
  (E.1 21, .inl (E.2.2.1.1, 8, .inl (g.2.1 21))),
  (E.1 22, .inl (E.2.2.1.1, 6, .inl (g.2.1 22))),
  (E.1 23, .inl (E.2.2.1.1, 6, .inl (g.2.1 23))),
  (E.1 24, .inl (E.2.2.1.1, 6, .inl (g.2.1 24))),
  (E.1 25, .inl (E.2.2.1.1, 6, .inl (g.2.1 25))),
  (E.1 26, .inl (E.2.2.1.1, 6, .inl (g.2.1 26))),
  (E.1 27, .inr (1, [.int (g.1 2700), .ref (E.1 28), .ref (E.1 29), .ref (E.1 30)])),
  (E.1 28, .inl (E.2.2.1.1, 4, .inl (g.2.1 28))),
  (E.1 29, .inl (E.2.2.1.1, 8, .inl (g.2.1 29))),
  (E.1 30, .inl (E.2.2.1.1, 8, .inl (g.2.1 30))),
  (E.1 31, .inr (1, [.int (g.1 3100), .ref (E.1 32), .ref (E.1 33), .ref (E.1 34)])),
  (E.1 32, .inl (E.2.2.1.1, 4, .inl (g.2.1 32))),
  (E.1 33, .inl (E.2.2.1.1, 8, .inl (g.2.1 33))),
  (E.1 34, .inl (E.2.2.1.1, 8, .inl (g.2.1 34))),
  (E.1 35, .inr (5, [.int (g.1 3500), .int (g.1 3501), .int (g.1 3502), .ref (E.1 1), .ref (E.1 15), .ref (E.1 31), .int (g.1 3506), .int (g.1 3507), .int (g.1 3508), .int (g.1 3509), .int (g.1 3510), .int (g.1 3511)])),
  (E.1 36, .inr (2, [.int (g.1 3600), .int (g.1 3601), .ref (E.1 37)])),
  (E.1 37, .inl (E.2.2.1.2.2, 20, .inr (.inr (.inr (.inr (fun j => some (E.1 (38 + 4 * j)))))))),
  (E.1 38, .inr (1, [.int (g.1 3800), .ref (E.1 39), .ref (E.1 40), .ref (E.1 41)])),
  (E.1 39, .inl (E.2.2.1.1, 4, .inl (g.2.1 39))),
  (E.1 40, .inl (E.2.2.1.1, 8, .inl (g.2.1 40))),
  (E.1 41, .inl (E.2.2.1.1, 8, .inl (g.2.1 41))),
  (E.1 42, .inr (1, [.int (g.1 4200), .ref (E.1 43), .ref (E.1 44), .ref (E.1 45)])),
  (E.1 43, .inl (E.2.2.1.1, 4, .inl (g.2.1 43))),
  (E.1 44, .inl (E.2.2.1.1, 8, .inl (g.2.1 44))),
  (E.1 45, .inl (E.2.2.1.1, 8, .inl (g.2.1 45))),
  (E.1 46, .inr (1, [.int (g.1 4600), .ref (E.1 47), .ref (E.1 48), .ref (E.1 49)])),
  (E.1 47, .inl (E.2.2.1.1, 4, .inl (g.2.1 47))),
  (E.1 48, .inl (E.2.2.1.1, 8, .inl (g.2.1 48))),
  (E.1 49, .inl (E.2.2.1.1, 8, .inl (g.2.1 49))),
  (E.1 50, .inr (1, [.int (g.1 5000), .ref (E.1 51), .ref (E.1 52), .ref (E.1 53)])),
  (E.1 51, .inl (E.2.2.1.1, 4, .inl (g.2.1 51))),
  (E.1 52, .inl (E.2.2.1.1, 8, .inl (g.2.1 52))),
  (E.1 53, .inl (E.2.2.1.1, 8, .inl (g.2.1 53))),
  (E.1 54, .inr (1, [.int (g.1 5400), .ref (E.1 55), .ref (E.1 56), .ref (E.1 57)])),
  (E.1 55, .inl (E.2.2.1.1, 4, .inl (g.2.1 55))),
  (E.1 56, .inl (E.2.2.1.1, 8, .inl (g.2.1 56))),
  (E.1 57, .inl (E.2.2.1.1, 8, .inl (g.2.1 57))),
  (E.1 58, .inr (1, [.int (g.1 5800), .ref (E.1 59), .ref (E.1 60), .ref (E.1 61)])),
  (E.1 59, .inl (E.2.2.1.1, 4, .inl (g.2.1 59))),
  (E.1 60, .inl (E.2.2.1.1, 8, .inl (g.2.1 60))),
  (E.1 61, .inl (E.2.2.1.1, 8, .inl (g.2.1 61))),
  (E.1 62, .inr (1, [.int (g.1 6200), .ref (E.1 63), .ref (E.1 64), .ref (E.1 65)])),
  (E.1 63, .inl (E.2.2.1.1, 4, .inl (g.2.1 63))),
  (E.1 64, .inl (E.2.2.1.1, 8, .inl (g.2.1 64))),
  (E.1 65, .inl (E.2.2.1.1, 8, .inl (g.2.1 65))),
  (E.1 66, .inr (1, [.int (g.1 6600), .ref (E.1 67), .ref (E.1 68), .ref (E.1 69)])),
  (E.1 67, .inl (E.2.2.1.1, 4, .inl (g.2.1 67))),
  (E.1 68, .inl (E.2.2.1.1, 8, .inl (g.2.1 68))),
  (E.1 69, .inl (E.2.2.1.1, 8, .inl (g.2.1 69))),
  (E.1 70, .inr (1, [.int (g.1 7000), .ref (E.1 71), .ref (E.1 72), .ref (E.1 73)])),
  (E.1 71, .inl (E.2.2.1.1, 4, .inl (g.2.1 71))),
  (E.1 72, .inl (E.2.2.1.1, 8, .inl (g.2.1 72))),
  (E.1 73, .inl (E.2.2.1.1, 8, .inl (g.2.1 73))),
  (E.1 74, .inr (1, [.int (g.1 7400), .ref (E.1 75), .ref (E.1 76), .ref (E.1 77)])),
  (E.1 75, .inl (E.2.2.1.1, 4, .inl (g.2.1 75))),
  (E.1 76, .inl (E.2.2.1.1, 8, .inl (g.2.1 76))),
  (E.1 77, .inl (E.2.2.1.1, 8, .inl (g.2.1 77))),
  (E.1 78, .inr (1, [.int (g.1 7800), .ref (E.1 79), .ref (E.1 80), .ref (E.1 81)])),
  (E.1 79, .inl (E.2.2.1.1, 4, .inl (g.2.1 79))),
  (E.1 80, .inl (E.2.2.1.1, 8, .inl (g.2.1 80))),
  (E.1 81, .inl (E.2.2.1.1, 8, .inl (g.2.1 81))),
  (E.1 82, .inr (1, [.int (g.1 8200), .ref (E.1 83), .ref (E.1 84), .ref (E.1 85)])),
  (E.1 83, .inl (E.2.2.1.1, 4, .inl (g.2.1 83))),
  (E.1 84, .inl (E.2.2.1.1, 8, .inl (g.2.1 84))),
  (E.1 85, .inl (E.2.2.1.1, 8, .inl (g.2.1 85))),
  (E.1 86, .inr (1, [.int (g.1 8600), .ref (E.1 87), .ref (E.1 88), .ref (E.1 89)])),
  (E.1 87, .inl (E.2.2.1.1, 4, .inl (g.2.1 87))),
  (E.1 88, .inl (E.2.2.1.1, 8, .inl (g.2.1 88))),
  (E.1 89, .inl (E.2.2.1.1, 8, .inl (g.2.1 89))),
  (E.1 90, .inr (1, [.int (g.1 9000), .ref (E.1 91), .ref (E.1 92), .ref (E.1 93)])),
  (E.1 91, .inl (E.2.2.1.1, 4, .inl (g.2.1 91))),
  (E.1 92, .inl (E.2.2.1.1, 8, .inl (g.2.1 92))),
  (E.1 93, .inl (E.2.2.1.1, 8, .inl (g.2.1 93))),
  (E.1 94, .inr (1, [.int (g.1 9400), .ref (E.1 95), .ref (E.1 96), .ref (E.1 97)])),
  (E.1 95, .inl (E.2.2.1.1, 4, .inl (g.2.1 95))),
  (E.1 96, .inl (E.2.2.1.1, 8, .inl (g.2.1 96))),
  (E.1 97, .inl (E.2.2.1.1, 8, .inl (g.2.1 97))),
  (E.1 98, .inr (1, [.int (g.1 9800), .ref (E.1 99), .ref (E.1 100), .ref (E.1 101)])),
  (E.1 99, .inl (E.2.2.1.1, 4, .inl (g.2.1 99))),
  (E.1 100, .inl (E.2.2.1.1, 8, .inl (g.2.1 100))),
  (E.1 101, .inl (E.2.2.1.1, 8, .inl (g.2.1 101))),
  (E.1 102, .inr (1, [.int (g.1 10200), .ref (E.1 103), .ref (E.1 104), .ref (E.1 105)])),
  (E.1 103, .inl (E.2.2.1.1, 4, .inl (g.2.1 103))),
  (E.1 104, .inl (E.2.2.1.1, 8, .inl (g.2.1 104))),
  (E.1 105, .inl (E.2.2.1.1, 8, .inl (g.2.1 105))),
  (E.1 106, .inr (1, [.int (g.1 10600), .ref (E.1 107), .ref (E.1 108), .ref (E.1 109)])),
  (E.1 107, .inl (E.2.2.1.1, 4, .inl (g.2.1 107))),
  (E.1 108, .inl (E.2.2.1.1, 8, .inl (g.2.1 108))),
  (E.1 109, .inl (E.2.2.1.1, 8, .inl (g.2.1 109))),
  (E.1 110, .inr (1, [.int (g.1 11000), .ref (E.1 111), .ref (E.1 112), .ref (E.1 113)])),
  (E.1 111, .inl (E.2.2.1.1, 4, .inl (g.2.1 111))),
  (E.1 112, .inl (E.2.2.1.1, 8, .inl (g.2.1 112))),
  (E.1 113, .inl (E.2.2.1.1, 8, .inl (g.2.1 113))),
  (E.1 114, .inr (1, [.int (g.1 11400), .ref (E.1 115), .ref (E.1 116), .ref (E.1 117)])),
  (E.1 115, .inl (E.2.2.1.1, 4, .inl (g.2.1 115))),
  (E.1 116, .inl (E.2.2.1.1, 8, .inl (g.2.1 116))),
  (E.1 117, .inl (E.2.2.1.1, 8, .inl (g.2.1 117))),
  (E.1 118, .inr (6, [.ref (E.1 3), .int (g.1 11801), .int (g.1 11802), .ref (E.1 119), .ref (E.1 120), .ref (E.1 121), .ref (E.1 122), .ref (E.1 123), .ref (E.1 124), .ref (E.1 125), .ref (E.1 126), .ref (E.1 127), .ref (E.1 128), .ref (E.1 129)])),
  (E.1 119, .inl (E.2.2.1.1, 1872, .inl (g.2.1 119))),
  (E.1 120, .inl (E.2.2.1.2.1, 12, .inr (.inr (.inl g.2.2.2.2)))),
  (E.1 121, .inl (E.2.2.1.1, 8, .inl (g.2.1 121))),
  (E.1 122, .inl (E.2.2.1.1, 8, .inl (g.2.1 122))),
  (E.1 123, .inl (E.2.2.1.1, 8, .inl (g.2.1 123))),
  (E.1 124, .inl (E.2.2.1.1, 1920, .inl (g.2.1 124))),
  (E.1 125, .inl (E.2.2.1.1, 1920, .inl (g.2.1 125))),
  (E.1 126, .inl (E.2.2.1.1, 23040, .inl (g.2.1 126))),
  (E.1 127, .inl (E.2.2.1.1, 2880, .inl (g.2.1 127))),
  (E.1 128, .inl (E.2.2.1.1, 2880, .inl (g.2.1 128))),
  (E.1 129, .inl (E.2.2.1.1, 24, .inl (g.2.1 129))),
  (E.1 130, .inr (7, [.int (g.1 13000), .int (g.1 13001), .int (g.1 13002), .int (g.1 13003), .ref (E.1 3), .ref (E.1 118), .ref (E.1 131)])),
  (E.1 131, .inl (E.2.2.1.1, 240, .inl (g.2.1 131))),
  (E.1 132, .inr (9, [.int (g.1 13200), .int (g.1 13201), .int (g.1 13202), .float (g.2.2.2.1 0), .ref (E.1 3), .ref (E.1 118), .ref (E.1 27), .ref (E.1 133)])),
  (E.1 133, .inr (1, [.int (g.1 13300), .ref (E.1 134), .ref (E.1 135), .ref (E.1 136)])),
  (E.1 134, .inl (E.2.2.1.1, 4, .inl (g.2.1 134))),
  (E.1 135, .inl (E.2.2.1.1, 8, .inl (g.2.1 135))),
  (E.1 136, .inl (E.2.2.1.1, 8, .inl (g.2.1 136))),
  (E.1 137, .inr (0, [.int (g.1 13700), .int (g.1 13701), .ref (E.1 3), .ref (E.1 118)])),
  (E.1 138, .inr (3, [.int (g.1 13800), .int (g.1 13801), .int (g.1 13802), .ref (E.1 139), .ref (E.1 140), .ref (E.1 141), .ref (E.1 142), .ref (E.1 143), .ref (E.1 3), .ref (E.1 118)])),
  (E.1 139, .inl (E.2.2.1.1, 16, .inl (g.2.1 139))),
  (E.1 140, .inl (E.2.2.1.1, 16, .inl (g.2.1 140))),
  (E.1 141, .inl (E.2.2.1.1, 16, .inl (g.2.1 141))),
  (E.1 142, .inl (E.2.2.1.1, 16, .inl (g.2.1 142))),
  (E.1 143, .inl (E.2.2.1.1, 9, .inl (g.2.1 143))),
  (E.1 144, .inl (E.2.2.1.1, 29, .inl (g.2.1 144))),
  (E.1 145, .inl (E.2.2.1.1, 6, .inl (g.2.1 145)))]
def aWA (E : Ev) : Nat → Prop := fun q => ∃ k : Nat, k < 146 ∧ q = E.1 k
abbrev wCA (E : Ev) : Wd := (cWA E, aWA E, E.2.2.2, [(E.2.2.1.1, .int), (E.2.2.1.2.1, .float), (E.2.2.1.2.2, .object "OrbitDesk$Fleet")], xA E)
theorem Ac_0 (E : Ev) (g : G) : (cWA E g)[0]? = some (E.1 0, .inr (10, [.ref (E.1 1), .ref (E.1 3), .ref (E.1 15), .ref (E.1 27), .ref (E.1 31), .ref (E.1 35), .ref (E.1 36), .ref (E.1 118), .ref (E.1 130), .ref (E.1 132), .ref (E.1 137), .ref (E.1 138), .ref (E.1 144), .ref (E.1 145), .int (g.1 14), .int (g.1 15), .int (g.1 16), .long g.2.2.1, .int (g.1 18)])) := rfl
theorem Ac_1 (E : Ev) (g : G) : (cWA E g)[1]? = some (E.1 1, .inr (8, [.ref (E.1 2), .int (g.1 101)])) := rfl
theorem Ac_2 (E : Ev) (g : G) : (cWA E g)[2]? = some (E.1 2, .inl (E.2.2.1.1, 1600, .inl (g.2.1 2))) := rfl
theorem Ac_3 (E : Ev) (g : G) : (cWA E g)[3]? = some (E.1 3, .inr (4, [.int (g.1 300), .int (g.1 301), .int (g.1 302), .int (g.1 303), .int (g.1 304), .int (g.1 305), .int (g.1 306), .int (g.1 307), .ref (E.1 4), .ref (E.1 5), .ref (E.1 6), .ref (E.1 7), .ref (E.1 8), .ref (E.1 9), .ref (E.1 10), .ref (E.1 11), .ref (E.1 12), .ref (E.1 13), .ref (E.1 14)])) := rfl
theorem Ac_4 (E : Ev) (g : G) : (cWA E g)[4]? = some (E.1 4, .inl (E.2.2.1.1, 12, .inl (g.2.1 4))) := rfl
theorem Ac_5 (E : Ev) (g : G) : (cWA E g)[5]? = some (E.1 5, .inl (E.2.2.1.1, 4, .inl (g.2.1 5))) := rfl
theorem Ac_6 (E : Ev) (g : G) : (cWA E g)[6]? = some (E.1 6, .inl (E.2.2.1.1, 4, .inl (g.2.1 6))) := rfl
theorem Ac_7 (E : Ev) (g : G) : (cWA E g)[7]? = some (E.1 7, .inl (E.2.2.1.1, 4, .inl (g.2.1 7))) := rfl
theorem Ac_8 (E : Ev) (g : G) : (cWA E g)[8]? = some (E.1 8, .inl (E.2.2.1.1, 8, .inl (g.2.1 8))) := rfl
theorem Ac_9 (E : Ev) (g : G) : (cWA E g)[9]? = some (E.1 9, .inl (E.2.2.1.1, 8, .inl (g.2.1 9))) := rfl
theorem Ac_10 (E : Ev) (g : G) : (cWA E g)[10]? = some (E.1 10, .inl (E.2.2.1.1, 6, .inl (g.2.1 10))) := rfl
theorem Ac_11 (E : Ev) (g : G) : (cWA E g)[11]? = some (E.1 11, .inl (E.2.2.1.1, 6, .inl (g.2.1 11))) := rfl
theorem Ac_12 (E : Ev) (g : G) : (cWA E g)[12]? = some (E.1 12, .inl (E.2.2.1.1, 6, .inl (g.2.1 12))) := rfl
theorem Ac_13 (E : Ev) (g : G) : (cWA E g)[13]? = some (E.1 13, .inl (E.2.2.1.1, 6, .inl (g.2.1 13))) := rfl
theorem Ac_14 (E : Ev) (g : G) : (cWA E g)[14]? = some (E.1 14, .inl (E.2.2.1.1, 6, .inl (g.2.1 14))) := rfl
theorem Ac_15 (E : Ev) (g : G) : (cWA E g)[15]? = some (E.1 15, .inr (4, [.int (g.1 1500), .int (g.1 1501), .int (g.1 1502), .int (g.1 1503), .int (g.1 1504), .int (g.1 1505), .int (g.1 1506), .int (g.1 1507), .ref (E.1 16), .ref (E.1 17), .ref (E.1 18), .ref (E.1 19), .ref (E.1 20), .ref (E.1 21), .ref (E.1 22), .ref (E.1 23), .ref (E.1 24), .ref (E.1 25), .ref (E.1 26)])) := rfl
theorem Ac_16 (E : Ev) (g : G) : (cWA E g)[16]? = some (E.1 16, .inl (E.2.2.1.1, 12, .inl (g.2.1 16))) := rfl
theorem Ac_17 (E : Ev) (g : G) : (cWA E g)[17]? = some (E.1 17, .inl (E.2.2.1.1, 4, .inl (g.2.1 17))) := rfl
theorem Ac_18 (E : Ev) (g : G) : (cWA E g)[18]? = some (E.1 18, .inl (E.2.2.1.1, 4, .inl (g.2.1 18))) := rfl
theorem Ac_19 (E : Ev) (g : G) : (cWA E g)[19]? = some (E.1 19, .inl (E.2.2.1.1, 4, .inl (g.2.1 19))) := rfl
theorem Ac_20 (E : Ev) (g : G) : (cWA E g)[20]? = some (E.1 20, .inl (E.2.2.1.1, 8, .inl (g.2.1 20))) := rfl
theorem Ac_21 (E : Ev) (g : G) : (cWA E g)[21]? = some (E.1 21, .inl (E.2.2.1.1, 8, .inl (g.2.1 21))) := rfl
theorem Ac_22 (E : Ev) (g : G) : (cWA E g)[22]? = some (E.1 22, .inl (E.2.2.1.1, 6, .inl (g.2.1 22))) := rfl
theorem Ac_23 (E : Ev) (g : G) : (cWA E g)[23]? = some (E.1 23, .inl (E.2.2.1.1, 6, .inl (g.2.1 23))) := rfl
theorem Ac_24 (E : Ev) (g : G) : (cWA E g)[24]? = some (E.1 24, .inl (E.2.2.1.1, 6, .inl (g.2.1 24))) := rfl
theorem Ac_25 (E : Ev) (g : G) : (cWA E g)[25]? = some (E.1 25, .inl (E.2.2.1.1, 6, .inl (g.2.1 25))) := rfl
theorem Ac_26 (E : Ev) (g : G) : (cWA E g)[26]? = some (E.1 26, .inl (E.2.2.1.1, 6, .inl (g.2.1 26))) := rfl
theorem Ac_27 (E : Ev) (g : G) : (cWA E g)[27]? = some (E.1 27, .inr (1, [.int (g.1 2700), .ref (E.1 28), .ref (E.1 29), .ref (E.1 30)])) := rfl
theorem Ac_28 (E : Ev) (g : G) : (cWA E g)[28]? = some (E.1 28, .inl (E.2.2.1.1, 4, .inl (g.2.1 28))) := rfl
theorem Ac_29 (E : Ev) (g : G) : (cWA E g)[29]? = some (E.1 29, .inl (E.2.2.1.1, 8, .inl (g.2.1 29))) := rfl
theorem Ac_30 (E : Ev) (g : G) : (cWA E g)[30]? = some (E.1 30, .inl (E.2.2.1.1, 8, .inl (g.2.1 30))) := rfl
theorem Ac_31 (E : Ev) (g : G) : (cWA E g)[31]? = some (E.1 31, .inr (1, [.int (g.1 3100), .ref (E.1 32), .ref (E.1 33), .ref (E.1 34)])) := rfl
theorem Ac_32 (E : Ev) (g : G) : (cWA E g)[32]? = some (E.1 32, .inl (E.2.2.1.1, 4, .inl (g.2.1 32))) := rfl
theorem Ac_33 (E : Ev) (g : G) : (cWA E g)[33]? = some (E.1 33, .inl (E.2.2.1.1, 8, .inl (g.2.1 33))) := rfl
theorem Ac_34 (E : Ev) (g : G) : (cWA E g)[34]? = some (E.1 34, .inl (E.2.2.1.1, 8, .inl (g.2.1 34))) := rfl
theorem Ac_35 (E : Ev) (g : G) : (cWA E g)[35]? = some (E.1 35, .inr (5, [.int (g.1 3500), .int (g.1 3501), .int (g.1 3502), .ref (E.1 1), .ref (E.1 15), .ref (E.1 31), .int (g.1 3506), .int (g.1 3507), .int (g.1 3508), .int (g.1 3509), .int (g.1 3510), .int (g.1 3511)])) := rfl
theorem Ac_36 (E : Ev) (g : G) : (cWA E g)[36]? = some (E.1 36, .inr (2, [.int (g.1 3600), .int (g.1 3601), .ref (E.1 37)])) := rfl
theorem Ac_37 (E : Ev) (g : G) : (cWA E g)[37]? = some (E.1 37, .inl (E.2.2.1.2.2, 20, .inr (.inr (.inr (.inr (fun j => some (E.1 (38 + 4 * j)))))))) := rfl
theorem Ac_38 (E : Ev) (g : G) : (cWA E g)[38]? = some (E.1 38, .inr (1, [.int (g.1 3800), .ref (E.1 39), .ref (E.1 40), .ref (E.1 41)])) := rfl
theorem Ac_39 (E : Ev) (g : G) : (cWA E g)[39]? = some (E.1 39, .inl (E.2.2.1.1, 4, .inl (g.2.1 39))) := rfl
theorem Ac_40 (E : Ev) (g : G) : (cWA E g)[40]? = some (E.1 40, .inl (E.2.2.1.1, 8, .inl (g.2.1 40))) := rfl
theorem Ac_41 (E : Ev) (g : G) : (cWA E g)[41]? = some (E.1 41, .inl (E.2.2.1.1, 8, .inl (g.2.1 41))) := rfl
theorem Ac_42 (E : Ev) (g : G) : (cWA E g)[42]? = some (E.1 42, .inr (1, [.int (g.1 4200), .ref (E.1 43), .ref (E.1 44), .ref (E.1 45)])) := rfl
theorem Ac_43 (E : Ev) (g : G) : (cWA E g)[43]? = some (E.1 43, .inl (E.2.2.1.1, 4, .inl (g.2.1 43))) := rfl
theorem Ac_44 (E : Ev) (g : G) : (cWA E g)[44]? = some (E.1 44, .inl (E.2.2.1.1, 8, .inl (g.2.1 44))) := rfl
theorem Ac_45 (E : Ev) (g : G) : (cWA E g)[45]? = some (E.1 45, .inl (E.2.2.1.1, 8, .inl (g.2.1 45))) := rfl
theorem Ac_46 (E : Ev) (g : G) : (cWA E g)[46]? = some (E.1 46, .inr (1, [.int (g.1 4600), .ref (E.1 47), .ref (E.1 48), .ref (E.1 49)])) := rfl
theorem Ac_47 (E : Ev) (g : G) : (cWA E g)[47]? = some (E.1 47, .inl (E.2.2.1.1, 4, .inl (g.2.1 47))) := rfl
theorem Ac_48 (E : Ev) (g : G) : (cWA E g)[48]? = some (E.1 48, .inl (E.2.2.1.1, 8, .inl (g.2.1 48))) := rfl
theorem Ac_49 (E : Ev) (g : G) : (cWA E g)[49]? = some (E.1 49, .inl (E.2.2.1.1, 8, .inl (g.2.1 49))) := rfl
theorem Ac_50 (E : Ev) (g : G) : (cWA E g)[50]? = some (E.1 50, .inr (1, [.int (g.1 5000), .ref (E.1 51), .ref (E.1 52), .ref (E.1 53)])) := rfl
theorem Ac_51 (E : Ev) (g : G) : (cWA E g)[51]? = some (E.1 51, .inl (E.2.2.1.1, 4, .inl (g.2.1 51))) := rfl
theorem Ac_52 (E : Ev) (g : G) : (cWA E g)[52]? = some (E.1 52, .inl (E.2.2.1.1, 8, .inl (g.2.1 52))) := rfl
theorem Ac_53 (E : Ev) (g : G) : (cWA E g)[53]? = some (E.1 53, .inl (E.2.2.1.1, 8, .inl (g.2.1 53))) := rfl
theorem Ac_54 (E : Ev) (g : G) : (cWA E g)[54]? = some (E.1 54, .inr (1, [.int (g.1 5400), .ref (E.1 55), .ref (E.1 56), .ref (E.1 57)])) := rfl
theorem Ac_55 (E : Ev) (g : G) : (cWA E g)[55]? = some (E.1 55, .inl (E.2.2.1.1, 4, .inl (g.2.1 55))) := rfl
theorem Ac_56 (E : Ev) (g : G) : (cWA E g)[56]? = some (E.1 56, .inl (E.2.2.1.1, 8, .inl (g.2.1 56))) := rfl
theorem Ac_57 (E : Ev) (g : G) : (cWA E g)[57]? = some (E.1 57, .inl (E.2.2.1.1, 8, .inl (g.2.1 57))) := rfl
theorem Ac_58 (E : Ev) (g : G) : (cWA E g)[58]? = some (E.1 58, .inr (1, [.int (g.1 5800), .ref (E.1 59), .ref (E.1 60), .ref (E.1 61)])) := rfl
theorem Ac_59 (E : Ev) (g : G) : (cWA E g)[59]? = some (E.1 59, .inl (E.2.2.1.1, 4, .inl (g.2.1 59))) := rfl
theorem Ac_60 (E : Ev) (g : G) : (cWA E g)[60]? = some (E.1 60, .inl (E.2.2.1.1, 8, .inl (g.2.1 60))) := rfl
theorem Ac_61 (E : Ev) (g : G) : (cWA E g)[61]? = some (E.1 61, .inl (E.2.2.1.1, 8, .inl (g.2.1 61))) := rfl
theorem Ac_62 (E : Ev) (g : G) : (cWA E g)[62]? = some (E.1 62, .inr (1, [.int (g.1 6200), .ref (E.1 63), .ref (E.1 64), .ref (E.1 65)])) := rfl
theorem Ac_63 (E : Ev) (g : G) : (cWA E g)[63]? = some (E.1 63, .inl (E.2.2.1.1, 4, .inl (g.2.1 63))) := rfl
theorem Ac_64 (E : Ev) (g : G) : (cWA E g)[64]? = some (E.1 64, .inl (E.2.2.1.1, 8, .inl (g.2.1 64))) := rfl
theorem Ac_65 (E : Ev) (g : G) : (cWA E g)[65]? = some (E.1 65, .inl (E.2.2.1.1, 8, .inl (g.2.1 65))) := rfl
theorem Ac_66 (E : Ev) (g : G) : (cWA E g)[66]? = some (E.1 66, .inr (1, [.int (g.1 6600), .ref (E.1 67), .ref (E.1 68), .ref (E.1 69)])) := rfl
theorem Ac_67 (E : Ev) (g : G) : (cWA E g)[67]? = some (E.1 67, .inl (E.2.2.1.1, 4, .inl (g.2.1 67))) := rfl
theorem Ac_68 (E : Ev) (g : G) : (cWA E g)[68]? = some (E.1 68, .inl (E.2.2.1.1, 8, .inl (g.2.1 68))) := rfl
theorem Ac_69 (E : Ev) (g : G) : (cWA E g)[69]? = some (E.1 69, .inl (E.2.2.1.1, 8, .inl (g.2.1 69))) := rfl
theorem Ac_70 (E : Ev) (g : G) : (cWA E g)[70]? = some (E.1 70, .inr (1, [.int (g.1 7000), .ref (E.1 71), .ref (E.1 72), .ref (E.1 73)])) := rfl
theorem Ac_71 (E : Ev) (g : G) : (cWA E g)[71]? = some (E.1 71, .inl (E.2.2.1.1, 4, .inl (g.2.1 71))) := rfl
theorem Ac_72 (E : Ev) (g : G) : (cWA E g)[72]? = some (E.1 72, .inl (E.2.2.1.1, 8, .inl (g.2.1 72))) := rfl
theorem Ac_73 (E : Ev) (g : G) : (cWA E g)[73]? = some (E.1 73, .inl (E.2.2.1.1, 8, .inl (g.2.1 73))) := rfl
theorem Ac_74 (E : Ev) (g : G) : (cWA E g)[74]? = some (E.1 74, .inr (1, [.int (g.1 7400), .ref (E.1 75), .ref (E.1 76), .ref (E.1 77)])) := rfl
theorem Ac_75 (E : Ev) (g : G) : (cWA E g)[75]? = some (E.1 75, .inl (E.2.2.1.1, 4, .inl (g.2.1 75))) := rfl
theorem Ac_76 (E : Ev) (g : G) : (cWA E g)[76]? = some (E.1 76, .inl (E.2.2.1.1, 8, .inl (g.2.1 76))) := rfl
theorem Ac_77 (E : Ev) (g : G) : (cWA E g)[77]? = some (E.1 77, .inl (E.2.2.1.1, 8, .inl (g.2.1 77))) := rfl
theorem Ac_78 (E : Ev) (g : G) : (cWA E g)[78]? = some (E.1 78, .inr (1, [.int (g.1 7800), .ref (E.1 79), .ref (E.1 80), .ref (E.1 81)])) := rfl
theorem Ac_79 (E : Ev) (g : G) : (cWA E g)[79]? = some (E.1 79, .inl (E.2.2.1.1, 4, .inl (g.2.1 79))) := rfl
theorem Ac_80 (E : Ev) (g : G) : (cWA E g)[80]? = some (E.1 80, .inl (E.2.2.1.1, 8, .inl (g.2.1 80))) := rfl
theorem Ac_81 (E : Ev) (g : G) : (cWA E g)[81]? = some (E.1 81, .inl (E.2.2.1.1, 8, .inl (g.2.1 81))) := rfl
theorem Ac_82 (E : Ev) (g : G) : (cWA E g)[82]? = some (E.1 82, .inr (1, [.int (g.1 8200), .ref (E.1 83), .ref (E.1 84), .ref (E.1 85)])) := rfl
theorem Ac_83 (E : Ev) (g : G) : (cWA E g)[83]? = some (E.1 83, .inl (E.2.2.1.1, 4, .inl (g.2.1 83))) := rfl
theorem Ac_84 (E : Ev) (g : G) : (cWA E g)[84]? = some (E.1 84, .inl (E.2.2.1.1, 8, .inl (g.2.1 84))) := rfl
theorem Ac_85 (E : Ev) (g : G) : (cWA E g)[85]? = some (E.1 85, .inl (E.2.2.1.1, 8, .inl (g.2.1 85))) := rfl
theorem Ac_86 (E : Ev) (g : G) : (cWA E g)[86]? = some (E.1 86, .inr (1, [.int (g.1 8600), .ref (E.1 87), .ref (E.1 88), .ref (E.1 89)])) := rfl
theorem Ac_87 (E : Ev) (g : G) : (cWA E g)[87]? = some (E.1 87, .inl (E.2.2.1.1, 4, .inl (g.2.1 87))) := rfl
theorem Ac_88 (E : Ev) (g : G) : (cWA E g)[88]? = some (E.1 88, .inl (E.2.2.1.1, 8, .inl (g.2.1 88))) := rfl
theorem Ac_89 (E : Ev) (g : G) : (cWA E g)[89]? = some (E.1 89, .inl (E.2.2.1.1, 8, .inl (g.2.1 89))) := rfl
theorem Ac_90 (E : Ev) (g : G) : (cWA E g)[90]? = some (E.1 90, .inr (1, [.int (g.1 9000), .ref (E.1 91), .ref (E.1 92), .ref (E.1 93)])) := rfl
theorem Ac_91 (E : Ev) (g : G) : (cWA E g)[91]? = some (E.1 91, .inl (E.2.2.1.1, 4, .inl (g.2.1 91))) := rfl
theorem Ac_92 (E : Ev) (g : G) : (cWA E g)[92]? = some (E.1 92, .inl (E.2.2.1.1, 8, .inl (g.2.1 92))) := rfl
theorem Ac_93 (E : Ev) (g : G) : (cWA E g)[93]? = some (E.1 93, .inl (E.2.2.1.1, 8, .inl (g.2.1 93))) := rfl
theorem Ac_94 (E : Ev) (g : G) : (cWA E g)[94]? = some (E.1 94, .inr (1, [.int (g.1 9400), .ref (E.1 95), .ref (E.1 96), .ref (E.1 97)])) := rfl
theorem Ac_95 (E : Ev) (g : G) : (cWA E g)[95]? = some (E.1 95, .inl (E.2.2.1.1, 4, .inl (g.2.1 95))) := rfl
theorem Ac_96 (E : Ev) (g : G) : (cWA E g)[96]? = some (E.1 96, .inl (E.2.2.1.1, 8, .inl (g.2.1 96))) := rfl
theorem Ac_97 (E : Ev) (g : G) : (cWA E g)[97]? = some (E.1 97, .inl (E.2.2.1.1, 8, .inl (g.2.1 97))) := rfl
theorem Ac_98 (E : Ev) (g : G) : (cWA E g)[98]? = some (E.1 98, .inr (1, [.int (g.1 9800), .ref (E.1 99), .ref (E.1 100), .ref (E.1 101)])) := rfl
theorem Ac_99 (E : Ev) (g : G) : (cWA E g)[99]? = some (E.1 99, .inl (E.2.2.1.1, 4, .inl (g.2.1 99))) := rfl
theorem Ac_100 (E : Ev) (g : G) : (cWA E g)[100]? = some (E.1 100, .inl (E.2.2.1.1, 8, .inl (g.2.1 100))) := rfl
theorem Ac_101 (E : Ev) (g : G) : (cWA E g)[101]? = some (E.1 101, .inl (E.2.2.1.1, 8, .inl (g.2.1 101))) := rfl
theorem Ac_102 (E : Ev) (g : G) : (cWA E g)[102]? = some (E.1 102, .inr (1, [.int (g.1 10200), .ref (E.1 103), .ref (E.1 104), .ref (E.1 105)])) := rfl
theorem Ac_103 (E : Ev) (g : G) : (cWA E g)[103]? = some (E.1 103, .inl (E.2.2.1.1, 4, .inl (g.2.1 103))) := rfl
theorem Ac_104 (E : Ev) (g : G) : (cWA E g)[104]? = some (E.1 104, .inl (E.2.2.1.1, 8, .inl (g.2.1 104))) := rfl
theorem Ac_105 (E : Ev) (g : G) : (cWA E g)[105]? = some (E.1 105, .inl (E.2.2.1.1, 8, .inl (g.2.1 105))) := rfl
theorem Ac_106 (E : Ev) (g : G) : (cWA E g)[106]? = some (E.1 106, .inr (1, [.int (g.1 10600), .ref (E.1 107), .ref (E.1 108), .ref (E.1 109)])) := rfl
theorem Ac_107 (E : Ev) (g : G) : (cWA E g)[107]? = some (E.1 107, .inl (E.2.2.1.1, 4, .inl (g.2.1 107))) := rfl
theorem Ac_108 (E : Ev) (g : G) : (cWA E g)[108]? = some (E.1 108, .inl (E.2.2.1.1, 8, .inl (g.2.1 108))) := rfl
theorem Ac_109 (E : Ev) (g : G) : (cWA E g)[109]? = some (E.1 109, .inl (E.2.2.1.1, 8, .inl (g.2.1 109))) := rfl
theorem Ac_110 (E : Ev) (g : G) : (cWA E g)[110]? = some (E.1 110, .inr (1, [.int (g.1 11000), .ref (E.1 111), .ref (E.1 112), .ref (E.1 113)])) := rfl
theorem Ac_111 (E : Ev) (g : G) : (cWA E g)[111]? = some (E.1 111, .inl (E.2.2.1.1, 4, .inl (g.2.1 111))) := rfl
theorem Ac_112 (E : Ev) (g : G) : (cWA E g)[112]? = some (E.1 112, .inl (E.2.2.1.1, 8, .inl (g.2.1 112))) := rfl
theorem Ac_113 (E : Ev) (g : G) : (cWA E g)[113]? = some (E.1 113, .inl (E.2.2.1.1, 8, .inl (g.2.1 113))) := rfl
theorem Ac_114 (E : Ev) (g : G) : (cWA E g)[114]? = some (E.1 114, .inr (1, [.int (g.1 11400), .ref (E.1 115), .ref (E.1 116), .ref (E.1 117)])) := rfl
theorem Ac_115 (E : Ev) (g : G) : (cWA E g)[115]? = some (E.1 115, .inl (E.2.2.1.1, 4, .inl (g.2.1 115))) := rfl
theorem Ac_116 (E : Ev) (g : G) : (cWA E g)[116]? = some (E.1 116, .inl (E.2.2.1.1, 8, .inl (g.2.1 116))) := rfl
theorem Ac_117 (E : Ev) (g : G) : (cWA E g)[117]? = some (E.1 117, .inl (E.2.2.1.1, 8, .inl (g.2.1 117))) := rfl
theorem Ac_118 (E : Ev) (g : G) : (cWA E g)[118]? = some (E.1 118, .inr (6, [.ref (E.1 3), .int (g.1 11801), .int (g.1 11802), .ref (E.1 119), .ref (E.1 120), .ref (E.1 121), .ref (E.1 122), .ref (E.1 123), .ref (E.1 124), .ref (E.1 125), .ref (E.1 126), .ref (E.1 127), .ref (E.1 128), .ref (E.1 129)])) := rfl
theorem Ac_119 (E : Ev) (g : G) : (cWA E g)[119]? = some (E.1 119, .inl (E.2.2.1.1, 1872, .inl (g.2.1 119))) := rfl
theorem Ac_120 (E : Ev) (g : G) : (cWA E g)[120]? = some (E.1 120, .inl (E.2.2.1.2.1, 12, .inr (.inr (.inl g.2.2.2.2)))) := rfl
theorem Ac_121 (E : Ev) (g : G) : (cWA E g)[121]? = some (E.1 121, .inl (E.2.2.1.1, 8, .inl (g.2.1 121))) := rfl
theorem Ac_122 (E : Ev) (g : G) : (cWA E g)[122]? = some (E.1 122, .inl (E.2.2.1.1, 8, .inl (g.2.1 122))) := rfl
theorem Ac_123 (E : Ev) (g : G) : (cWA E g)[123]? = some (E.1 123, .inl (E.2.2.1.1, 8, .inl (g.2.1 123))) := rfl
theorem Ac_124 (E : Ev) (g : G) : (cWA E g)[124]? = some (E.1 124, .inl (E.2.2.1.1, 1920, .inl (g.2.1 124))) := rfl
theorem Ac_125 (E : Ev) (g : G) : (cWA E g)[125]? = some (E.1 125, .inl (E.2.2.1.1, 1920, .inl (g.2.1 125))) := rfl
theorem Ac_126 (E : Ev) (g : G) : (cWA E g)[126]? = some (E.1 126, .inl (E.2.2.1.1, 23040, .inl (g.2.1 126))) := rfl
theorem Ac_127 (E : Ev) (g : G) : (cWA E g)[127]? = some (E.1 127, .inl (E.2.2.1.1, 2880, .inl (g.2.1 127))) := rfl
theorem Ac_128 (E : Ev) (g : G) : (cWA E g)[128]? = some (E.1 128, .inl (E.2.2.1.1, 2880, .inl (g.2.1 128))) := rfl
theorem Ac_129 (E : Ev) (g : G) : (cWA E g)[129]? = some (E.1 129, .inl (E.2.2.1.1, 24, .inl (g.2.1 129))) := rfl
theorem Ac_130 (E : Ev) (g : G) : (cWA E g)[130]? = some (E.1 130, .inr (7, [.int (g.1 13000), .int (g.1 13001), .int (g.1 13002), .int (g.1 13003), .ref (E.1 3), .ref (E.1 118), .ref (E.1 131)])) := rfl
theorem Ac_131 (E : Ev) (g : G) : (cWA E g)[131]? = some (E.1 131, .inl (E.2.2.1.1, 240, .inl (g.2.1 131))) := rfl
theorem Ac_132 (E : Ev) (g : G) : (cWA E g)[132]? = some (E.1 132, .inr (9, [.int (g.1 13200), .int (g.1 13201), .int (g.1 13202), .float (g.2.2.2.1 0), .ref (E.1 3), .ref (E.1 118), .ref (E.1 27), .ref (E.1 133)])) := rfl
theorem Ac_133 (E : Ev) (g : G) : (cWA E g)[133]? = some (E.1 133, .inr (1, [.int (g.1 13300), .ref (E.1 134), .ref (E.1 135), .ref (E.1 136)])) := rfl
theorem Ac_134 (E : Ev) (g : G) : (cWA E g)[134]? = some (E.1 134, .inl (E.2.2.1.1, 4, .inl (g.2.1 134))) := rfl
theorem Ac_135 (E : Ev) (g : G) : (cWA E g)[135]? = some (E.1 135, .inl (E.2.2.1.1, 8, .inl (g.2.1 135))) := rfl
theorem Ac_136 (E : Ev) (g : G) : (cWA E g)[136]? = some (E.1 136, .inl (E.2.2.1.1, 8, .inl (g.2.1 136))) := rfl
theorem Ac_137 (E : Ev) (g : G) : (cWA E g)[137]? = some (E.1 137, .inr (0, [.int (g.1 13700), .int (g.1 13701), .ref (E.1 3), .ref (E.1 118)])) := rfl
theorem Ac_138 (E : Ev) (g : G) : (cWA E g)[138]? = some (E.1 138, .inr (3, [.int (g.1 13800), .int (g.1 13801), .int (g.1 13802), .ref (E.1 139), .ref (E.1 140), .ref (E.1 141), .ref (E.1 142), .ref (E.1 143), .ref (E.1 3), .ref (E.1 118)])) := rfl
theorem Ac_139 (E : Ev) (g : G) : (cWA E g)[139]? = some (E.1 139, .inl (E.2.2.1.1, 16, .inl (g.2.1 139))) := rfl
theorem Ac_140 (E : Ev) (g : G) : (cWA E g)[140]? = some (E.1 140, .inl (E.2.2.1.1, 16, .inl (g.2.1 140))) := rfl
theorem Ac_141 (E : Ev) (g : G) : (cWA E g)[141]? = some (E.1 141, .inl (E.2.2.1.1, 16, .inl (g.2.1 141))) := rfl
theorem Ac_142 (E : Ev) (g : G) : (cWA E g)[142]? = some (E.1 142, .inl (E.2.2.1.1, 16, .inl (g.2.1 142))) := rfl
theorem Ac_143 (E : Ev) (g : G) : (cWA E g)[143]? = some (E.1 143, .inl (E.2.2.1.1, 9, .inl (g.2.1 143))) := rfl
theorem Ac_144 (E : Ev) (g : G) : (cWA E g)[144]? = some (E.1 144, .inl (E.2.2.1.1, 29, .inl (g.2.1 144))) := rfl
theorem Ac_145 (E : Ev) (g : G) : (cWA E g)[145]? = some (E.1 145, .inl (E.2.2.1.1, 6, .inl (g.2.1 145))) := rfl
set_option maxRecDepth 8000 in
theorem Aps_14 (E : Ev) (g : G) (v : Int32) : (cWA E g).set 0 (E.1 0, .inr (10, [.ref (E.1 1), .ref (E.1 3), .ref (E.1 15), .ref (E.1 27), .ref (E.1 31), .ref (E.1 35), .ref (E.1 36), .ref (E.1 118), .ref (E.1 130), .ref (E.1 132), .ref (E.1 137), .ref (E.1 138), .ref (E.1 144), .ref (E.1 145), .int (g.1 14), .int (g.1 15), .int (g.1 16), .long g.2.2.1, .int (g.1 18)].set 14 (.int v))) = cWA E (sS g 14 v) := rfl
set_option maxRecDepth 8000 in
theorem Aps_15 (E : Ev) (g : G) (v : Int32) : (cWA E g).set 0 (E.1 0, .inr (10, [.ref (E.1 1), .ref (E.1 3), .ref (E.1 15), .ref (E.1 27), .ref (E.1 31), .ref (E.1 35), .ref (E.1 36), .ref (E.1 118), .ref (E.1 130), .ref (E.1 132), .ref (E.1 137), .ref (E.1 138), .ref (E.1 144), .ref (E.1 145), .int (g.1 14), .int (g.1 15), .int (g.1 16), .long g.2.2.1, .int (g.1 18)].set 15 (.int v))) = cWA E (sS g 15 v) := rfl
set_option maxRecDepth 8000 in
theorem Aps_16 (E : Ev) (g : G) (v : Int32) : (cWA E g).set 0 (E.1 0, .inr (10, [.ref (E.1 1), .ref (E.1 3), .ref (E.1 15), .ref (E.1 27), .ref (E.1 31), .ref (E.1 35), .ref (E.1 36), .ref (E.1 118), .ref (E.1 130), .ref (E.1 132), .ref (E.1 137), .ref (E.1 138), .ref (E.1 144), .ref (E.1 145), .int (g.1 14), .int (g.1 15), .int (g.1 16), .long g.2.2.1, .int (g.1 18)].set 16 (.int v))) = cWA E (sS g 16 v) := rfl
set_option maxRecDepth 8000 in
theorem Apd (E : Ev) (g : G) (v : Int64) : (cWA E g).set 0 (E.1 0, .inr (10, [.ref (E.1 1), .ref (E.1 3), .ref (E.1 15), .ref (E.1 27), .ref (E.1 31), .ref (E.1 35), .ref (E.1 36), .ref (E.1 118), .ref (E.1 130), .ref (E.1 132), .ref (E.1 137), .ref (E.1 138), .ref (E.1 144), .ref (E.1 145), .int (g.1 14), .int (g.1 15), .int (g.1 16), .long g.2.2.1, .int (g.1 18)].set 17 (.long v))) = cWA E (sD g v) := rfl
set_option maxRecDepth 8000 in
theorem Aps_18 (E : Ev) (g : G) (v : Int32) : (cWA E g).set 0 (E.1 0, .inr (10, [.ref (E.1 1), .ref (E.1 3), .ref (E.1 15), .ref (E.1 27), .ref (E.1 31), .ref (E.1 35), .ref (E.1 36), .ref (E.1 118), .ref (E.1 130), .ref (E.1 132), .ref (E.1 137), .ref (E.1 138), .ref (E.1 144), .ref (E.1 145), .int (g.1 14), .int (g.1 15), .int (g.1 16), .long g.2.2.1, .int (g.1 18)].set 18 (.int v))) = cWA E (sS g 18 v) := rfl
set_option maxRecDepth 8000 in
theorem Aps_101 (E : Ev) (g : G) (v : Int32) : (cWA E g).set 1 (E.1 1, .inr (8, [.ref (E.1 2), .int (g.1 101)].set 1 (.int v))) = cWA E (sS g 101 v) := rfl
set_option maxRecDepth 8000 in
theorem Aas_2 (E : Ev) (g : G) (f : Nat → Int32) : (cWA E g).set 2 (E.1 2, .inl (E.2.2.1.1, 1600, .inl f)) = cWA E (sC g 2 f) := rfl
set_option maxRecDepth 8000 in
theorem Aps_300 (E : Ev) (g : G) (v : Int32) : (cWA E g).set 3 (E.1 3, .inr (4, [.int (g.1 300), .int (g.1 301), .int (g.1 302), .int (g.1 303), .int (g.1 304), .int (g.1 305), .int (g.1 306), .int (g.1 307), .ref (E.1 4), .ref (E.1 5), .ref (E.1 6), .ref (E.1 7), .ref (E.1 8), .ref (E.1 9), .ref (E.1 10), .ref (E.1 11), .ref (E.1 12), .ref (E.1 13), .ref (E.1 14)].set 0 (.int v))) = cWA E (sS g 300 v) := rfl
set_option maxRecDepth 8000 in
theorem Aps_301 (E : Ev) (g : G) (v : Int32) : (cWA E g).set 3 (E.1 3, .inr (4, [.int (g.1 300), .int (g.1 301), .int (g.1 302), .int (g.1 303), .int (g.1 304), .int (g.1 305), .int (g.1 306), .int (g.1 307), .ref (E.1 4), .ref (E.1 5), .ref (E.1 6), .ref (E.1 7), .ref (E.1 8), .ref (E.1 9), .ref (E.1 10), .ref (E.1 11), .ref (E.1 12), .ref (E.1 13), .ref (E.1 14)].set 1 (.int v))) = cWA E (sS g 301 v) := rfl
set_option maxRecDepth 8000 in
theorem Aps_302 (E : Ev) (g : G) (v : Int32) : (cWA E g).set 3 (E.1 3, .inr (4, [.int (g.1 300), .int (g.1 301), .int (g.1 302), .int (g.1 303), .int (g.1 304), .int (g.1 305), .int (g.1 306), .int (g.1 307), .ref (E.1 4), .ref (E.1 5), .ref (E.1 6), .ref (E.1 7), .ref (E.1 8), .ref (E.1 9), .ref (E.1 10), .ref (E.1 11), .ref (E.1 12), .ref (E.1 13), .ref (E.1 14)].set 2 (.int v))) = cWA E (sS g 302 v) := rfl
set_option maxRecDepth 8000 in
theorem Aps_303 (E : Ev) (g : G) (v : Int32) : (cWA E g).set 3 (E.1 3, .inr (4, [.int (g.1 300), .int (g.1 301), .int (g.1 302), .int (g.1 303), .int (g.1 304), .int (g.1 305), .int (g.1 306), .int (g.1 307), .ref (E.1 4), .ref (E.1 5), .ref (E.1 6), .ref (E.1 7), .ref (E.1 8), .ref (E.1 9), .ref (E.1 10), .ref (E.1 11), .ref (E.1 12), .ref (E.1 13), .ref (E.1 14)].set 3 (.int v))) = cWA E (sS g 303 v) := rfl
set_option maxRecDepth 8000 in
theorem Aps_304 (E : Ev) (g : G) (v : Int32) : (cWA E g).set 3 (E.1 3, .inr (4, [.int (g.1 300), .int (g.1 301), .int (g.1 302), .int (g.1 303), .int (g.1 304), .int (g.1 305), .int (g.1 306), .int (g.1 307), .ref (E.1 4), .ref (E.1 5), .ref (E.1 6), .ref (E.1 7), .ref (E.1 8), .ref (E.1 9), .ref (E.1 10), .ref (E.1 11), .ref (E.1 12), .ref (E.1 13), .ref (E.1 14)].set 4 (.int v))) = cWA E (sS g 304 v) := rfl
set_option maxRecDepth 8000 in
theorem Aps_305 (E : Ev) (g : G) (v : Int32) : (cWA E g).set 3 (E.1 3, .inr (4, [.int (g.1 300), .int (g.1 301), .int (g.1 302), .int (g.1 303), .int (g.1 304), .int (g.1 305), .int (g.1 306), .int (g.1 307), .ref (E.1 4), .ref (E.1 5), .ref (E.1 6), .ref (E.1 7), .ref (E.1 8), .ref (E.1 9), .ref (E.1 10), .ref (E.1 11), .ref (E.1 12), .ref (E.1 13), .ref (E.1 14)].set 5 (.int v))) = cWA E (sS g 305 v) := rfl
set_option maxRecDepth 8000 in
theorem Aps_306 (E : Ev) (g : G) (v : Int32) : (cWA E g).set 3 (E.1 3, .inr (4, [.int (g.1 300), .int (g.1 301), .int (g.1 302), .int (g.1 303), .int (g.1 304), .int (g.1 305), .int (g.1 306), .int (g.1 307), .ref (E.1 4), .ref (E.1 5), .ref (E.1 6), .ref (E.1 7), .ref (E.1 8), .ref (E.1 9), .ref (E.1 10), .ref (E.1 11), .ref (E.1 12), .ref (E.1 13), .ref (E.1 14)].set 6 (.int v))) = cWA E (sS g 306 v) := rfl
set_option maxRecDepth 8000 in
theorem Aps_307 (E : Ev) (g : G) (v : Int32) : (cWA E g).set 3 (E.1 3, .inr (4, [.int (g.1 300), .int (g.1 301), .int (g.1 302), .int (g.1 303), .int (g.1 304), .int (g.1 305), .int (g.1 306), .int (g.1 307), .ref (E.1 4), .ref (E.1 5), .ref (E.1 6), .ref (E.1 7), .ref (E.1 8), .ref (E.1 9), .ref (E.1 10), .ref (E.1 11), .ref (E.1 12), .ref (E.1 13), .ref (E.1 14)].set 7 (.int v))) = cWA E (sS g 307 v) := rfl
set_option maxRecDepth 8000 in
theorem Aas_4 (E : Ev) (g : G) (f : Nat → Int32) : (cWA E g).set 4 (E.1 4, .inl (E.2.2.1.1, 12, .inl f)) = cWA E (sC g 4 f) := rfl
set_option maxRecDepth 8000 in
theorem Aas_5 (E : Ev) (g : G) (f : Nat → Int32) : (cWA E g).set 5 (E.1 5, .inl (E.2.2.1.1, 4, .inl f)) = cWA E (sC g 5 f) := rfl
set_option maxRecDepth 8000 in
theorem Aas_6 (E : Ev) (g : G) (f : Nat → Int32) : (cWA E g).set 6 (E.1 6, .inl (E.2.2.1.1, 4, .inl f)) = cWA E (sC g 6 f) := rfl
set_option maxRecDepth 8000 in
theorem Aas_7 (E : Ev) (g : G) (f : Nat → Int32) : (cWA E g).set 7 (E.1 7, .inl (E.2.2.1.1, 4, .inl f)) = cWA E (sC g 7 f) := rfl
set_option maxRecDepth 8000 in
theorem Aas_8 (E : Ev) (g : G) (f : Nat → Int32) : (cWA E g).set 8 (E.1 8, .inl (E.2.2.1.1, 8, .inl f)) = cWA E (sC g 8 f) := rfl
set_option maxRecDepth 8000 in
theorem Aas_9 (E : Ev) (g : G) (f : Nat → Int32) : (cWA E g).set 9 (E.1 9, .inl (E.2.2.1.1, 8, .inl f)) = cWA E (sC g 9 f) := rfl
set_option maxRecDepth 8000 in
theorem Aas_10 (E : Ev) (g : G) (f : Nat → Int32) : (cWA E g).set 10 (E.1 10, .inl (E.2.2.1.1, 6, .inl f)) = cWA E (sC g 10 f) := rfl
set_option maxRecDepth 8000 in
theorem Aas_11 (E : Ev) (g : G) (f : Nat → Int32) : (cWA E g).set 11 (E.1 11, .inl (E.2.2.1.1, 6, .inl f)) = cWA E (sC g 11 f) := rfl
set_option maxRecDepth 8000 in
theorem Aas_12 (E : Ev) (g : G) (f : Nat → Int32) : (cWA E g).set 12 (E.1 12, .inl (E.2.2.1.1, 6, .inl f)) = cWA E (sC g 12 f) := rfl
set_option maxRecDepth 8000 in
theorem Aas_13 (E : Ev) (g : G) (f : Nat → Int32) : (cWA E g).set 13 (E.1 13, .inl (E.2.2.1.1, 6, .inl f)) = cWA E (sC g 13 f) := rfl
set_option maxRecDepth 8000 in
theorem Aas_14 (E : Ev) (g : G) (f : Nat → Int32) : (cWA E g).set 14 (E.1 14, .inl (E.2.2.1.1, 6, .inl f)) = cWA E (sC g 14 f) := rfl
set_option maxRecDepth 8000 in
theorem Aps_1500 (E : Ev) (g : G) (v : Int32) : (cWA E g).set 15 (E.1 15, .inr (4, [.int (g.1 1500), .int (g.1 1501), .int (g.1 1502), .int (g.1 1503), .int (g.1 1504), .int (g.1 1505), .int (g.1 1506), .int (g.1 1507), .ref (E.1 16), .ref (E.1 17), .ref (E.1 18), .ref (E.1 19), .ref (E.1 20), .ref (E.1 21), .ref (E.1 22), .ref (E.1 23), .ref (E.1 24), .ref (E.1 25), .ref (E.1 26)].set 0 (.int v))) = cWA E (sS g 1500 v) := rfl
set_option maxRecDepth 8000 in
theorem Aps_1501 (E : Ev) (g : G) (v : Int32) : (cWA E g).set 15 (E.1 15, .inr (4, [.int (g.1 1500), .int (g.1 1501), .int (g.1 1502), .int (g.1 1503), .int (g.1 1504), .int (g.1 1505), .int (g.1 1506), .int (g.1 1507), .ref (E.1 16), .ref (E.1 17), .ref (E.1 18), .ref (E.1 19), .ref (E.1 20), .ref (E.1 21), .ref (E.1 22), .ref (E.1 23), .ref (E.1 24), .ref (E.1 25), .ref (E.1 26)].set 1 (.int v))) = cWA E (sS g 1501 v) := rfl
set_option maxRecDepth 8000 in
theorem Aps_1502 (E : Ev) (g : G) (v : Int32) : (cWA E g).set 15 (E.1 15, .inr (4, [.int (g.1 1500), .int (g.1 1501), .int (g.1 1502), .int (g.1 1503), .int (g.1 1504), .int (g.1 1505), .int (g.1 1506), .int (g.1 1507), .ref (E.1 16), .ref (E.1 17), .ref (E.1 18), .ref (E.1 19), .ref (E.1 20), .ref (E.1 21), .ref (E.1 22), .ref (E.1 23), .ref (E.1 24), .ref (E.1 25), .ref (E.1 26)].set 2 (.int v))) = cWA E (sS g 1502 v) := rfl
set_option maxRecDepth 8000 in
theorem Aps_1503 (E : Ev) (g : G) (v : Int32) : (cWA E g).set 15 (E.1 15, .inr (4, [.int (g.1 1500), .int (g.1 1501), .int (g.1 1502), .int (g.1 1503), .int (g.1 1504), .int (g.1 1505), .int (g.1 1506), .int (g.1 1507), .ref (E.1 16), .ref (E.1 17), .ref (E.1 18), .ref (E.1 19), .ref (E.1 20), .ref (E.1 21), .ref (E.1 22), .ref (E.1 23), .ref (E.1 24), .ref (E.1 25), .ref (E.1 26)].set 3 (.int v))) = cWA E (sS g 1503 v) := rfl
set_option maxRecDepth 8000 in
theorem Aps_1504 (E : Ev) (g : G) (v : Int32) : (cWA E g).set 15 (E.1 15, .inr (4, [.int (g.1 1500), .int (g.1 1501), .int (g.1 1502), .int (g.1 1503), .int (g.1 1504), .int (g.1 1505), .int (g.1 1506), .int (g.1 1507), .ref (E.1 16), .ref (E.1 17), .ref (E.1 18), .ref (E.1 19), .ref (E.1 20), .ref (E.1 21), .ref (E.1 22), .ref (E.1 23), .ref (E.1 24), .ref (E.1 25), .ref (E.1 26)].set 4 (.int v))) = cWA E (sS g 1504 v) := rfl
set_option maxRecDepth 8000 in
theorem Aps_1505 (E : Ev) (g : G) (v : Int32) : (cWA E g).set 15 (E.1 15, .inr (4, [.int (g.1 1500), .int (g.1 1501), .int (g.1 1502), .int (g.1 1503), .int (g.1 1504), .int (g.1 1505), .int (g.1 1506), .int (g.1 1507), .ref (E.1 16), .ref (E.1 17), .ref (E.1 18), .ref (E.1 19), .ref (E.1 20), .ref (E.1 21), .ref (E.1 22), .ref (E.1 23), .ref (E.1 24), .ref (E.1 25), .ref (E.1 26)].set 5 (.int v))) = cWA E (sS g 1505 v) := rfl
set_option maxRecDepth 8000 in
theorem Aps_1506 (E : Ev) (g : G) (v : Int32) : (cWA E g).set 15 (E.1 15, .inr (4, [.int (g.1 1500), .int (g.1 1501), .int (g.1 1502), .int (g.1 1503), .int (g.1 1504), .int (g.1 1505), .int (g.1 1506), .int (g.1 1507), .ref (E.1 16), .ref (E.1 17), .ref (E.1 18), .ref (E.1 19), .ref (E.1 20), .ref (E.1 21), .ref (E.1 22), .ref (E.1 23), .ref (E.1 24), .ref (E.1 25), .ref (E.1 26)].set 6 (.int v))) = cWA E (sS g 1506 v) := rfl
set_option maxRecDepth 8000 in
theorem Aps_1507 (E : Ev) (g : G) (v : Int32) : (cWA E g).set 15 (E.1 15, .inr (4, [.int (g.1 1500), .int (g.1 1501), .int (g.1 1502), .int (g.1 1503), .int (g.1 1504), .int (g.1 1505), .int (g.1 1506), .int (g.1 1507), .ref (E.1 16), .ref (E.1 17), .ref (E.1 18), .ref (E.1 19), .ref (E.1 20), .ref (E.1 21), .ref (E.1 22), .ref (E.1 23), .ref (E.1 24), .ref (E.1 25), .ref (E.1 26)].set 7 (.int v))) = cWA E (sS g 1507 v) := rfl
set_option maxRecDepth 8000 in
theorem Aas_16 (E : Ev) (g : G) (f : Nat → Int32) : (cWA E g).set 16 (E.1 16, .inl (E.2.2.1.1, 12, .inl f)) = cWA E (sC g 16 f) := rfl
set_option maxRecDepth 8000 in
theorem Aas_17 (E : Ev) (g : G) (f : Nat → Int32) : (cWA E g).set 17 (E.1 17, .inl (E.2.2.1.1, 4, .inl f)) = cWA E (sC g 17 f) := rfl
set_option maxRecDepth 8000 in
theorem Aas_18 (E : Ev) (g : G) (f : Nat → Int32) : (cWA E g).set 18 (E.1 18, .inl (E.2.2.1.1, 4, .inl f)) = cWA E (sC g 18 f) := rfl
set_option maxRecDepth 8000 in
theorem Aas_19 (E : Ev) (g : G) (f : Nat → Int32) : (cWA E g).set 19 (E.1 19, .inl (E.2.2.1.1, 4, .inl f)) = cWA E (sC g 19 f) := rfl
set_option maxRecDepth 8000 in
theorem Aas_20 (E : Ev) (g : G) (f : Nat → Int32) : (cWA E g).set 20 (E.1 20, .inl (E.2.2.1.1, 8, .inl f)) = cWA E (sC g 20 f) := rfl
set_option maxRecDepth 8000 in
theorem Aas_21 (E : Ev) (g : G) (f : Nat → Int32) : (cWA E g).set 21 (E.1 21, .inl (E.2.2.1.1, 8, .inl f)) = cWA E (sC g 21 f) := rfl
set_option maxRecDepth 8000 in
theorem Aas_22 (E : Ev) (g : G) (f : Nat → Int32) : (cWA E g).set 22 (E.1 22, .inl (E.2.2.1.1, 6, .inl f)) = cWA E (sC g 22 f) := rfl
set_option maxRecDepth 8000 in
theorem Aas_23 (E : Ev) (g : G) (f : Nat → Int32) : (cWA E g).set 23 (E.1 23, .inl (E.2.2.1.1, 6, .inl f)) = cWA E (sC g 23 f) := rfl
set_option maxRecDepth 8000 in
theorem Aas_24 (E : Ev) (g : G) (f : Nat → Int32) : (cWA E g).set 24 (E.1 24, .inl (E.2.2.1.1, 6, .inl f)) = cWA E (sC g 24 f) := rfl
set_option maxRecDepth 8000 in
theorem Aas_25 (E : Ev) (g : G) (f : Nat → Int32) : (cWA E g).set 25 (E.1 25, .inl (E.2.2.1.1, 6, .inl f)) = cWA E (sC g 25 f) := rfl
set_option maxRecDepth 8000 in
theorem Aas_26 (E : Ev) (g : G) (f : Nat → Int32) : (cWA E g).set 26 (E.1 26, .inl (E.2.2.1.1, 6, .inl f)) = cWA E (sC g 26 f) := rfl
set_option maxRecDepth 8000 in
theorem Aps_2700 (E : Ev) (g : G) (v : Int32) : (cWA E g).set 27 (E.1 27, .inr (1, [.int (g.1 2700), .ref (E.1 28), .ref (E.1 29), .ref (E.1 30)].set 0 (.int v))) = cWA E (sS g 2700 v) := rfl
set_option maxRecDepth 8000 in
theorem Aas_28 (E : Ev) (g : G) (f : Nat → Int32) : (cWA E g).set 28 (E.1 28, .inl (E.2.2.1.1, 4, .inl f)) = cWA E (sC g 28 f) := rfl
set_option maxRecDepth 8000 in
theorem Aas_29 (E : Ev) (g : G) (f : Nat → Int32) : (cWA E g).set 29 (E.1 29, .inl (E.2.2.1.1, 8, .inl f)) = cWA E (sC g 29 f) := rfl
set_option maxRecDepth 8000 in
theorem Aas_30 (E : Ev) (g : G) (f : Nat → Int32) : (cWA E g).set 30 (E.1 30, .inl (E.2.2.1.1, 8, .inl f)) = cWA E (sC g 30 f) := rfl
set_option maxRecDepth 8000 in
theorem Aps_3100 (E : Ev) (g : G) (v : Int32) : (cWA E g).set 31 (E.1 31, .inr (1, [.int (g.1 3100), .ref (E.1 32), .ref (E.1 33), .ref (E.1 34)].set 0 (.int v))) = cWA E (sS g 3100 v) := rfl
set_option maxRecDepth 8000 in
theorem Aas_32 (E : Ev) (g : G) (f : Nat → Int32) : (cWA E g).set 32 (E.1 32, .inl (E.2.2.1.1, 4, .inl f)) = cWA E (sC g 32 f) := rfl
set_option maxRecDepth 8000 in
theorem Aas_33 (E : Ev) (g : G) (f : Nat → Int32) : (cWA E g).set 33 (E.1 33, .inl (E.2.2.1.1, 8, .inl f)) = cWA E (sC g 33 f) := rfl
set_option maxRecDepth 8000 in
theorem Aas_34 (E : Ev) (g : G) (f : Nat → Int32) : (cWA E g).set 34 (E.1 34, .inl (E.2.2.1.1, 8, .inl f)) = cWA E (sC g 34 f) := rfl
set_option maxRecDepth 8000 in
theorem Aps_3500 (E : Ev) (g : G) (v : Int32) : (cWA E g).set 35 (E.1 35, .inr (5, [.int (g.1 3500), .int (g.1 3501), .int (g.1 3502), .ref (E.1 1), .ref (E.1 15), .ref (E.1 31), .int (g.1 3506), .int (g.1 3507), .int (g.1 3508), .int (g.1 3509), .int (g.1 3510), .int (g.1 3511)].set 0 (.int v))) = cWA E (sS g 3500 v) := rfl
set_option maxRecDepth 8000 in
theorem Aps_3501 (E : Ev) (g : G) (v : Int32) : (cWA E g).set 35 (E.1 35, .inr (5, [.int (g.1 3500), .int (g.1 3501), .int (g.1 3502), .ref (E.1 1), .ref (E.1 15), .ref (E.1 31), .int (g.1 3506), .int (g.1 3507), .int (g.1 3508), .int (g.1 3509), .int (g.1 3510), .int (g.1 3511)].set 1 (.int v))) = cWA E (sS g 3501 v) := rfl
set_option maxRecDepth 8000 in
theorem Aps_3502 (E : Ev) (g : G) (v : Int32) : (cWA E g).set 35 (E.1 35, .inr (5, [.int (g.1 3500), .int (g.1 3501), .int (g.1 3502), .ref (E.1 1), .ref (E.1 15), .ref (E.1 31), .int (g.1 3506), .int (g.1 3507), .int (g.1 3508), .int (g.1 3509), .int (g.1 3510), .int (g.1 3511)].set 2 (.int v))) = cWA E (sS g 3502 v) := rfl
set_option maxRecDepth 8000 in
theorem Aps_3506 (E : Ev) (g : G) (v : Int32) : (cWA E g).set 35 (E.1 35, .inr (5, [.int (g.1 3500), .int (g.1 3501), .int (g.1 3502), .ref (E.1 1), .ref (E.1 15), .ref (E.1 31), .int (g.1 3506), .int (g.1 3507), .int (g.1 3508), .int (g.1 3509), .int (g.1 3510), .int (g.1 3511)].set 6 (.int v))) = cWA E (sS g 3506 v) := rfl
set_option maxRecDepth 8000 in
theorem Aps_3507 (E : Ev) (g : G) (v : Int32) : (cWA E g).set 35 (E.1 35, .inr (5, [.int (g.1 3500), .int (g.1 3501), .int (g.1 3502), .ref (E.1 1), .ref (E.1 15), .ref (E.1 31), .int (g.1 3506), .int (g.1 3507), .int (g.1 3508), .int (g.1 3509), .int (g.1 3510), .int (g.1 3511)].set 7 (.int v))) = cWA E (sS g 3507 v) := rfl
set_option maxRecDepth 8000 in
theorem Aps_3508 (E : Ev) (g : G) (v : Int32) : (cWA E g).set 35 (E.1 35, .inr (5, [.int (g.1 3500), .int (g.1 3501), .int (g.1 3502), .ref (E.1 1), .ref (E.1 15), .ref (E.1 31), .int (g.1 3506), .int (g.1 3507), .int (g.1 3508), .int (g.1 3509), .int (g.1 3510), .int (g.1 3511)].set 8 (.int v))) = cWA E (sS g 3508 v) := rfl
set_option maxRecDepth 8000 in
theorem Aps_3509 (E : Ev) (g : G) (v : Int32) : (cWA E g).set 35 (E.1 35, .inr (5, [.int (g.1 3500), .int (g.1 3501), .int (g.1 3502), .ref (E.1 1), .ref (E.1 15), .ref (E.1 31), .int (g.1 3506), .int (g.1 3507), .int (g.1 3508), .int (g.1 3509), .int (g.1 3510), .int (g.1 3511)].set 9 (.int v))) = cWA E (sS g 3509 v) := rfl
set_option maxRecDepth 8000 in
theorem Aps_3510 (E : Ev) (g : G) (v : Int32) : (cWA E g).set 35 (E.1 35, .inr (5, [.int (g.1 3500), .int (g.1 3501), .int (g.1 3502), .ref (E.1 1), .ref (E.1 15), .ref (E.1 31), .int (g.1 3506), .int (g.1 3507), .int (g.1 3508), .int (g.1 3509), .int (g.1 3510), .int (g.1 3511)].set 10 (.int v))) = cWA E (sS g 3510 v) := rfl
set_option maxRecDepth 8000 in
theorem Aps_3511 (E : Ev) (g : G) (v : Int32) : (cWA E g).set 35 (E.1 35, .inr (5, [.int (g.1 3500), .int (g.1 3501), .int (g.1 3502), .ref (E.1 1), .ref (E.1 15), .ref (E.1 31), .int (g.1 3506), .int (g.1 3507), .int (g.1 3508), .int (g.1 3509), .int (g.1 3510), .int (g.1 3511)].set 11 (.int v))) = cWA E (sS g 3511 v) := rfl
set_option maxRecDepth 8000 in
theorem Aps_3600 (E : Ev) (g : G) (v : Int32) : (cWA E g).set 36 (E.1 36, .inr (2, [.int (g.1 3600), .int (g.1 3601), .ref (E.1 37)].set 0 (.int v))) = cWA E (sS g 3600 v) := rfl
set_option maxRecDepth 8000 in
theorem Aps_3601 (E : Ev) (g : G) (v : Int32) : (cWA E g).set 36 (E.1 36, .inr (2, [.int (g.1 3600), .int (g.1 3601), .ref (E.1 37)].set 1 (.int v))) = cWA E (sS g 3601 v) := rfl
set_option maxRecDepth 8000 in
theorem Aps_3800 (E : Ev) (g : G) (v : Int32) : (cWA E g).set 38 (E.1 38, .inr (1, [.int (g.1 3800), .ref (E.1 39), .ref (E.1 40), .ref (E.1 41)].set 0 (.int v))) = cWA E (sS g 3800 v) := rfl
set_option maxRecDepth 8000 in
theorem Aas_39 (E : Ev) (g : G) (f : Nat → Int32) : (cWA E g).set 39 (E.1 39, .inl (E.2.2.1.1, 4, .inl f)) = cWA E (sC g 39 f) := rfl
set_option maxRecDepth 8000 in
theorem Aas_40 (E : Ev) (g : G) (f : Nat → Int32) : (cWA E g).set 40 (E.1 40, .inl (E.2.2.1.1, 8, .inl f)) = cWA E (sC g 40 f) := rfl
set_option maxRecDepth 8000 in
theorem Aas_41 (E : Ev) (g : G) (f : Nat → Int32) : (cWA E g).set 41 (E.1 41, .inl (E.2.2.1.1, 8, .inl f)) = cWA E (sC g 41 f) := rfl
set_option maxRecDepth 8000 in
theorem Aps_4200 (E : Ev) (g : G) (v : Int32) : (cWA E g).set 42 (E.1 42, .inr (1, [.int (g.1 4200), .ref (E.1 43), .ref (E.1 44), .ref (E.1 45)].set 0 (.int v))) = cWA E (sS g 4200 v) := rfl
set_option maxRecDepth 8000 in
theorem Aas_43 (E : Ev) (g : G) (f : Nat → Int32) : (cWA E g).set 43 (E.1 43, .inl (E.2.2.1.1, 4, .inl f)) = cWA E (sC g 43 f) := rfl
set_option maxRecDepth 8000 in
theorem Aas_44 (E : Ev) (g : G) (f : Nat → Int32) : (cWA E g).set 44 (E.1 44, .inl (E.2.2.1.1, 8, .inl f)) = cWA E (sC g 44 f) := rfl
set_option maxRecDepth 8000 in
theorem Aas_45 (E : Ev) (g : G) (f : Nat → Int32) : (cWA E g).set 45 (E.1 45, .inl (E.2.2.1.1, 8, .inl f)) = cWA E (sC g 45 f) := rfl
set_option maxRecDepth 8000 in
theorem Aps_4600 (E : Ev) (g : G) (v : Int32) : (cWA E g).set 46 (E.1 46, .inr (1, [.int (g.1 4600), .ref (E.1 47), .ref (E.1 48), .ref (E.1 49)].set 0 (.int v))) = cWA E (sS g 4600 v) := rfl
set_option maxRecDepth 8000 in
theorem Aas_47 (E : Ev) (g : G) (f : Nat → Int32) : (cWA E g).set 47 (E.1 47, .inl (E.2.2.1.1, 4, .inl f)) = cWA E (sC g 47 f) := rfl
set_option maxRecDepth 8000 in
theorem Aas_48 (E : Ev) (g : G) (f : Nat → Int32) : (cWA E g).set 48 (E.1 48, .inl (E.2.2.1.1, 8, .inl f)) = cWA E (sC g 48 f) := rfl
set_option maxRecDepth 8000 in
theorem Aas_49 (E : Ev) (g : G) (f : Nat → Int32) : (cWA E g).set 49 (E.1 49, .inl (E.2.2.1.1, 8, .inl f)) = cWA E (sC g 49 f) := rfl
set_option maxRecDepth 8000 in
theorem Aps_5000 (E : Ev) (g : G) (v : Int32) : (cWA E g).set 50 (E.1 50, .inr (1, [.int (g.1 5000), .ref (E.1 51), .ref (E.1 52), .ref (E.1 53)].set 0 (.int v))) = cWA E (sS g 5000 v) := rfl
set_option maxRecDepth 8000 in
theorem Aas_51 (E : Ev) (g : G) (f : Nat → Int32) : (cWA E g).set 51 (E.1 51, .inl (E.2.2.1.1, 4, .inl f)) = cWA E (sC g 51 f) := rfl
set_option maxRecDepth 8000 in
theorem Aas_52 (E : Ev) (g : G) (f : Nat → Int32) : (cWA E g).set 52 (E.1 52, .inl (E.2.2.1.1, 8, .inl f)) = cWA E (sC g 52 f) := rfl
set_option maxRecDepth 8000 in
theorem Aas_53 (E : Ev) (g : G) (f : Nat → Int32) : (cWA E g).set 53 (E.1 53, .inl (E.2.2.1.1, 8, .inl f)) = cWA E (sC g 53 f) := rfl
set_option maxRecDepth 8000 in
theorem Aps_5400 (E : Ev) (g : G) (v : Int32) : (cWA E g).set 54 (E.1 54, .inr (1, [.int (g.1 5400), .ref (E.1 55), .ref (E.1 56), .ref (E.1 57)].set 0 (.int v))) = cWA E (sS g 5400 v) := rfl
set_option maxRecDepth 8000 in
theorem Aas_55 (E : Ev) (g : G) (f : Nat → Int32) : (cWA E g).set 55 (E.1 55, .inl (E.2.2.1.1, 4, .inl f)) = cWA E (sC g 55 f) := rfl
set_option maxRecDepth 8000 in
theorem Aas_56 (E : Ev) (g : G) (f : Nat → Int32) : (cWA E g).set 56 (E.1 56, .inl (E.2.2.1.1, 8, .inl f)) = cWA E (sC g 56 f) := rfl
set_option maxRecDepth 8000 in
theorem Aas_57 (E : Ev) (g : G) (f : Nat → Int32) : (cWA E g).set 57 (E.1 57, .inl (E.2.2.1.1, 8, .inl f)) = cWA E (sC g 57 f) := rfl
set_option maxRecDepth 8000 in
theorem Aps_5800 (E : Ev) (g : G) (v : Int32) : (cWA E g).set 58 (E.1 58, .inr (1, [.int (g.1 5800), .ref (E.1 59), .ref (E.1 60), .ref (E.1 61)].set 0 (.int v))) = cWA E (sS g 5800 v) := rfl
set_option maxRecDepth 8000 in
theorem Aas_59 (E : Ev) (g : G) (f : Nat → Int32) : (cWA E g).set 59 (E.1 59, .inl (E.2.2.1.1, 4, .inl f)) = cWA E (sC g 59 f) := rfl
set_option maxRecDepth 8000 in
theorem Aas_60 (E : Ev) (g : G) (f : Nat → Int32) : (cWA E g).set 60 (E.1 60, .inl (E.2.2.1.1, 8, .inl f)) = cWA E (sC g 60 f) := rfl
set_option maxRecDepth 8000 in
theorem Aas_61 (E : Ev) (g : G) (f : Nat → Int32) : (cWA E g).set 61 (E.1 61, .inl (E.2.2.1.1, 8, .inl f)) = cWA E (sC g 61 f) := rfl
set_option maxRecDepth 8000 in
theorem Aps_6200 (E : Ev) (g : G) (v : Int32) : (cWA E g).set 62 (E.1 62, .inr (1, [.int (g.1 6200), .ref (E.1 63), .ref (E.1 64), .ref (E.1 65)].set 0 (.int v))) = cWA E (sS g 6200 v) := rfl
set_option maxRecDepth 8000 in
theorem Aas_63 (E : Ev) (g : G) (f : Nat → Int32) : (cWA E g).set 63 (E.1 63, .inl (E.2.2.1.1, 4, .inl f)) = cWA E (sC g 63 f) := rfl
set_option maxRecDepth 8000 in
theorem Aas_64 (E : Ev) (g : G) (f : Nat → Int32) : (cWA E g).set 64 (E.1 64, .inl (E.2.2.1.1, 8, .inl f)) = cWA E (sC g 64 f) := rfl
set_option maxRecDepth 8000 in
theorem Aas_65 (E : Ev) (g : G) (f : Nat → Int32) : (cWA E g).set 65 (E.1 65, .inl (E.2.2.1.1, 8, .inl f)) = cWA E (sC g 65 f) := rfl
set_option maxRecDepth 8000 in
theorem Aps_6600 (E : Ev) (g : G) (v : Int32) : (cWA E g).set 66 (E.1 66, .inr (1, [.int (g.1 6600), .ref (E.1 67), .ref (E.1 68), .ref (E.1 69)].set 0 (.int v))) = cWA E (sS g 6600 v) := rfl
set_option maxRecDepth 8000 in
theorem Aas_67 (E : Ev) (g : G) (f : Nat → Int32) : (cWA E g).set 67 (E.1 67, .inl (E.2.2.1.1, 4, .inl f)) = cWA E (sC g 67 f) := rfl
set_option maxRecDepth 8000 in
theorem Aas_68 (E : Ev) (g : G) (f : Nat → Int32) : (cWA E g).set 68 (E.1 68, .inl (E.2.2.1.1, 8, .inl f)) = cWA E (sC g 68 f) := rfl
set_option maxRecDepth 8000 in
theorem Aas_69 (E : Ev) (g : G) (f : Nat → Int32) : (cWA E g).set 69 (E.1 69, .inl (E.2.2.1.1, 8, .inl f)) = cWA E (sC g 69 f) := rfl
set_option maxRecDepth 8000 in
theorem Aps_7000 (E : Ev) (g : G) (v : Int32) : (cWA E g).set 70 (E.1 70, .inr (1, [.int (g.1 7000), .ref (E.1 71), .ref (E.1 72), .ref (E.1 73)].set 0 (.int v))) = cWA E (sS g 7000 v) := rfl
set_option maxRecDepth 8000 in
theorem Aas_71 (E : Ev) (g : G) (f : Nat → Int32) : (cWA E g).set 71 (E.1 71, .inl (E.2.2.1.1, 4, .inl f)) = cWA E (sC g 71 f) := rfl
set_option maxRecDepth 8000 in
theorem Aas_72 (E : Ev) (g : G) (f : Nat → Int32) : (cWA E g).set 72 (E.1 72, .inl (E.2.2.1.1, 8, .inl f)) = cWA E (sC g 72 f) := rfl
set_option maxRecDepth 8000 in
theorem Aas_73 (E : Ev) (g : G) (f : Nat → Int32) : (cWA E g).set 73 (E.1 73, .inl (E.2.2.1.1, 8, .inl f)) = cWA E (sC g 73 f) := rfl
set_option maxRecDepth 8000 in
theorem Aps_7400 (E : Ev) (g : G) (v : Int32) : (cWA E g).set 74 (E.1 74, .inr (1, [.int (g.1 7400), .ref (E.1 75), .ref (E.1 76), .ref (E.1 77)].set 0 (.int v))) = cWA E (sS g 7400 v) := rfl
set_option maxRecDepth 8000 in
theorem Aas_75 (E : Ev) (g : G) (f : Nat → Int32) : (cWA E g).set 75 (E.1 75, .inl (E.2.2.1.1, 4, .inl f)) = cWA E (sC g 75 f) := rfl
set_option maxRecDepth 8000 in
theorem Aas_76 (E : Ev) (g : G) (f : Nat → Int32) : (cWA E g).set 76 (E.1 76, .inl (E.2.2.1.1, 8, .inl f)) = cWA E (sC g 76 f) := rfl
set_option maxRecDepth 8000 in
theorem Aas_77 (E : Ev) (g : G) (f : Nat → Int32) : (cWA E g).set 77 (E.1 77, .inl (E.2.2.1.1, 8, .inl f)) = cWA E (sC g 77 f) := rfl
set_option maxRecDepth 8000 in
theorem Aps_7800 (E : Ev) (g : G) (v : Int32) : (cWA E g).set 78 (E.1 78, .inr (1, [.int (g.1 7800), .ref (E.1 79), .ref (E.1 80), .ref (E.1 81)].set 0 (.int v))) = cWA E (sS g 7800 v) := rfl
set_option maxRecDepth 8000 in
theorem Aas_79 (E : Ev) (g : G) (f : Nat → Int32) : (cWA E g).set 79 (E.1 79, .inl (E.2.2.1.1, 4, .inl f)) = cWA E (sC g 79 f) := rfl
set_option maxRecDepth 8000 in
theorem Aas_80 (E : Ev) (g : G) (f : Nat → Int32) : (cWA E g).set 80 (E.1 80, .inl (E.2.2.1.1, 8, .inl f)) = cWA E (sC g 80 f) := rfl
set_option maxRecDepth 8000 in
theorem Aas_81 (E : Ev) (g : G) (f : Nat → Int32) : (cWA E g).set 81 (E.1 81, .inl (E.2.2.1.1, 8, .inl f)) = cWA E (sC g 81 f) := rfl
set_option maxRecDepth 8000 in
theorem Aps_8200 (E : Ev) (g : G) (v : Int32) : (cWA E g).set 82 (E.1 82, .inr (1, [.int (g.1 8200), .ref (E.1 83), .ref (E.1 84), .ref (E.1 85)].set 0 (.int v))) = cWA E (sS g 8200 v) := rfl
set_option maxRecDepth 8000 in
theorem Aas_83 (E : Ev) (g : G) (f : Nat → Int32) : (cWA E g).set 83 (E.1 83, .inl (E.2.2.1.1, 4, .inl f)) = cWA E (sC g 83 f) := rfl
set_option maxRecDepth 8000 in
theorem Aas_84 (E : Ev) (g : G) (f : Nat → Int32) : (cWA E g).set 84 (E.1 84, .inl (E.2.2.1.1, 8, .inl f)) = cWA E (sC g 84 f) := rfl
set_option maxRecDepth 8000 in
theorem Aas_85 (E : Ev) (g : G) (f : Nat → Int32) : (cWA E g).set 85 (E.1 85, .inl (E.2.2.1.1, 8, .inl f)) = cWA E (sC g 85 f) := rfl
set_option maxRecDepth 8000 in
theorem Aps_8600 (E : Ev) (g : G) (v : Int32) : (cWA E g).set 86 (E.1 86, .inr (1, [.int (g.1 8600), .ref (E.1 87), .ref (E.1 88), .ref (E.1 89)].set 0 (.int v))) = cWA E (sS g 8600 v) := rfl
set_option maxRecDepth 8000 in
theorem Aas_87 (E : Ev) (g : G) (f : Nat → Int32) : (cWA E g).set 87 (E.1 87, .inl (E.2.2.1.1, 4, .inl f)) = cWA E (sC g 87 f) := rfl
set_option maxRecDepth 8000 in
theorem Aas_88 (E : Ev) (g : G) (f : Nat → Int32) : (cWA E g).set 88 (E.1 88, .inl (E.2.2.1.1, 8, .inl f)) = cWA E (sC g 88 f) := rfl
set_option maxRecDepth 8000 in
theorem Aas_89 (E : Ev) (g : G) (f : Nat → Int32) : (cWA E g).set 89 (E.1 89, .inl (E.2.2.1.1, 8, .inl f)) = cWA E (sC g 89 f) := rfl
set_option maxRecDepth 8000 in
theorem Aps_9000 (E : Ev) (g : G) (v : Int32) : (cWA E g).set 90 (E.1 90, .inr (1, [.int (g.1 9000), .ref (E.1 91), .ref (E.1 92), .ref (E.1 93)].set 0 (.int v))) = cWA E (sS g 9000 v) := rfl
set_option maxRecDepth 8000 in
theorem Aas_91 (E : Ev) (g : G) (f : Nat → Int32) : (cWA E g).set 91 (E.1 91, .inl (E.2.2.1.1, 4, .inl f)) = cWA E (sC g 91 f) := rfl
set_option maxRecDepth 8000 in
theorem Aas_92 (E : Ev) (g : G) (f : Nat → Int32) : (cWA E g).set 92 (E.1 92, .inl (E.2.2.1.1, 8, .inl f)) = cWA E (sC g 92 f) := rfl
set_option maxRecDepth 8000 in
theorem Aas_93 (E : Ev) (g : G) (f : Nat → Int32) : (cWA E g).set 93 (E.1 93, .inl (E.2.2.1.1, 8, .inl f)) = cWA E (sC g 93 f) := rfl
set_option maxRecDepth 8000 in
theorem Aps_9400 (E : Ev) (g : G) (v : Int32) : (cWA E g).set 94 (E.1 94, .inr (1, [.int (g.1 9400), .ref (E.1 95), .ref (E.1 96), .ref (E.1 97)].set 0 (.int v))) = cWA E (sS g 9400 v) := rfl
set_option maxRecDepth 8000 in
theorem Aas_95 (E : Ev) (g : G) (f : Nat → Int32) : (cWA E g).set 95 (E.1 95, .inl (E.2.2.1.1, 4, .inl f)) = cWA E (sC g 95 f) := rfl
set_option maxRecDepth 8000 in
theorem Aas_96 (E : Ev) (g : G) (f : Nat → Int32) : (cWA E g).set 96 (E.1 96, .inl (E.2.2.1.1, 8, .inl f)) = cWA E (sC g 96 f) := rfl
set_option maxRecDepth 8000 in
theorem Aas_97 (E : Ev) (g : G) (f : Nat → Int32) : (cWA E g).set 97 (E.1 97, .inl (E.2.2.1.1, 8, .inl f)) = cWA E (sC g 97 f) := rfl
set_option maxRecDepth 8000 in
theorem Aps_9800 (E : Ev) (g : G) (v : Int32) : (cWA E g).set 98 (E.1 98, .inr (1, [.int (g.1 9800), .ref (E.1 99), .ref (E.1 100), .ref (E.1 101)].set 0 (.int v))) = cWA E (sS g 9800 v) := rfl
set_option maxRecDepth 8000 in
theorem Aas_99 (E : Ev) (g : G) (f : Nat → Int32) : (cWA E g).set 99 (E.1 99, .inl (E.2.2.1.1, 4, .inl f)) = cWA E (sC g 99 f) := rfl
set_option maxRecDepth 8000 in
theorem Aas_100 (E : Ev) (g : G) (f : Nat → Int32) : (cWA E g).set 100 (E.1 100, .inl (E.2.2.1.1, 8, .inl f)) = cWA E (sC g 100 f) := rfl
set_option maxRecDepth 8000 in
theorem Aas_101 (E : Ev) (g : G) (f : Nat → Int32) : (cWA E g).set 101 (E.1 101, .inl (E.2.2.1.1, 8, .inl f)) = cWA E (sC g 101 f) := rfl
set_option maxRecDepth 8000 in
theorem Aps_10200 (E : Ev) (g : G) (v : Int32) : (cWA E g).set 102 (E.1 102, .inr (1, [.int (g.1 10200), .ref (E.1 103), .ref (E.1 104), .ref (E.1 105)].set 0 (.int v))) = cWA E (sS g 10200 v) := rfl
set_option maxRecDepth 8000 in
theorem Aas_103 (E : Ev) (g : G) (f : Nat → Int32) : (cWA E g).set 103 (E.1 103, .inl (E.2.2.1.1, 4, .inl f)) = cWA E (sC g 103 f) := rfl
set_option maxRecDepth 8000 in
theorem Aas_104 (E : Ev) (g : G) (f : Nat → Int32) : (cWA E g).set 104 (E.1 104, .inl (E.2.2.1.1, 8, .inl f)) = cWA E (sC g 104 f) := rfl
set_option maxRecDepth 8000 in
theorem Aas_105 (E : Ev) (g : G) (f : Nat → Int32) : (cWA E g).set 105 (E.1 105, .inl (E.2.2.1.1, 8, .inl f)) = cWA E (sC g 105 f) := rfl
set_option maxRecDepth 8000 in
theorem Aps_10600 (E : Ev) (g : G) (v : Int32) : (cWA E g).set 106 (E.1 106, .inr (1, [.int (g.1 10600), .ref (E.1 107), .ref (E.1 108), .ref (E.1 109)].set 0 (.int v))) = cWA E (sS g 10600 v) := rfl
set_option maxRecDepth 8000 in
theorem Aas_107 (E : Ev) (g : G) (f : Nat → Int32) : (cWA E g).set 107 (E.1 107, .inl (E.2.2.1.1, 4, .inl f)) = cWA E (sC g 107 f) := rfl
set_option maxRecDepth 8000 in
theorem Aas_108 (E : Ev) (g : G) (f : Nat → Int32) : (cWA E g).set 108 (E.1 108, .inl (E.2.2.1.1, 8, .inl f)) = cWA E (sC g 108 f) := rfl
set_option maxRecDepth 8000 in
theorem Aas_109 (E : Ev) (g : G) (f : Nat → Int32) : (cWA E g).set 109 (E.1 109, .inl (E.2.2.1.1, 8, .inl f)) = cWA E (sC g 109 f) := rfl
set_option maxRecDepth 8000 in
theorem Aps_11000 (E : Ev) (g : G) (v : Int32) : (cWA E g).set 110 (E.1 110, .inr (1, [.int (g.1 11000), .ref (E.1 111), .ref (E.1 112), .ref (E.1 113)].set 0 (.int v))) = cWA E (sS g 11000 v) := rfl
set_option maxRecDepth 8000 in
theorem Aas_111 (E : Ev) (g : G) (f : Nat → Int32) : (cWA E g).set 111 (E.1 111, .inl (E.2.2.1.1, 4, .inl f)) = cWA E (sC g 111 f) := rfl
set_option maxRecDepth 8000 in
theorem Aas_112 (E : Ev) (g : G) (f : Nat → Int32) : (cWA E g).set 112 (E.1 112, .inl (E.2.2.1.1, 8, .inl f)) = cWA E (sC g 112 f) := rfl
set_option maxRecDepth 8000 in
theorem Aas_113 (E : Ev) (g : G) (f : Nat → Int32) : (cWA E g).set 113 (E.1 113, .inl (E.2.2.1.1, 8, .inl f)) = cWA E (sC g 113 f) := rfl
set_option maxRecDepth 8000 in
theorem Aps_11400 (E : Ev) (g : G) (v : Int32) : (cWA E g).set 114 (E.1 114, .inr (1, [.int (g.1 11400), .ref (E.1 115), .ref (E.1 116), .ref (E.1 117)].set 0 (.int v))) = cWA E (sS g 11400 v) := rfl
set_option maxRecDepth 8000 in
theorem Aas_115 (E : Ev) (g : G) (f : Nat → Int32) : (cWA E g).set 115 (E.1 115, .inl (E.2.2.1.1, 4, .inl f)) = cWA E (sC g 115 f) := rfl
set_option maxRecDepth 8000 in
theorem Aas_116 (E : Ev) (g : G) (f : Nat → Int32) : (cWA E g).set 116 (E.1 116, .inl (E.2.2.1.1, 8, .inl f)) = cWA E (sC g 116 f) := rfl
set_option maxRecDepth 8000 in
theorem Aas_117 (E : Ev) (g : G) (f : Nat → Int32) : (cWA E g).set 117 (E.1 117, .inl (E.2.2.1.1, 8, .inl f)) = cWA E (sC g 117 f) := rfl
set_option maxRecDepth 8000 in
theorem Aps_11801 (E : Ev) (g : G) (v : Int32) : (cWA E g).set 118 (E.1 118, .inr (6, [.ref (E.1 3), .int (g.1 11801), .int (g.1 11802), .ref (E.1 119), .ref (E.1 120), .ref (E.1 121), .ref (E.1 122), .ref (E.1 123), .ref (E.1 124), .ref (E.1 125), .ref (E.1 126), .ref (E.1 127), .ref (E.1 128), .ref (E.1 129)].set 1 (.int v))) = cWA E (sS g 11801 v) := rfl
set_option maxRecDepth 8000 in
theorem Aps_11802 (E : Ev) (g : G) (v : Int32) : (cWA E g).set 118 (E.1 118, .inr (6, [.ref (E.1 3), .int (g.1 11801), .int (g.1 11802), .ref (E.1 119), .ref (E.1 120), .ref (E.1 121), .ref (E.1 122), .ref (E.1 123), .ref (E.1 124), .ref (E.1 125), .ref (E.1 126), .ref (E.1 127), .ref (E.1 128), .ref (E.1 129)].set 2 (.int v))) = cWA E (sS g 11802 v) := rfl
set_option maxRecDepth 8000 in
theorem Aas_119 (E : Ev) (g : G) (f : Nat → Int32) : (cWA E g).set 119 (E.1 119, .inl (E.2.2.1.1, 1872, .inl f)) = cWA E (sC g 119 f) := rfl
set_option maxRecDepth 8000 in
theorem Afs_120 (E : Ev) (g : G) (i : Nat) (v : UInt32) : (cWA E g).set 120 (E.1 120, .inl (E.2.2.1.2.1, 12, .inr (.inr (.inl (vf_upd g.2.2.2.2 i v))))) = cWA E (sH g i v) := rfl
set_option maxRecDepth 8000 in
theorem Aas_121 (E : Ev) (g : G) (f : Nat → Int32) : (cWA E g).set 121 (E.1 121, .inl (E.2.2.1.1, 8, .inl f)) = cWA E (sC g 121 f) := rfl
set_option maxRecDepth 8000 in
theorem Aas_122 (E : Ev) (g : G) (f : Nat → Int32) : (cWA E g).set 122 (E.1 122, .inl (E.2.2.1.1, 8, .inl f)) = cWA E (sC g 122 f) := rfl
set_option maxRecDepth 8000 in
theorem Aas_123 (E : Ev) (g : G) (f : Nat → Int32) : (cWA E g).set 123 (E.1 123, .inl (E.2.2.1.1, 8, .inl f)) = cWA E (sC g 123 f) := rfl
set_option maxRecDepth 8000 in
theorem Aas_124 (E : Ev) (g : G) (f : Nat → Int32) : (cWA E g).set 124 (E.1 124, .inl (E.2.2.1.1, 1920, .inl f)) = cWA E (sC g 124 f) := rfl
set_option maxRecDepth 8000 in
theorem Aas_125 (E : Ev) (g : G) (f : Nat → Int32) : (cWA E g).set 125 (E.1 125, .inl (E.2.2.1.1, 1920, .inl f)) = cWA E (sC g 125 f) := rfl
set_option maxRecDepth 8000 in
theorem Aas_126 (E : Ev) (g : G) (f : Nat → Int32) : (cWA E g).set 126 (E.1 126, .inl (E.2.2.1.1, 23040, .inl f)) = cWA E (sC g 126 f) := rfl
set_option maxRecDepth 8000 in
theorem Aas_127 (E : Ev) (g : G) (f : Nat → Int32) : (cWA E g).set 127 (E.1 127, .inl (E.2.2.1.1, 2880, .inl f)) = cWA E (sC g 127 f) := rfl
set_option maxRecDepth 8000 in
theorem Aas_128 (E : Ev) (g : G) (f : Nat → Int32) : (cWA E g).set 128 (E.1 128, .inl (E.2.2.1.1, 2880, .inl f)) = cWA E (sC g 128 f) := rfl
set_option maxRecDepth 8000 in
theorem Aas_129 (E : Ev) (g : G) (f : Nat → Int32) : (cWA E g).set 129 (E.1 129, .inl (E.2.2.1.1, 24, .inl f)) = cWA E (sC g 129 f) := rfl
set_option maxRecDepth 8000 in
theorem Aps_13000 (E : Ev) (g : G) (v : Int32) : (cWA E g).set 130 (E.1 130, .inr (7, [.int (g.1 13000), .int (g.1 13001), .int (g.1 13002), .int (g.1 13003), .ref (E.1 3), .ref (E.1 118), .ref (E.1 131)].set 0 (.int v))) = cWA E (sS g 13000 v) := rfl
set_option maxRecDepth 8000 in
theorem Aps_13001 (E : Ev) (g : G) (v : Int32) : (cWA E g).set 130 (E.1 130, .inr (7, [.int (g.1 13000), .int (g.1 13001), .int (g.1 13002), .int (g.1 13003), .ref (E.1 3), .ref (E.1 118), .ref (E.1 131)].set 1 (.int v))) = cWA E (sS g 13001 v) := rfl
set_option maxRecDepth 8000 in
theorem Aps_13002 (E : Ev) (g : G) (v : Int32) : (cWA E g).set 130 (E.1 130, .inr (7, [.int (g.1 13000), .int (g.1 13001), .int (g.1 13002), .int (g.1 13003), .ref (E.1 3), .ref (E.1 118), .ref (E.1 131)].set 2 (.int v))) = cWA E (sS g 13002 v) := rfl
set_option maxRecDepth 8000 in
theorem Aps_13003 (E : Ev) (g : G) (v : Int32) : (cWA E g).set 130 (E.1 130, .inr (7, [.int (g.1 13000), .int (g.1 13001), .int (g.1 13002), .int (g.1 13003), .ref (E.1 3), .ref (E.1 118), .ref (E.1 131)].set 3 (.int v))) = cWA E (sS g 13003 v) := rfl
set_option maxRecDepth 8000 in
theorem Aas_131 (E : Ev) (g : G) (f : Nat → Int32) : (cWA E g).set 131 (E.1 131, .inl (E.2.2.1.1, 240, .inl f)) = cWA E (sC g 131 f) := rfl
set_option maxRecDepth 8000 in
theorem Aps_13200 (E : Ev) (g : G) (v : Int32) : (cWA E g).set 132 (E.1 132, .inr (9, [.int (g.1 13200), .int (g.1 13201), .int (g.1 13202), .float (g.2.2.2.1 0), .ref (E.1 3), .ref (E.1 118), .ref (E.1 27), .ref (E.1 133)].set 0 (.int v))) = cWA E (sS g 13200 v) := rfl
set_option maxRecDepth 8000 in
theorem Aps_13201 (E : Ev) (g : G) (v : Int32) : (cWA E g).set 132 (E.1 132, .inr (9, [.int (g.1 13200), .int (g.1 13201), .int (g.1 13202), .float (g.2.2.2.1 0), .ref (E.1 3), .ref (E.1 118), .ref (E.1 27), .ref (E.1 133)].set 1 (.int v))) = cWA E (sS g 13201 v) := rfl
set_option maxRecDepth 8000 in
theorem Aps_13202 (E : Ev) (g : G) (v : Int32) : (cWA E g).set 132 (E.1 132, .inr (9, [.int (g.1 13200), .int (g.1 13201), .int (g.1 13202), .float (g.2.2.2.1 0), .ref (E.1 3), .ref (E.1 118), .ref (E.1 27), .ref (E.1 133)].set 2 (.int v))) = cWA E (sS g 13202 v) := rfl
set_option maxRecDepth 8000 in
theorem Apf (E : Ev) (g : G) (v : UInt32) : (cWA E g).set 132 (E.1 132, .inr (9, [.int (g.1 13200), .int (g.1 13201), .int (g.1 13202), .float (g.2.2.2.1 0), .ref (E.1 3), .ref (E.1 118), .ref (E.1 27), .ref (E.1 133)].set 3 (.float v))) = cWA E (sF g 0 v) := rfl
set_option maxRecDepth 8000 in
theorem Aps_13300 (E : Ev) (g : G) (v : Int32) : (cWA E g).set 133 (E.1 133, .inr (1, [.int (g.1 13300), .ref (E.1 134), .ref (E.1 135), .ref (E.1 136)].set 0 (.int v))) = cWA E (sS g 13300 v) := rfl
set_option maxRecDepth 8000 in
theorem Aas_134 (E : Ev) (g : G) (f : Nat → Int32) : (cWA E g).set 134 (E.1 134, .inl (E.2.2.1.1, 4, .inl f)) = cWA E (sC g 134 f) := rfl
set_option maxRecDepth 8000 in
theorem Aas_135 (E : Ev) (g : G) (f : Nat → Int32) : (cWA E g).set 135 (E.1 135, .inl (E.2.2.1.1, 8, .inl f)) = cWA E (sC g 135 f) := rfl
set_option maxRecDepth 8000 in
theorem Aas_136 (E : Ev) (g : G) (f : Nat → Int32) : (cWA E g).set 136 (E.1 136, .inl (E.2.2.1.1, 8, .inl f)) = cWA E (sC g 136 f) := rfl
set_option maxRecDepth 8000 in
theorem Aps_13700 (E : Ev) (g : G) (v : Int32) : (cWA E g).set 137 (E.1 137, .inr (0, [.int (g.1 13700), .int (g.1 13701), .ref (E.1 3), .ref (E.1 118)].set 0 (.int v))) = cWA E (sS g 13700 v) := rfl
set_option maxRecDepth 8000 in
theorem Aps_13701 (E : Ev) (g : G) (v : Int32) : (cWA E g).set 137 (E.1 137, .inr (0, [.int (g.1 13700), .int (g.1 13701), .ref (E.1 3), .ref (E.1 118)].set 1 (.int v))) = cWA E (sS g 13701 v) := rfl
set_option maxRecDepth 8000 in
theorem Aps_13800 (E : Ev) (g : G) (v : Int32) : (cWA E g).set 138 (E.1 138, .inr (3, [.int (g.1 13800), .int (g.1 13801), .int (g.1 13802), .ref (E.1 139), .ref (E.1 140), .ref (E.1 141), .ref (E.1 142), .ref (E.1 143), .ref (E.1 3), .ref (E.1 118)].set 0 (.int v))) = cWA E (sS g 13800 v) := rfl
set_option maxRecDepth 8000 in
theorem Aps_13801 (E : Ev) (g : G) (v : Int32) : (cWA E g).set 138 (E.1 138, .inr (3, [.int (g.1 13800), .int (g.1 13801), .int (g.1 13802), .ref (E.1 139), .ref (E.1 140), .ref (E.1 141), .ref (E.1 142), .ref (E.1 143), .ref (E.1 3), .ref (E.1 118)].set 1 (.int v))) = cWA E (sS g 13801 v) := rfl
set_option maxRecDepth 8000 in
theorem Aps_13802 (E : Ev) (g : G) (v : Int32) : (cWA E g).set 138 (E.1 138, .inr (3, [.int (g.1 13800), .int (g.1 13801), .int (g.1 13802), .ref (E.1 139), .ref (E.1 140), .ref (E.1 141), .ref (E.1 142), .ref (E.1 143), .ref (E.1 3), .ref (E.1 118)].set 2 (.int v))) = cWA E (sS g 13802 v) := rfl
set_option maxRecDepth 8000 in
theorem Aas_139 (E : Ev) (g : G) (f : Nat → Int32) : (cWA E g).set 139 (E.1 139, .inl (E.2.2.1.1, 16, .inl f)) = cWA E (sC g 139 f) := rfl
set_option maxRecDepth 8000 in
theorem Aas_140 (E : Ev) (g : G) (f : Nat → Int32) : (cWA E g).set 140 (E.1 140, .inl (E.2.2.1.1, 16, .inl f)) = cWA E (sC g 140 f) := rfl
set_option maxRecDepth 8000 in
theorem Aas_141 (E : Ev) (g : G) (f : Nat → Int32) : (cWA E g).set 141 (E.1 141, .inl (E.2.2.1.1, 16, .inl f)) = cWA E (sC g 141 f) := rfl
set_option maxRecDepth 8000 in
theorem Aas_142 (E : Ev) (g : G) (f : Nat → Int32) : (cWA E g).set 142 (E.1 142, .inl (E.2.2.1.1, 16, .inl f)) = cWA E (sC g 142 f) := rfl
set_option maxRecDepth 8000 in
theorem Aas_143 (E : Ev) (g : G) (f : Nat → Int32) : (cWA E g).set 143 (E.1 143, .inl (E.2.2.1.1, 9, .inl f)) = cWA E (sC g 143 f) := rfl
set_option maxRecDepth 8000 in
theorem Aas_144 (E : Ev) (g : G) (f : Nat → Int32) : (cWA E g).set 144 (E.1 144, .inl (E.2.2.1.1, 29, .inl f)) = cWA E (sC g 144 f) := rfl
set_option maxRecDepth 8000 in
theorem Aas_145 (E : Ev) (g : G) (f : Nat → Int32) : (cWA E g).set 145 (E.1 145, .inl (E.2.2.1.1, 6, .inl f)) = cWA E (sC g 145 f) := rfl
set_option maxRecDepth 8000 in
theorem Ack_0 (E : Ev) (g : G) (i : Nat) (hi : i < 20) : (cWA E g)[38 + 4 * i]? = some (E.1 (38 + 4 * i), .inr (1, [.int (g.1 (100 * (38 + 4 * i))), .ref (E.1 (38 + 4 * i + 1)), .ref (E.1 (38 + 4 * i + 2)), .ref (E.1 (38 + 4 * i + 3))])) := by
  match i, hi with
  | 0, _ => rfl
  | 1, _ => rfl
  | 2, _ => rfl
  | 3, _ => rfl
  | 4, _ => rfl
  | 5, _ => rfl
  | 6, _ => rfl
  | 7, _ => rfl
  | 8, _ => rfl
  | 9, _ => rfl
  | 10, _ => rfl
  | 11, _ => rfl
  | 12, _ => rfl
  | 13, _ => rfl
  | 14, _ => rfl
  | 15, _ => rfl
  | 16, _ => rfl
  | 17, _ => rfl
  | 18, _ => rfl
  | 19, _ => rfl
  | k + 20, h => exact absurd h (by omega)
set_option maxRecDepth 8000 in
theorem Ack_1 (E : Ev) (g : G) (i : Nat) (hi : i < 20) : (cWA E g)[38 + 4 * i + 1]? = some (E.1 (38 + 4 * i + 1), .inl (E.2.2.1.1, 4, .inl (g.2.1 (38 + 4 * i + 1)))) := by
  match i, hi with
  | 0, _ => rfl
  | 1, _ => rfl
  | 2, _ => rfl
  | 3, _ => rfl
  | 4, _ => rfl
  | 5, _ => rfl
  | 6, _ => rfl
  | 7, _ => rfl
  | 8, _ => rfl
  | 9, _ => rfl
  | 10, _ => rfl
  | 11, _ => rfl
  | 12, _ => rfl
  | 13, _ => rfl
  | 14, _ => rfl
  | 15, _ => rfl
  | 16, _ => rfl
  | 17, _ => rfl
  | 18, _ => rfl
  | 19, _ => rfl
  | k + 20, h => exact absurd h (by omega)
set_option maxRecDepth 8000 in
theorem Ack_2 (E : Ev) (g : G) (i : Nat) (hi : i < 20) : (cWA E g)[38 + 4 * i + 2]? = some (E.1 (38 + 4 * i + 2), .inl (E.2.2.1.1, 8, .inl (g.2.1 (38 + 4 * i + 2)))) := by
  match i, hi with
  | 0, _ => rfl
  | 1, _ => rfl
  | 2, _ => rfl
  | 3, _ => rfl
  | 4, _ => rfl
  | 5, _ => rfl
  | 6, _ => rfl
  | 7, _ => rfl
  | 8, _ => rfl
  | 9, _ => rfl
  | 10, _ => rfl
  | 11, _ => rfl
  | 12, _ => rfl
  | 13, _ => rfl
  | 14, _ => rfl
  | 15, _ => rfl
  | 16, _ => rfl
  | 17, _ => rfl
  | 18, _ => rfl
  | 19, _ => rfl
  | k + 20, h => exact absurd h (by omega)
set_option maxRecDepth 8000 in
theorem Ack_3 (E : Ev) (g : G) (i : Nat) (hi : i < 20) : (cWA E g)[38 + 4 * i + 3]? = some (E.1 (38 + 4 * i + 3), .inl (E.2.2.1.1, 8, .inl (g.2.1 (38 + 4 * i + 3)))) := by
  match i, hi with
  | 0, _ => rfl
  | 1, _ => rfl
  | 2, _ => rfl
  | 3, _ => rfl
  | 4, _ => rfl
  | 5, _ => rfl
  | 6, _ => rfl
  | 7, _ => rfl
  | 8, _ => rfl
  | 9, _ => rfl
  | 10, _ => rfl
  | 11, _ => rfl
  | 12, _ => rfl
  | 13, _ => rfl
  | 14, _ => rfl
  | 15, _ => rfl
  | 16, _ => rfl
  | 17, _ => rfl
  | 18, _ => rfl
  | 19, _ => rfl
  | k + 20, h => exact absurd h (by omega)
set_option maxRecDepth 8000 in
theorem Apsk (E : Ev) (g : G) (v : Int32) (i : Nat) (hi : i < 20) : (cWA E g).set (38 + 4 * i) (E.1 (38 + 4 * i), .inr (1, [.int (g.1 (100 * (38 + 4 * i))), .ref (E.1 (38 + 4 * i + 1)), .ref (E.1 (38 + 4 * i + 2)), .ref (E.1 (38 + 4 * i + 3))].set 0 (.int v))) = cWA E (sS g (100 * (38 + 4 * i)) v) := by
  match i, hi with
  | 0, _ => rfl
  | 1, _ => rfl
  | 2, _ => rfl
  | 3, _ => rfl
  | 4, _ => rfl
  | 5, _ => rfl
  | 6, _ => rfl
  | 7, _ => rfl
  | 8, _ => rfl
  | 9, _ => rfl
  | 10, _ => rfl
  | 11, _ => rfl
  | 12, _ => rfl
  | 13, _ => rfl
  | 14, _ => rfl
  | 15, _ => rfl
  | 16, _ => rfl
  | 17, _ => rfl
  | 18, _ => rfl
  | 19, _ => rfl
  | k + 20, h => exact absurd h (by omega)
set_option maxRecDepth 8000 in
theorem Aask_1 (E : Ev) (g : G) (f : Nat → Int32) (i : Nat) (hi : i < 20) : (cWA E g).set (38 + 4 * i + 1) (E.1 (38 + 4 * i + 1), .inl (E.2.2.1.1, 4, .inl f)) = cWA E (sC g (38 + 4 * i + 1) f) := by
  match i, hi with
  | 0, _ => rfl
  | 1, _ => rfl
  | 2, _ => rfl
  | 3, _ => rfl
  | 4, _ => rfl
  | 5, _ => rfl
  | 6, _ => rfl
  | 7, _ => rfl
  | 8, _ => rfl
  | 9, _ => rfl
  | 10, _ => rfl
  | 11, _ => rfl
  | 12, _ => rfl
  | 13, _ => rfl
  | 14, _ => rfl
  | 15, _ => rfl
  | 16, _ => rfl
  | 17, _ => rfl
  | 18, _ => rfl
  | 19, _ => rfl
  | k + 20, h => exact absurd h (by omega)
set_option maxRecDepth 8000 in
theorem Aask_2 (E : Ev) (g : G) (f : Nat → Int32) (i : Nat) (hi : i < 20) : (cWA E g).set (38 + 4 * i + 2) (E.1 (38 + 4 * i + 2), .inl (E.2.2.1.1, 8, .inl f)) = cWA E (sC g (38 + 4 * i + 2) f) := by
  match i, hi with
  | 0, _ => rfl
  | 1, _ => rfl
  | 2, _ => rfl
  | 3, _ => rfl
  | 4, _ => rfl
  | 5, _ => rfl
  | 6, _ => rfl
  | 7, _ => rfl
  | 8, _ => rfl
  | 9, _ => rfl
  | 10, _ => rfl
  | 11, _ => rfl
  | 12, _ => rfl
  | 13, _ => rfl
  | 14, _ => rfl
  | 15, _ => rfl
  | 16, _ => rfl
  | 17, _ => rfl
  | 18, _ => rfl
  | 19, _ => rfl
  | k + 20, h => exact absurd h (by omega)
set_option maxRecDepth 8000 in
theorem Aask_3 (E : Ev) (g : G) (f : Nat → Int32) (i : Nat) (hi : i < 20) : (cWA E g).set (38 + 4 * i + 3) (E.1 (38 + 4 * i + 3), .inl (E.2.2.1.1, 8, .inl f)) = cWA E (sC g (38 + 4 * i + 3) f) := by
  match i, hi with
  | 0, _ => rfl
  | 1, _ => rfl
  | 2, _ => rfl
  | 3, _ => rfl
  | 4, _ => rfl
  | 5, _ => rfl
  | 6, _ => rfl
  | 7, _ => rfl
  | 8, _ => rfl
  | 9, _ => rfl
  | 10, _ => rfl
  | 11, _ => rfl
  | 12, _ => rfl
  | 13, _ => rfl
  | 14, _ => rfl
  | 15, _ => rfl
  | 16, _ => rfl
  | 17, _ => rfl
  | 18, _ => rfl
  | 19, _ => rfl
  | k + 20, h => exact absurd h (by omega)
def cWB (E : Ev) (g : G) : va_W := [(E.1 0, .inr (11, [.int (g.1 0), .int (g.1 1), .int (g.1 2), .int (g.1 3), .int (g.1 4), .int (g.1 5), .int (g.1 6), .int (g.1 7), .int (g.1 8), .int (g.1 9), .ref (E.1 1), .ref (E.1 2), .ref (E.1 3), .ref (E.1 4), .ref (E.1 5), .ref (E.1 6), .ref (E.1 7), .ref (E.1 8), .int (g.1 18), .int (g.1 19), .int (g.1 20), .int (g.1 21), .int (g.1 22), .int (g.1 23), .ref (E.1 9), .ref (E.1 10), .ref (E.1 11), .ref (E.1 12), .ref (E.1 13), .ref (E.1 14), .ref (E.1 15), .ref (E.1 16), .ref (E.1 17), .int (g.1 33), .ref (E.1 18), .int (g.1 35), .int (g.1 36), .int (g.1 37), .int (g.1 38), .int (g.1 39), .int (g.1 40), .int (g.1 41), .ref (E.1 19), .ref (E.1 20), .ref (E.1 21), .int (g.1 45), .ref (E.1 22), .int (g.1 47), .ref (E.1 23), .ref (E.1 24), .int (g.1 50), .int (g.1 51), .int (g.1 52), .int (g.1 53), .float (g.2.2.2.1 0), .ref (E.1 25), .int (g.1 56), .int (g.1 57), .int (g.1 58), .ref (E.1 26), .ref (E.1 27), .ref (E.1 28), .int (g.1 62), .ref (E.1 29), .int (g.1 64)])),
  (E.1 1, .inl (E.2.2.1.1, 4, .inl (g.2.1 1))),
  (E.1 2, .inl (E.2.2.1.1, 4, .inl (g.2.1 2))),
  (E.1 3, .inl (E.2.2.1.1, 4, .inl (g.2.1 3))),
  (E.1 4, .inl (E.2.2.1.1, 8, .inl (g.2.1 4))),
  (E.1 5, .inl (E.2.2.1.1, 8, .inl (g.2.1 5))),
  (E.1 6, .inl (E.2.2.1.1, 8, .inl (g.2.1 6))),
  (E.1 7, .inl (E.2.2.1.1, 24, .inl (g.2.1 7))),
  (E.1 8, .inl (E.2.2.1.1, 108, .inl (g.2.1 8))),
  (E.1 9, .inl (E.2.2.1.1, 4, .inl (g.2.1 9))),
  (E.1 10, .inl (E.2.2.1.1, 4, .inl (g.2.1 10))),
  (E.1 11, .inl (E.2.2.1.1, 4, .inl (g.2.1 11))),
  (E.1 12, .inl (E.2.2.1.1, 8, .inl (g.2.1 12))),
  (E.1 13, .inl (E.2.2.1.1, 8, .inl (g.2.1 13))),
  (E.1 14, .inl (E.2.2.1.1, 8, .inl (g.2.1 14))),
  (E.1 15, .inl (E.2.2.1.1, 24, .inl (g.2.1 15))),
  (E.1 16, .inl (E.2.2.1.1, 108, .inl (g.2.1 16))),
  (E.1 17, .inl (E.2.2.1.1, 1600, .inl (g.2.1 17))),
  (E.1 18, .inl (E.2.2.1.1, 6, .inl (g.2.1 18))),
  (E.1 19, .inl (E.2.2.1.1, 70, .inl (g.2.1 19))),
  (E.1 20, .inl (E.2.2.1.1, 28, .inl (g.2.1 20))),
  (E.1 21, .inl (E.2.2.1.1, 560, .inl (g.2.1 21))),
  (E.1 22, .inl (E.2.2.1.1, 69120, .inl (g.2.1 22))),
  (E.1 23, .inl (E.2.2.1.1, 240, .inl (g.2.1 23))),
  (E.1 24, .inl (E.2.2.1.1, 240, .inl (g.2.1 24))),
  (E.1 25, .inl (E.2.2.1.1, 28, .inl (g.2.1 25))),
  (E.1 26, .inl (E.2.2.1.1, 64, .inl (g.2.1 26))),
  (E.1 27, .inl (E.2.2.1.1, 9, .inl (g.2.1 27))),
  (E.1 28, .inl (E.2.2.1.1, 9, .inl (g.2.1 28))),
  (E.1 29, .inl (E.2.2.1.1, 29, .inl (g.2.1 29)))]
def aWB (E : Ev) : Nat → Prop := fun q => ∃ k : Nat, k < 30 ∧ q = E.1 k
abbrev wCB (E : Ev) : Wd := (cWB E, aWB E, E.2.2.2, [(E.2.2.1.1, .int), (E.2.2.1.2.1, .float), (E.2.2.1.2.2, .object "OrbitDesk$Fleet")], xB E)
theorem Bc_0 (E : Ev) (g : G) : (cWB E g)[0]? = some (E.1 0, .inr (11, [.int (g.1 0), .int (g.1 1), .int (g.1 2), .int (g.1 3), .int (g.1 4), .int (g.1 5), .int (g.1 6), .int (g.1 7), .int (g.1 8), .int (g.1 9), .ref (E.1 1), .ref (E.1 2), .ref (E.1 3), .ref (E.1 4), .ref (E.1 5), .ref (E.1 6), .ref (E.1 7), .ref (E.1 8), .int (g.1 18), .int (g.1 19), .int (g.1 20), .int (g.1 21), .int (g.1 22), .int (g.1 23), .ref (E.1 9), .ref (E.1 10), .ref (E.1 11), .ref (E.1 12), .ref (E.1 13), .ref (E.1 14), .ref (E.1 15), .ref (E.1 16), .ref (E.1 17), .int (g.1 33), .ref (E.1 18), .int (g.1 35), .int (g.1 36), .int (g.1 37), .int (g.1 38), .int (g.1 39), .int (g.1 40), .int (g.1 41), .ref (E.1 19), .ref (E.1 20), .ref (E.1 21), .int (g.1 45), .ref (E.1 22), .int (g.1 47), .ref (E.1 23), .ref (E.1 24), .int (g.1 50), .int (g.1 51), .int (g.1 52), .int (g.1 53), .float (g.2.2.2.1 0), .ref (E.1 25), .int (g.1 56), .int (g.1 57), .int (g.1 58), .ref (E.1 26), .ref (E.1 27), .ref (E.1 28), .int (g.1 62), .ref (E.1 29), .int (g.1 64)])) := rfl
theorem Bc_1 (E : Ev) (g : G) : (cWB E g)[1]? = some (E.1 1, .inl (E.2.2.1.1, 4, .inl (g.2.1 1))) := rfl
theorem Bc_2 (E : Ev) (g : G) : (cWB E g)[2]? = some (E.1 2, .inl (E.2.2.1.1, 4, .inl (g.2.1 2))) := rfl
theorem Bc_3 (E : Ev) (g : G) : (cWB E g)[3]? = some (E.1 3, .inl (E.2.2.1.1, 4, .inl (g.2.1 3))) := rfl
theorem Bc_4 (E : Ev) (g : G) : (cWB E g)[4]? = some (E.1 4, .inl (E.2.2.1.1, 8, .inl (g.2.1 4))) := rfl
theorem Bc_5 (E : Ev) (g : G) : (cWB E g)[5]? = some (E.1 5, .inl (E.2.2.1.1, 8, .inl (g.2.1 5))) := rfl
theorem Bc_6 (E : Ev) (g : G) : (cWB E g)[6]? = some (E.1 6, .inl (E.2.2.1.1, 8, .inl (g.2.1 6))) := rfl
theorem Bc_7 (E : Ev) (g : G) : (cWB E g)[7]? = some (E.1 7, .inl (E.2.2.1.1, 24, .inl (g.2.1 7))) := rfl
theorem Bc_8 (E : Ev) (g : G) : (cWB E g)[8]? = some (E.1 8, .inl (E.2.2.1.1, 108, .inl (g.2.1 8))) := rfl
theorem Bc_9 (E : Ev) (g : G) : (cWB E g)[9]? = some (E.1 9, .inl (E.2.2.1.1, 4, .inl (g.2.1 9))) := rfl
theorem Bc_10 (E : Ev) (g : G) : (cWB E g)[10]? = some (E.1 10, .inl (E.2.2.1.1, 4, .inl (g.2.1 10))) := rfl
theorem Bc_11 (E : Ev) (g : G) : (cWB E g)[11]? = some (E.1 11, .inl (E.2.2.1.1, 4, .inl (g.2.1 11))) := rfl
theorem Bc_12 (E : Ev) (g : G) : (cWB E g)[12]? = some (E.1 12, .inl (E.2.2.1.1, 8, .inl (g.2.1 12))) := rfl
theorem Bc_13 (E : Ev) (g : G) : (cWB E g)[13]? = some (E.1 13, .inl (E.2.2.1.1, 8, .inl (g.2.1 13))) := rfl
theorem Bc_14 (E : Ev) (g : G) : (cWB E g)[14]? = some (E.1 14, .inl (E.2.2.1.1, 8, .inl (g.2.1 14))) := rfl
theorem Bc_15 (E : Ev) (g : G) : (cWB E g)[15]? = some (E.1 15, .inl (E.2.2.1.1, 24, .inl (g.2.1 15))) := rfl
theorem Bc_16 (E : Ev) (g : G) : (cWB E g)[16]? = some (E.1 16, .inl (E.2.2.1.1, 108, .inl (g.2.1 16))) := rfl
theorem Bc_17 (E : Ev) (g : G) : (cWB E g)[17]? = some (E.1 17, .inl (E.2.2.1.1, 1600, .inl (g.2.1 17))) := rfl
theorem Bc_18 (E : Ev) (g : G) : (cWB E g)[18]? = some (E.1 18, .inl (E.2.2.1.1, 6, .inl (g.2.1 18))) := rfl
theorem Bc_19 (E : Ev) (g : G) : (cWB E g)[19]? = some (E.1 19, .inl (E.2.2.1.1, 70, .inl (g.2.1 19))) := rfl
theorem Bc_20 (E : Ev) (g : G) : (cWB E g)[20]? = some (E.1 20, .inl (E.2.2.1.1, 28, .inl (g.2.1 20))) := rfl
theorem Bc_21 (E : Ev) (g : G) : (cWB E g)[21]? = some (E.1 21, .inl (E.2.2.1.1, 560, .inl (g.2.1 21))) := rfl
theorem Bc_22 (E : Ev) (g : G) : (cWB E g)[22]? = some (E.1 22, .inl (E.2.2.1.1, 69120, .inl (g.2.1 22))) := rfl
theorem Bc_23 (E : Ev) (g : G) : (cWB E g)[23]? = some (E.1 23, .inl (E.2.2.1.1, 240, .inl (g.2.1 23))) := rfl
theorem Bc_24 (E : Ev) (g : G) : (cWB E g)[24]? = some (E.1 24, .inl (E.2.2.1.1, 240, .inl (g.2.1 24))) := rfl
theorem Bc_25 (E : Ev) (g : G) : (cWB E g)[25]? = some (E.1 25, .inl (E.2.2.1.1, 28, .inl (g.2.1 25))) := rfl
theorem Bc_26 (E : Ev) (g : G) : (cWB E g)[26]? = some (E.1 26, .inl (E.2.2.1.1, 64, .inl (g.2.1 26))) := rfl
theorem Bc_27 (E : Ev) (g : G) : (cWB E g)[27]? = some (E.1 27, .inl (E.2.2.1.1, 9, .inl (g.2.1 27))) := rfl
theorem Bc_28 (E : Ev) (g : G) : (cWB E g)[28]? = some (E.1 28, .inl (E.2.2.1.1, 9, .inl (g.2.1 28))) := rfl
theorem Bc_29 (E : Ev) (g : G) : (cWB E g)[29]? = some (E.1 29, .inl (E.2.2.1.1, 29, .inl (g.2.1 29))) := rfl
set_option maxRecDepth 8000 in
theorem Bps_0 (E : Ev) (g : G) (v : Int32) : (cWB E g).set 0 (E.1 0, .inr (11, [.int (g.1 0), .int (g.1 1), .int (g.1 2), .int (g.1 3), .int (g.1 4), .int (g.1 5), .int (g.1 6), .int (g.1 7), .int (g.1 8), .int (g.1 9), .ref (E.1 1), .ref (E.1 2), .ref (E.1 3), .ref (E.1 4), .ref (E.1 5), .ref (E.1 6), .ref (E.1 7), .ref (E.1 8), .int (g.1 18), .int (g.1 19), .int (g.1 20), .int (g.1 21), .int (g.1 22), .int (g.1 23), .ref (E.1 9), .ref (E.1 10), .ref (E.1 11), .ref (E.1 12), .ref (E.1 13), .ref (E.1 14), .ref (E.1 15), .ref (E.1 16), .ref (E.1 17), .int (g.1 33), .ref (E.1 18), .int (g.1 35), .int (g.1 36), .int (g.1 37), .int (g.1 38), .int (g.1 39), .int (g.1 40), .int (g.1 41), .ref (E.1 19), .ref (E.1 20), .ref (E.1 21), .int (g.1 45), .ref (E.1 22), .int (g.1 47), .ref (E.1 23), .ref (E.1 24), .int (g.1 50), .int (g.1 51), .int (g.1 52), .int (g.1 53), .float (g.2.2.2.1 0), .ref (E.1 25), .int (g.1 56), .int (g.1 57), .int (g.1 58), .ref (E.1 26), .ref (E.1 27), .ref (E.1 28), .int (g.1 62), .ref (E.1 29), .int (g.1 64)].set 0 (.int v))) = cWB E (sS g 0 v) := rfl
set_option maxRecDepth 8000 in
theorem Bps_1 (E : Ev) (g : G) (v : Int32) : (cWB E g).set 0 (E.1 0, .inr (11, [.int (g.1 0), .int (g.1 1), .int (g.1 2), .int (g.1 3), .int (g.1 4), .int (g.1 5), .int (g.1 6), .int (g.1 7), .int (g.1 8), .int (g.1 9), .ref (E.1 1), .ref (E.1 2), .ref (E.1 3), .ref (E.1 4), .ref (E.1 5), .ref (E.1 6), .ref (E.1 7), .ref (E.1 8), .int (g.1 18), .int (g.1 19), .int (g.1 20), .int (g.1 21), .int (g.1 22), .int (g.1 23), .ref (E.1 9), .ref (E.1 10), .ref (E.1 11), .ref (E.1 12), .ref (E.1 13), .ref (E.1 14), .ref (E.1 15), .ref (E.1 16), .ref (E.1 17), .int (g.1 33), .ref (E.1 18), .int (g.1 35), .int (g.1 36), .int (g.1 37), .int (g.1 38), .int (g.1 39), .int (g.1 40), .int (g.1 41), .ref (E.1 19), .ref (E.1 20), .ref (E.1 21), .int (g.1 45), .ref (E.1 22), .int (g.1 47), .ref (E.1 23), .ref (E.1 24), .int (g.1 50), .int (g.1 51), .int (g.1 52), .int (g.1 53), .float (g.2.2.2.1 0), .ref (E.1 25), .int (g.1 56), .int (g.1 57), .int (g.1 58), .ref (E.1 26), .ref (E.1 27), .ref (E.1 28), .int (g.1 62), .ref (E.1 29), .int (g.1 64)].set 1 (.int v))) = cWB E (sS g 1 v) := rfl
set_option maxRecDepth 8000 in
theorem Bps_2 (E : Ev) (g : G) (v : Int32) : (cWB E g).set 0 (E.1 0, .inr (11, [.int (g.1 0), .int (g.1 1), .int (g.1 2), .int (g.1 3), .int (g.1 4), .int (g.1 5), .int (g.1 6), .int (g.1 7), .int (g.1 8), .int (g.1 9), .ref (E.1 1), .ref (E.1 2), .ref (E.1 3), .ref (E.1 4), .ref (E.1 5), .ref (E.1 6), .ref (E.1 7), .ref (E.1 8), .int (g.1 18), .int (g.1 19), .int (g.1 20), .int (g.1 21), .int (g.1 22), .int (g.1 23), .ref (E.1 9), .ref (E.1 10), .ref (E.1 11), .ref (E.1 12), .ref (E.1 13), .ref (E.1 14), .ref (E.1 15), .ref (E.1 16), .ref (E.1 17), .int (g.1 33), .ref (E.1 18), .int (g.1 35), .int (g.1 36), .int (g.1 37), .int (g.1 38), .int (g.1 39), .int (g.1 40), .int (g.1 41), .ref (E.1 19), .ref (E.1 20), .ref (E.1 21), .int (g.1 45), .ref (E.1 22), .int (g.1 47), .ref (E.1 23), .ref (E.1 24), .int (g.1 50), .int (g.1 51), .int (g.1 52), .int (g.1 53), .float (g.2.2.2.1 0), .ref (E.1 25), .int (g.1 56), .int (g.1 57), .int (g.1 58), .ref (E.1 26), .ref (E.1 27), .ref (E.1 28), .int (g.1 62), .ref (E.1 29), .int (g.1 64)].set 2 (.int v))) = cWB E (sS g 2 v) := rfl
set_option maxRecDepth 8000 in
theorem Bps_3 (E : Ev) (g : G) (v : Int32) : (cWB E g).set 0 (E.1 0, .inr (11, [.int (g.1 0), .int (g.1 1), .int (g.1 2), .int (g.1 3), .int (g.1 4), .int (g.1 5), .int (g.1 6), .int (g.1 7), .int (g.1 8), .int (g.1 9), .ref (E.1 1), .ref (E.1 2), .ref (E.1 3), .ref (E.1 4), .ref (E.1 5), .ref (E.1 6), .ref (E.1 7), .ref (E.1 8), .int (g.1 18), .int (g.1 19), .int (g.1 20), .int (g.1 21), .int (g.1 22), .int (g.1 23), .ref (E.1 9), .ref (E.1 10), .ref (E.1 11), .ref (E.1 12), .ref (E.1 13), .ref (E.1 14), .ref (E.1 15), .ref (E.1 16), .ref (E.1 17), .int (g.1 33), .ref (E.1 18), .int (g.1 35), .int (g.1 36), .int (g.1 37), .int (g.1 38), .int (g.1 39), .int (g.1 40), .int (g.1 41), .ref (E.1 19), .ref (E.1 20), .ref (E.1 21), .int (g.1 45), .ref (E.1 22), .int (g.1 47), .ref (E.1 23), .ref (E.1 24), .int (g.1 50), .int (g.1 51), .int (g.1 52), .int (g.1 53), .float (g.2.2.2.1 0), .ref (E.1 25), .int (g.1 56), .int (g.1 57), .int (g.1 58), .ref (E.1 26), .ref (E.1 27), .ref (E.1 28), .int (g.1 62), .ref (E.1 29), .int (g.1 64)].set 3 (.int v))) = cWB E (sS g 3 v) := rfl
set_option maxRecDepth 8000 in
theorem Bps_4 (E : Ev) (g : G) (v : Int32) : (cWB E g).set 0 (E.1 0, .inr (11, [.int (g.1 0), .int (g.1 1), .int (g.1 2), .int (g.1 3), .int (g.1 4), .int (g.1 5), .int (g.1 6), .int (g.1 7), .int (g.1 8), .int (g.1 9), .ref (E.1 1), .ref (E.1 2), .ref (E.1 3), .ref (E.1 4), .ref (E.1 5), .ref (E.1 6), .ref (E.1 7), .ref (E.1 8), .int (g.1 18), .int (g.1 19), .int (g.1 20), .int (g.1 21), .int (g.1 22), .int (g.1 23), .ref (E.1 9), .ref (E.1 10), .ref (E.1 11), .ref (E.1 12), .ref (E.1 13), .ref (E.1 14), .ref (E.1 15), .ref (E.1 16), .ref (E.1 17), .int (g.1 33), .ref (E.1 18), .int (g.1 35), .int (g.1 36), .int (g.1 37), .int (g.1 38), .int (g.1 39), .int (g.1 40), .int (g.1 41), .ref (E.1 19), .ref (E.1 20), .ref (E.1 21), .int (g.1 45), .ref (E.1 22), .int (g.1 47), .ref (E.1 23), .ref (E.1 24), .int (g.1 50), .int (g.1 51), .int (g.1 52), .int (g.1 53), .float (g.2.2.2.1 0), .ref (E.1 25), .int (g.1 56), .int (g.1 57), .int (g.1 58), .ref (E.1 26), .ref (E.1 27), .ref (E.1 28), .int (g.1 62), .ref (E.1 29), .int (g.1 64)].set 4 (.int v))) = cWB E (sS g 4 v) := rfl
set_option maxRecDepth 8000 in
theorem Bps_5 (E : Ev) (g : G) (v : Int32) : (cWB E g).set 0 (E.1 0, .inr (11, [.int (g.1 0), .int (g.1 1), .int (g.1 2), .int (g.1 3), .int (g.1 4), .int (g.1 5), .int (g.1 6), .int (g.1 7), .int (g.1 8), .int (g.1 9), .ref (E.1 1), .ref (E.1 2), .ref (E.1 3), .ref (E.1 4), .ref (E.1 5), .ref (E.1 6), .ref (E.1 7), .ref (E.1 8), .int (g.1 18), .int (g.1 19), .int (g.1 20), .int (g.1 21), .int (g.1 22), .int (g.1 23), .ref (E.1 9), .ref (E.1 10), .ref (E.1 11), .ref (E.1 12), .ref (E.1 13), .ref (E.1 14), .ref (E.1 15), .ref (E.1 16), .ref (E.1 17), .int (g.1 33), .ref (E.1 18), .int (g.1 35), .int (g.1 36), .int (g.1 37), .int (g.1 38), .int (g.1 39), .int (g.1 40), .int (g.1 41), .ref (E.1 19), .ref (E.1 20), .ref (E.1 21), .int (g.1 45), .ref (E.1 22), .int (g.1 47), .ref (E.1 23), .ref (E.1 24), .int (g.1 50), .int (g.1 51), .int (g.1 52), .int (g.1 53), .float (g.2.2.2.1 0), .ref (E.1 25), .int (g.1 56), .int (g.1 57), .int (g.1 58), .ref (E.1 26), .ref (E.1 27), .ref (E.1 28), .int (g.1 62), .ref (E.1 29), .int (g.1 64)].set 5 (.int v))) = cWB E (sS g 5 v) := rfl
set_option maxRecDepth 8000 in
theorem Bps_6 (E : Ev) (g : G) (v : Int32) : (cWB E g).set 0 (E.1 0, .inr (11, [.int (g.1 0), .int (g.1 1), .int (g.1 2), .int (g.1 3), .int (g.1 4), .int (g.1 5), .int (g.1 6), .int (g.1 7), .int (g.1 8), .int (g.1 9), .ref (E.1 1), .ref (E.1 2), .ref (E.1 3), .ref (E.1 4), .ref (E.1 5), .ref (E.1 6), .ref (E.1 7), .ref (E.1 8), .int (g.1 18), .int (g.1 19), .int (g.1 20), .int (g.1 21), .int (g.1 22), .int (g.1 23), .ref (E.1 9), .ref (E.1 10), .ref (E.1 11), .ref (E.1 12), .ref (E.1 13), .ref (E.1 14), .ref (E.1 15), .ref (E.1 16), .ref (E.1 17), .int (g.1 33), .ref (E.1 18), .int (g.1 35), .int (g.1 36), .int (g.1 37), .int (g.1 38), .int (g.1 39), .int (g.1 40), .int (g.1 41), .ref (E.1 19), .ref (E.1 20), .ref (E.1 21), .int (g.1 45), .ref (E.1 22), .int (g.1 47), .ref (E.1 23), .ref (E.1 24), .int (g.1 50), .int (g.1 51), .int (g.1 52), .int (g.1 53), .float (g.2.2.2.1 0), .ref (E.1 25), .int (g.1 56), .int (g.1 57), .int (g.1 58), .ref (E.1 26), .ref (E.1 27), .ref (E.1 28), .int (g.1 62), .ref (E.1 29), .int (g.1 64)].set 6 (.int v))) = cWB E (sS g 6 v) := rfl
set_option maxRecDepth 8000 in
theorem Bps_7 (E : Ev) (g : G) (v : Int32) : (cWB E g).set 0 (E.1 0, .inr (11, [.int (g.1 0), .int (g.1 1), .int (g.1 2), .int (g.1 3), .int (g.1 4), .int (g.1 5), .int (g.1 6), .int (g.1 7), .int (g.1 8), .int (g.1 9), .ref (E.1 1), .ref (E.1 2), .ref (E.1 3), .ref (E.1 4), .ref (E.1 5), .ref (E.1 6), .ref (E.1 7), .ref (E.1 8), .int (g.1 18), .int (g.1 19), .int (g.1 20), .int (g.1 21), .int (g.1 22), .int (g.1 23), .ref (E.1 9), .ref (E.1 10), .ref (E.1 11), .ref (E.1 12), .ref (E.1 13), .ref (E.1 14), .ref (E.1 15), .ref (E.1 16), .ref (E.1 17), .int (g.1 33), .ref (E.1 18), .int (g.1 35), .int (g.1 36), .int (g.1 37), .int (g.1 38), .int (g.1 39), .int (g.1 40), .int (g.1 41), .ref (E.1 19), .ref (E.1 20), .ref (E.1 21), .int (g.1 45), .ref (E.1 22), .int (g.1 47), .ref (E.1 23), .ref (E.1 24), .int (g.1 50), .int (g.1 51), .int (g.1 52), .int (g.1 53), .float (g.2.2.2.1 0), .ref (E.1 25), .int (g.1 56), .int (g.1 57), .int (g.1 58), .ref (E.1 26), .ref (E.1 27), .ref (E.1 28), .int (g.1 62), .ref (E.1 29), .int (g.1 64)].set 7 (.int v))) = cWB E (sS g 7 v) := rfl
set_option maxRecDepth 8000 in
theorem Bps_8 (E : Ev) (g : G) (v : Int32) : (cWB E g).set 0 (E.1 0, .inr (11, [.int (g.1 0), .int (g.1 1), .int (g.1 2), .int (g.1 3), .int (g.1 4), .int (g.1 5), .int (g.1 6), .int (g.1 7), .int (g.1 8), .int (g.1 9), .ref (E.1 1), .ref (E.1 2), .ref (E.1 3), .ref (E.1 4), .ref (E.1 5), .ref (E.1 6), .ref (E.1 7), .ref (E.1 8), .int (g.1 18), .int (g.1 19), .int (g.1 20), .int (g.1 21), .int (g.1 22), .int (g.1 23), .ref (E.1 9), .ref (E.1 10), .ref (E.1 11), .ref (E.1 12), .ref (E.1 13), .ref (E.1 14), .ref (E.1 15), .ref (E.1 16), .ref (E.1 17), .int (g.1 33), .ref (E.1 18), .int (g.1 35), .int (g.1 36), .int (g.1 37), .int (g.1 38), .int (g.1 39), .int (g.1 40), .int (g.1 41), .ref (E.1 19), .ref (E.1 20), .ref (E.1 21), .int (g.1 45), .ref (E.1 22), .int (g.1 47), .ref (E.1 23), .ref (E.1 24), .int (g.1 50), .int (g.1 51), .int (g.1 52), .int (g.1 53), .float (g.2.2.2.1 0), .ref (E.1 25), .int (g.1 56), .int (g.1 57), .int (g.1 58), .ref (E.1 26), .ref (E.1 27), .ref (E.1 28), .int (g.1 62), .ref (E.1 29), .int (g.1 64)].set 8 (.int v))) = cWB E (sS g 8 v) := rfl
set_option maxRecDepth 8000 in
theorem Bps_9 (E : Ev) (g : G) (v : Int32) : (cWB E g).set 0 (E.1 0, .inr (11, [.int (g.1 0), .int (g.1 1), .int (g.1 2), .int (g.1 3), .int (g.1 4), .int (g.1 5), .int (g.1 6), .int (g.1 7), .int (g.1 8), .int (g.1 9), .ref (E.1 1), .ref (E.1 2), .ref (E.1 3), .ref (E.1 4), .ref (E.1 5), .ref (E.1 6), .ref (E.1 7), .ref (E.1 8), .int (g.1 18), .int (g.1 19), .int (g.1 20), .int (g.1 21), .int (g.1 22), .int (g.1 23), .ref (E.1 9), .ref (E.1 10), .ref (E.1 11), .ref (E.1 12), .ref (E.1 13), .ref (E.1 14), .ref (E.1 15), .ref (E.1 16), .ref (E.1 17), .int (g.1 33), .ref (E.1 18), .int (g.1 35), .int (g.1 36), .int (g.1 37), .int (g.1 38), .int (g.1 39), .int (g.1 40), .int (g.1 41), .ref (E.1 19), .ref (E.1 20), .ref (E.1 21), .int (g.1 45), .ref (E.1 22), .int (g.1 47), .ref (E.1 23), .ref (E.1 24), .int (g.1 50), .int (g.1 51), .int (g.1 52), .int (g.1 53), .float (g.2.2.2.1 0), .ref (E.1 25), .int (g.1 56), .int (g.1 57), .int (g.1 58), .ref (E.1 26), .ref (E.1 27), .ref (E.1 28), .int (g.1 62), .ref (E.1 29), .int (g.1 64)].set 9 (.int v))) = cWB E (sS g 9 v) := rfl
set_option maxRecDepth 8000 in
theorem Bps_18 (E : Ev) (g : G) (v : Int32) : (cWB E g).set 0 (E.1 0, .inr (11, [.int (g.1 0), .int (g.1 1), .int (g.1 2), .int (g.1 3), .int (g.1 4), .int (g.1 5), .int (g.1 6), .int (g.1 7), .int (g.1 8), .int (g.1 9), .ref (E.1 1), .ref (E.1 2), .ref (E.1 3), .ref (E.1 4), .ref (E.1 5), .ref (E.1 6), .ref (E.1 7), .ref (E.1 8), .int (g.1 18), .int (g.1 19), .int (g.1 20), .int (g.1 21), .int (g.1 22), .int (g.1 23), .ref (E.1 9), .ref (E.1 10), .ref (E.1 11), .ref (E.1 12), .ref (E.1 13), .ref (E.1 14), .ref (E.1 15), .ref (E.1 16), .ref (E.1 17), .int (g.1 33), .ref (E.1 18), .int (g.1 35), .int (g.1 36), .int (g.1 37), .int (g.1 38), .int (g.1 39), .int (g.1 40), .int (g.1 41), .ref (E.1 19), .ref (E.1 20), .ref (E.1 21), .int (g.1 45), .ref (E.1 22), .int (g.1 47), .ref (E.1 23), .ref (E.1 24), .int (g.1 50), .int (g.1 51), .int (g.1 52), .int (g.1 53), .float (g.2.2.2.1 0), .ref (E.1 25), .int (g.1 56), .int (g.1 57), .int (g.1 58), .ref (E.1 26), .ref (E.1 27), .ref (E.1 28), .int (g.1 62), .ref (E.1 29), .int (g.1 64)].set 18 (.int v))) = cWB E (sS g 18 v) := rfl
set_option maxRecDepth 8000 in
theorem Bps_19 (E : Ev) (g : G) (v : Int32) : (cWB E g).set 0 (E.1 0, .inr (11, [.int (g.1 0), .int (g.1 1), .int (g.1 2), .int (g.1 3), .int (g.1 4), .int (g.1 5), .int (g.1 6), .int (g.1 7), .int (g.1 8), .int (g.1 9), .ref (E.1 1), .ref (E.1 2), .ref (E.1 3), .ref (E.1 4), .ref (E.1 5), .ref (E.1 6), .ref (E.1 7), .ref (E.1 8), .int (g.1 18), .int (g.1 19), .int (g.1 20), .int (g.1 21), .int (g.1 22), .int (g.1 23), .ref (E.1 9), .ref (E.1 10), .ref (E.1 11), .ref (E.1 12), .ref (E.1 13), .ref (E.1 14), .ref (E.1 15), .ref (E.1 16), .ref (E.1 17), .int (g.1 33), .ref (E.1 18), .int (g.1 35), .int (g.1 36), .int (g.1 37), .int (g.1 38), .int (g.1 39), .int (g.1 40), .int (g.1 41), .ref (E.1 19), .ref (E.1 20), .ref (E.1 21), .int (g.1 45), .ref (E.1 22), .int (g.1 47), .ref (E.1 23), .ref (E.1 24), .int (g.1 50), .int (g.1 51), .int (g.1 52), .int (g.1 53), .float (g.2.2.2.1 0), .ref (E.1 25), .int (g.1 56), .int (g.1 57), .int (g.1 58), .ref (E.1 26), .ref (E.1 27), .ref (E.1 28), .int (g.1 62), .ref (E.1 29), .int (g.1 64)].set 19 (.int v))) = cWB E (sS g 19 v) := rfl
set_option maxRecDepth 8000 in
theorem Bps_20 (E : Ev) (g : G) (v : Int32) : (cWB E g).set 0 (E.1 0, .inr (11, [.int (g.1 0), .int (g.1 1), .int (g.1 2), .int (g.1 3), .int (g.1 4), .int (g.1 5), .int (g.1 6), .int (g.1 7), .int (g.1 8), .int (g.1 9), .ref (E.1 1), .ref (E.1 2), .ref (E.1 3), .ref (E.1 4), .ref (E.1 5), .ref (E.1 6), .ref (E.1 7), .ref (E.1 8), .int (g.1 18), .int (g.1 19), .int (g.1 20), .int (g.1 21), .int (g.1 22), .int (g.1 23), .ref (E.1 9), .ref (E.1 10), .ref (E.1 11), .ref (E.1 12), .ref (E.1 13), .ref (E.1 14), .ref (E.1 15), .ref (E.1 16), .ref (E.1 17), .int (g.1 33), .ref (E.1 18), .int (g.1 35), .int (g.1 36), .int (g.1 37), .int (g.1 38), .int (g.1 39), .int (g.1 40), .int (g.1 41), .ref (E.1 19), .ref (E.1 20), .ref (E.1 21), .int (g.1 45), .ref (E.1 22), .int (g.1 47), .ref (E.1 23), .ref (E.1 24), .int (g.1 50), .int (g.1 51), .int (g.1 52), .int (g.1 53), .float (g.2.2.2.1 0), .ref (E.1 25), .int (g.1 56), .int (g.1 57), .int (g.1 58), .ref (E.1 26), .ref (E.1 27), .ref (E.1 28), .int (g.1 62), .ref (E.1 29), .int (g.1 64)].set 20 (.int v))) = cWB E (sS g 20 v) := rfl
set_option maxRecDepth 8000 in
theorem Bps_21 (E : Ev) (g : G) (v : Int32) : (cWB E g).set 0 (E.1 0, .inr (11, [.int (g.1 0), .int (g.1 1), .int (g.1 2), .int (g.1 3), .int (g.1 4), .int (g.1 5), .int (g.1 6), .int (g.1 7), .int (g.1 8), .int (g.1 9), .ref (E.1 1), .ref (E.1 2), .ref (E.1 3), .ref (E.1 4), .ref (E.1 5), .ref (E.1 6), .ref (E.1 7), .ref (E.1 8), .int (g.1 18), .int (g.1 19), .int (g.1 20), .int (g.1 21), .int (g.1 22), .int (g.1 23), .ref (E.1 9), .ref (E.1 10), .ref (E.1 11), .ref (E.1 12), .ref (E.1 13), .ref (E.1 14), .ref (E.1 15), .ref (E.1 16), .ref (E.1 17), .int (g.1 33), .ref (E.1 18), .int (g.1 35), .int (g.1 36), .int (g.1 37), .int (g.1 38), .int (g.1 39), .int (g.1 40), .int (g.1 41), .ref (E.1 19), .ref (E.1 20), .ref (E.1 21), .int (g.1 45), .ref (E.1 22), .int (g.1 47), .ref (E.1 23), .ref (E.1 24), .int (g.1 50), .int (g.1 51), .int (g.1 52), .int (g.1 53), .float (g.2.2.2.1 0), .ref (E.1 25), .int (g.1 56), .int (g.1 57), .int (g.1 58), .ref (E.1 26), .ref (E.1 27), .ref (E.1 28), .int (g.1 62), .ref (E.1 29), .int (g.1 64)].set 21 (.int v))) = cWB E (sS g 21 v) := rfl
set_option maxRecDepth 8000 in
theorem Bps_22 (E : Ev) (g : G) (v : Int32) : (cWB E g).set 0 (E.1 0, .inr (11, [.int (g.1 0), .int (g.1 1), .int (g.1 2), .int (g.1 3), .int (g.1 4), .int (g.1 5), .int (g.1 6), .int (g.1 7), .int (g.1 8), .int (g.1 9), .ref (E.1 1), .ref (E.1 2), .ref (E.1 3), .ref (E.1 4), .ref (E.1 5), .ref (E.1 6), .ref (E.1 7), .ref (E.1 8), .int (g.1 18), .int (g.1 19), .int (g.1 20), .int (g.1 21), .int (g.1 22), .int (g.1 23), .ref (E.1 9), .ref (E.1 10), .ref (E.1 11), .ref (E.1 12), .ref (E.1 13), .ref (E.1 14), .ref (E.1 15), .ref (E.1 16), .ref (E.1 17), .int (g.1 33), .ref (E.1 18), .int (g.1 35), .int (g.1 36), .int (g.1 37), .int (g.1 38), .int (g.1 39), .int (g.1 40), .int (g.1 41), .ref (E.1 19), .ref (E.1 20), .ref (E.1 21), .int (g.1 45), .ref (E.1 22), .int (g.1 47), .ref (E.1 23), .ref (E.1 24), .int (g.1 50), .int (g.1 51), .int (g.1 52), .int (g.1 53), .float (g.2.2.2.1 0), .ref (E.1 25), .int (g.1 56), .int (g.1 57), .int (g.1 58), .ref (E.1 26), .ref (E.1 27), .ref (E.1 28), .int (g.1 62), .ref (E.1 29), .int (g.1 64)].set 22 (.int v))) = cWB E (sS g 22 v) := rfl
set_option maxRecDepth 8000 in
theorem Bps_23 (E : Ev) (g : G) (v : Int32) : (cWB E g).set 0 (E.1 0, .inr (11, [.int (g.1 0), .int (g.1 1), .int (g.1 2), .int (g.1 3), .int (g.1 4), .int (g.1 5), .int (g.1 6), .int (g.1 7), .int (g.1 8), .int (g.1 9), .ref (E.1 1), .ref (E.1 2), .ref (E.1 3), .ref (E.1 4), .ref (E.1 5), .ref (E.1 6), .ref (E.1 7), .ref (E.1 8), .int (g.1 18), .int (g.1 19), .int (g.1 20), .int (g.1 21), .int (g.1 22), .int (g.1 23), .ref (E.1 9), .ref (E.1 10), .ref (E.1 11), .ref (E.1 12), .ref (E.1 13), .ref (E.1 14), .ref (E.1 15), .ref (E.1 16), .ref (E.1 17), .int (g.1 33), .ref (E.1 18), .int (g.1 35), .int (g.1 36), .int (g.1 37), .int (g.1 38), .int (g.1 39), .int (g.1 40), .int (g.1 41), .ref (E.1 19), .ref (E.1 20), .ref (E.1 21), .int (g.1 45), .ref (E.1 22), .int (g.1 47), .ref (E.1 23), .ref (E.1 24), .int (g.1 50), .int (g.1 51), .int (g.1 52), .int (g.1 53), .float (g.2.2.2.1 0), .ref (E.1 25), .int (g.1 56), .int (g.1 57), .int (g.1 58), .ref (E.1 26), .ref (E.1 27), .ref (E.1 28), .int (g.1 62), .ref (E.1 29), .int (g.1 64)].set 23 (.int v))) = cWB E (sS g 23 v) := rfl
set_option maxRecDepth 8000 in
theorem Bps_33 (E : Ev) (g : G) (v : Int32) : (cWB E g).set 0 (E.1 0, .inr (11, [.int (g.1 0), .int (g.1 1), .int (g.1 2), .int (g.1 3), .int (g.1 4), .int (g.1 5), .int (g.1 6), .int (g.1 7), .int (g.1 8), .int (g.1 9), .ref (E.1 1), .ref (E.1 2), .ref (E.1 3), .ref (E.1 4), .ref (E.1 5), .ref (E.1 6), .ref (E.1 7), .ref (E.1 8), .int (g.1 18), .int (g.1 19), .int (g.1 20), .int (g.1 21), .int (g.1 22), .int (g.1 23), .ref (E.1 9), .ref (E.1 10), .ref (E.1 11), .ref (E.1 12), .ref (E.1 13), .ref (E.1 14), .ref (E.1 15), .ref (E.1 16), .ref (E.1 17), .int (g.1 33), .ref (E.1 18), .int (g.1 35), .int (g.1 36), .int (g.1 37), .int (g.1 38), .int (g.1 39), .int (g.1 40), .int (g.1 41), .ref (E.1 19), .ref (E.1 20), .ref (E.1 21), .int (g.1 45), .ref (E.1 22), .int (g.1 47), .ref (E.1 23), .ref (E.1 24), .int (g.1 50), .int (g.1 51), .int (g.1 52), .int (g.1 53), .float (g.2.2.2.1 0), .ref (E.1 25), .int (g.1 56), .int (g.1 57), .int (g.1 58), .ref (E.1 26), .ref (E.1 27), .ref (E.1 28), .int (g.1 62), .ref (E.1 29), .int (g.1 64)].set 33 (.int v))) = cWB E (sS g 33 v) := rfl
set_option maxRecDepth 8000 in
theorem Bps_35 (E : Ev) (g : G) (v : Int32) : (cWB E g).set 0 (E.1 0, .inr (11, [.int (g.1 0), .int (g.1 1), .int (g.1 2), .int (g.1 3), .int (g.1 4), .int (g.1 5), .int (g.1 6), .int (g.1 7), .int (g.1 8), .int (g.1 9), .ref (E.1 1), .ref (E.1 2), .ref (E.1 3), .ref (E.1 4), .ref (E.1 5), .ref (E.1 6), .ref (E.1 7), .ref (E.1 8), .int (g.1 18), .int (g.1 19), .int (g.1 20), .int (g.1 21), .int (g.1 22), .int (g.1 23), .ref (E.1 9), .ref (E.1 10), .ref (E.1 11), .ref (E.1 12), .ref (E.1 13), .ref (E.1 14), .ref (E.1 15), .ref (E.1 16), .ref (E.1 17), .int (g.1 33), .ref (E.1 18), .int (g.1 35), .int (g.1 36), .int (g.1 37), .int (g.1 38), .int (g.1 39), .int (g.1 40), .int (g.1 41), .ref (E.1 19), .ref (E.1 20), .ref (E.1 21), .int (g.1 45), .ref (E.1 22), .int (g.1 47), .ref (E.1 23), .ref (E.1 24), .int (g.1 50), .int (g.1 51), .int (g.1 52), .int (g.1 53), .float (g.2.2.2.1 0), .ref (E.1 25), .int (g.1 56), .int (g.1 57), .int (g.1 58), .ref (E.1 26), .ref (E.1 27), .ref (E.1 28), .int (g.1 62), .ref (E.1 29), .int (g.1 64)].set 35 (.int v))) = cWB E (sS g 35 v) := rfl
set_option maxRecDepth 8000 in
theorem Bps_36 (E : Ev) (g : G) (v : Int32) : (cWB E g).set 0 (E.1 0, .inr (11, [.int (g.1 0), .int (g.1 1), .int (g.1 2), .int (g.1 3), .int (g.1 4), .int (g.1 5), .int (g.1 6), .int (g.1 7), .int (g.1 8), .int (g.1 9), .ref (E.1 1), .ref (E.1 2), .ref (E.1 3), .ref (E.1 4), .ref (E.1 5), .ref (E.1 6), .ref (E.1 7), .ref (E.1 8), .int (g.1 18), .int (g.1 19), .int (g.1 20), .int (g.1 21), .int (g.1 22), .int (g.1 23), .ref (E.1 9), .ref (E.1 10), .ref (E.1 11), .ref (E.1 12), .ref (E.1 13), .ref (E.1 14), .ref (E.1 15), .ref (E.1 16), .ref (E.1 17), .int (g.1 33), .ref (E.1 18), .int (g.1 35), .int (g.1 36), .int (g.1 37), .int (g.1 38), .int (g.1 39), .int (g.1 40), .int (g.1 41), .ref (E.1 19), .ref (E.1 20), .ref (E.1 21), .int (g.1 45), .ref (E.1 22), .int (g.1 47), .ref (E.1 23), .ref (E.1 24), .int (g.1 50), .int (g.1 51), .int (g.1 52), .int (g.1 53), .float (g.2.2.2.1 0), .ref (E.1 25), .int (g.1 56), .int (g.1 57), .int (g.1 58), .ref (E.1 26), .ref (E.1 27), .ref (E.1 28), .int (g.1 62), .ref (E.1 29), .int (g.1 64)].set 36 (.int v))) = cWB E (sS g 36 v) := rfl
set_option maxRecDepth 8000 in
theorem Bps_37 (E : Ev) (g : G) (v : Int32) : (cWB E g).set 0 (E.1 0, .inr (11, [.int (g.1 0), .int (g.1 1), .int (g.1 2), .int (g.1 3), .int (g.1 4), .int (g.1 5), .int (g.1 6), .int (g.1 7), .int (g.1 8), .int (g.1 9), .ref (E.1 1), .ref (E.1 2), .ref (E.1 3), .ref (E.1 4), .ref (E.1 5), .ref (E.1 6), .ref (E.1 7), .ref (E.1 8), .int (g.1 18), .int (g.1 19), .int (g.1 20), .int (g.1 21), .int (g.1 22), .int (g.1 23), .ref (E.1 9), .ref (E.1 10), .ref (E.1 11), .ref (E.1 12), .ref (E.1 13), .ref (E.1 14), .ref (E.1 15), .ref (E.1 16), .ref (E.1 17), .int (g.1 33), .ref (E.1 18), .int (g.1 35), .int (g.1 36), .int (g.1 37), .int (g.1 38), .int (g.1 39), .int (g.1 40), .int (g.1 41), .ref (E.1 19), .ref (E.1 20), .ref (E.1 21), .int (g.1 45), .ref (E.1 22), .int (g.1 47), .ref (E.1 23), .ref (E.1 24), .int (g.1 50), .int (g.1 51), .int (g.1 52), .int (g.1 53), .float (g.2.2.2.1 0), .ref (E.1 25), .int (g.1 56), .int (g.1 57), .int (g.1 58), .ref (E.1 26), .ref (E.1 27), .ref (E.1 28), .int (g.1 62), .ref (E.1 29), .int (g.1 64)].set 37 (.int v))) = cWB E (sS g 37 v) := rfl
set_option maxRecDepth 8000 in
theorem Bps_38 (E : Ev) (g : G) (v : Int32) : (cWB E g).set 0 (E.1 0, .inr (11, [.int (g.1 0), .int (g.1 1), .int (g.1 2), .int (g.1 3), .int (g.1 4), .int (g.1 5), .int (g.1 6), .int (g.1 7), .int (g.1 8), .int (g.1 9), .ref (E.1 1), .ref (E.1 2), .ref (E.1 3), .ref (E.1 4), .ref (E.1 5), .ref (E.1 6), .ref (E.1 7), .ref (E.1 8), .int (g.1 18), .int (g.1 19), .int (g.1 20), .int (g.1 21), .int (g.1 22), .int (g.1 23), .ref (E.1 9), .ref (E.1 10), .ref (E.1 11), .ref (E.1 12), .ref (E.1 13), .ref (E.1 14), .ref (E.1 15), .ref (E.1 16), .ref (E.1 17), .int (g.1 33), .ref (E.1 18), .int (g.1 35), .int (g.1 36), .int (g.1 37), .int (g.1 38), .int (g.1 39), .int (g.1 40), .int (g.1 41), .ref (E.1 19), .ref (E.1 20), .ref (E.1 21), .int (g.1 45), .ref (E.1 22), .int (g.1 47), .ref (E.1 23), .ref (E.1 24), .int (g.1 50), .int (g.1 51), .int (g.1 52), .int (g.1 53), .float (g.2.2.2.1 0), .ref (E.1 25), .int (g.1 56), .int (g.1 57), .int (g.1 58), .ref (E.1 26), .ref (E.1 27), .ref (E.1 28), .int (g.1 62), .ref (E.1 29), .int (g.1 64)].set 38 (.int v))) = cWB E (sS g 38 v) := rfl
set_option maxRecDepth 8000 in
theorem Bps_39 (E : Ev) (g : G) (v : Int32) : (cWB E g).set 0 (E.1 0, .inr (11, [.int (g.1 0), .int (g.1 1), .int (g.1 2), .int (g.1 3), .int (g.1 4), .int (g.1 5), .int (g.1 6), .int (g.1 7), .int (g.1 8), .int (g.1 9), .ref (E.1 1), .ref (E.1 2), .ref (E.1 3), .ref (E.1 4), .ref (E.1 5), .ref (E.1 6), .ref (E.1 7), .ref (E.1 8), .int (g.1 18), .int (g.1 19), .int (g.1 20), .int (g.1 21), .int (g.1 22), .int (g.1 23), .ref (E.1 9), .ref (E.1 10), .ref (E.1 11), .ref (E.1 12), .ref (E.1 13), .ref (E.1 14), .ref (E.1 15), .ref (E.1 16), .ref (E.1 17), .int (g.1 33), .ref (E.1 18), .int (g.1 35), .int (g.1 36), .int (g.1 37), .int (g.1 38), .int (g.1 39), .int (g.1 40), .int (g.1 41), .ref (E.1 19), .ref (E.1 20), .ref (E.1 21), .int (g.1 45), .ref (E.1 22), .int (g.1 47), .ref (E.1 23), .ref (E.1 24), .int (g.1 50), .int (g.1 51), .int (g.1 52), .int (g.1 53), .float (g.2.2.2.1 0), .ref (E.1 25), .int (g.1 56), .int (g.1 57), .int (g.1 58), .ref (E.1 26), .ref (E.1 27), .ref (E.1 28), .int (g.1 62), .ref (E.1 29), .int (g.1 64)].set 39 (.int v))) = cWB E (sS g 39 v) := rfl
set_option maxRecDepth 8000 in
theorem Bps_40 (E : Ev) (g : G) (v : Int32) : (cWB E g).set 0 (E.1 0, .inr (11, [.int (g.1 0), .int (g.1 1), .int (g.1 2), .int (g.1 3), .int (g.1 4), .int (g.1 5), .int (g.1 6), .int (g.1 7), .int (g.1 8), .int (g.1 9), .ref (E.1 1), .ref (E.1 2), .ref (E.1 3), .ref (E.1 4), .ref (E.1 5), .ref (E.1 6), .ref (E.1 7), .ref (E.1 8), .int (g.1 18), .int (g.1 19), .int (g.1 20), .int (g.1 21), .int (g.1 22), .int (g.1 23), .ref (E.1 9), .ref (E.1 10), .ref (E.1 11), .ref (E.1 12), .ref (E.1 13), .ref (E.1 14), .ref (E.1 15), .ref (E.1 16), .ref (E.1 17), .int (g.1 33), .ref (E.1 18), .int (g.1 35), .int (g.1 36), .int (g.1 37), .int (g.1 38), .int (g.1 39), .int (g.1 40), .int (g.1 41), .ref (E.1 19), .ref (E.1 20), .ref (E.1 21), .int (g.1 45), .ref (E.1 22), .int (g.1 47), .ref (E.1 23), .ref (E.1 24), .int (g.1 50), .int (g.1 51), .int (g.1 52), .int (g.1 53), .float (g.2.2.2.1 0), .ref (E.1 25), .int (g.1 56), .int (g.1 57), .int (g.1 58), .ref (E.1 26), .ref (E.1 27), .ref (E.1 28), .int (g.1 62), .ref (E.1 29), .int (g.1 64)].set 40 (.int v))) = cWB E (sS g 40 v) := rfl
set_option maxRecDepth 8000 in
theorem Bps_41 (E : Ev) (g : G) (v : Int32) : (cWB E g).set 0 (E.1 0, .inr (11, [.int (g.1 0), .int (g.1 1), .int (g.1 2), .int (g.1 3), .int (g.1 4), .int (g.1 5), .int (g.1 6), .int (g.1 7), .int (g.1 8), .int (g.1 9), .ref (E.1 1), .ref (E.1 2), .ref (E.1 3), .ref (E.1 4), .ref (E.1 5), .ref (E.1 6), .ref (E.1 7), .ref (E.1 8), .int (g.1 18), .int (g.1 19), .int (g.1 20), .int (g.1 21), .int (g.1 22), .int (g.1 23), .ref (E.1 9), .ref (E.1 10), .ref (E.1 11), .ref (E.1 12), .ref (E.1 13), .ref (E.1 14), .ref (E.1 15), .ref (E.1 16), .ref (E.1 17), .int (g.1 33), .ref (E.1 18), .int (g.1 35), .int (g.1 36), .int (g.1 37), .int (g.1 38), .int (g.1 39), .int (g.1 40), .int (g.1 41), .ref (E.1 19), .ref (E.1 20), .ref (E.1 21), .int (g.1 45), .ref (E.1 22), .int (g.1 47), .ref (E.1 23), .ref (E.1 24), .int (g.1 50), .int (g.1 51), .int (g.1 52), .int (g.1 53), .float (g.2.2.2.1 0), .ref (E.1 25), .int (g.1 56), .int (g.1 57), .int (g.1 58), .ref (E.1 26), .ref (E.1 27), .ref (E.1 28), .int (g.1 62), .ref (E.1 29), .int (g.1 64)].set 41 (.int v))) = cWB E (sS g 41 v) := rfl
set_option maxRecDepth 8000 in
theorem Bps_45 (E : Ev) (g : G) (v : Int32) : (cWB E g).set 0 (E.1 0, .inr (11, [.int (g.1 0), .int (g.1 1), .int (g.1 2), .int (g.1 3), .int (g.1 4), .int (g.1 5), .int (g.1 6), .int (g.1 7), .int (g.1 8), .int (g.1 9), .ref (E.1 1), .ref (E.1 2), .ref (E.1 3), .ref (E.1 4), .ref (E.1 5), .ref (E.1 6), .ref (E.1 7), .ref (E.1 8), .int (g.1 18), .int (g.1 19), .int (g.1 20), .int (g.1 21), .int (g.1 22), .int (g.1 23), .ref (E.1 9), .ref (E.1 10), .ref (E.1 11), .ref (E.1 12), .ref (E.1 13), .ref (E.1 14), .ref (E.1 15), .ref (E.1 16), .ref (E.1 17), .int (g.1 33), .ref (E.1 18), .int (g.1 35), .int (g.1 36), .int (g.1 37), .int (g.1 38), .int (g.1 39), .int (g.1 40), .int (g.1 41), .ref (E.1 19), .ref (E.1 20), .ref (E.1 21), .int (g.1 45), .ref (E.1 22), .int (g.1 47), .ref (E.1 23), .ref (E.1 24), .int (g.1 50), .int (g.1 51), .int (g.1 52), .int (g.1 53), .float (g.2.2.2.1 0), .ref (E.1 25), .int (g.1 56), .int (g.1 57), .int (g.1 58), .ref (E.1 26), .ref (E.1 27), .ref (E.1 28), .int (g.1 62), .ref (E.1 29), .int (g.1 64)].set 45 (.int v))) = cWB E (sS g 45 v) := rfl
set_option maxRecDepth 8000 in
theorem Bps_47 (E : Ev) (g : G) (v : Int32) : (cWB E g).set 0 (E.1 0, .inr (11, [.int (g.1 0), .int (g.1 1), .int (g.1 2), .int (g.1 3), .int (g.1 4), .int (g.1 5), .int (g.1 6), .int (g.1 7), .int (g.1 8), .int (g.1 9), .ref (E.1 1), .ref (E.1 2), .ref (E.1 3), .ref (E.1 4), .ref (E.1 5), .ref (E.1 6), .ref (E.1 7), .ref (E.1 8), .int (g.1 18), .int (g.1 19), .int (g.1 20), .int (g.1 21), .int (g.1 22), .int (g.1 23), .ref (E.1 9), .ref (E.1 10), .ref (E.1 11), .ref (E.1 12), .ref (E.1 13), .ref (E.1 14), .ref (E.1 15), .ref (E.1 16), .ref (E.1 17), .int (g.1 33), .ref (E.1 18), .int (g.1 35), .int (g.1 36), .int (g.1 37), .int (g.1 38), .int (g.1 39), .int (g.1 40), .int (g.1 41), .ref (E.1 19), .ref (E.1 20), .ref (E.1 21), .int (g.1 45), .ref (E.1 22), .int (g.1 47), .ref (E.1 23), .ref (E.1 24), .int (g.1 50), .int (g.1 51), .int (g.1 52), .int (g.1 53), .float (g.2.2.2.1 0), .ref (E.1 25), .int (g.1 56), .int (g.1 57), .int (g.1 58), .ref (E.1 26), .ref (E.1 27), .ref (E.1 28), .int (g.1 62), .ref (E.1 29), .int (g.1 64)].set 47 (.int v))) = cWB E (sS g 47 v) := rfl
set_option maxRecDepth 8000 in
theorem Bps_50 (E : Ev) (g : G) (v : Int32) : (cWB E g).set 0 (E.1 0, .inr (11, [.int (g.1 0), .int (g.1 1), .int (g.1 2), .int (g.1 3), .int (g.1 4), .int (g.1 5), .int (g.1 6), .int (g.1 7), .int (g.1 8), .int (g.1 9), .ref (E.1 1), .ref (E.1 2), .ref (E.1 3), .ref (E.1 4), .ref (E.1 5), .ref (E.1 6), .ref (E.1 7), .ref (E.1 8), .int (g.1 18), .int (g.1 19), .int (g.1 20), .int (g.1 21), .int (g.1 22), .int (g.1 23), .ref (E.1 9), .ref (E.1 10), .ref (E.1 11), .ref (E.1 12), .ref (E.1 13), .ref (E.1 14), .ref (E.1 15), .ref (E.1 16), .ref (E.1 17), .int (g.1 33), .ref (E.1 18), .int (g.1 35), .int (g.1 36), .int (g.1 37), .int (g.1 38), .int (g.1 39), .int (g.1 40), .int (g.1 41), .ref (E.1 19), .ref (E.1 20), .ref (E.1 21), .int (g.1 45), .ref (E.1 22), .int (g.1 47), .ref (E.1 23), .ref (E.1 24), .int (g.1 50), .int (g.1 51), .int (g.1 52), .int (g.1 53), .float (g.2.2.2.1 0), .ref (E.1 25), .int (g.1 56), .int (g.1 57), .int (g.1 58), .ref (E.1 26), .ref (E.1 27), .ref (E.1 28), .int (g.1 62), .ref (E.1 29), .int (g.1 64)].set 50 (.int v))) = cWB E (sS g 50 v) := rfl
set_option maxRecDepth 8000 in
theorem Bps_51 (E : Ev) (g : G) (v : Int32) : (cWB E g).set 0 (E.1 0, .inr (11, [.int (g.1 0), .int (g.1 1), .int (g.1 2), .int (g.1 3), .int (g.1 4), .int (g.1 5), .int (g.1 6), .int (g.1 7), .int (g.1 8), .int (g.1 9), .ref (E.1 1), .ref (E.1 2), .ref (E.1 3), .ref (E.1 4), .ref (E.1 5), .ref (E.1 6), .ref (E.1 7), .ref (E.1 8), .int (g.1 18), .int (g.1 19), .int (g.1 20), .int (g.1 21), .int (g.1 22), .int (g.1 23), .ref (E.1 9), .ref (E.1 10), .ref (E.1 11), .ref (E.1 12), .ref (E.1 13), .ref (E.1 14), .ref (E.1 15), .ref (E.1 16), .ref (E.1 17), .int (g.1 33), .ref (E.1 18), .int (g.1 35), .int (g.1 36), .int (g.1 37), .int (g.1 38), .int (g.1 39), .int (g.1 40), .int (g.1 41), .ref (E.1 19), .ref (E.1 20), .ref (E.1 21), .int (g.1 45), .ref (E.1 22), .int (g.1 47), .ref (E.1 23), .ref (E.1 24), .int (g.1 50), .int (g.1 51), .int (g.1 52), .int (g.1 53), .float (g.2.2.2.1 0), .ref (E.1 25), .int (g.1 56), .int (g.1 57), .int (g.1 58), .ref (E.1 26), .ref (E.1 27), .ref (E.1 28), .int (g.1 62), .ref (E.1 29), .int (g.1 64)].set 51 (.int v))) = cWB E (sS g 51 v) := rfl
set_option maxRecDepth 8000 in
theorem Bps_52 (E : Ev) (g : G) (v : Int32) : (cWB E g).set 0 (E.1 0, .inr (11, [.int (g.1 0), .int (g.1 1), .int (g.1 2), .int (g.1 3), .int (g.1 4), .int (g.1 5), .int (g.1 6), .int (g.1 7), .int (g.1 8), .int (g.1 9), .ref (E.1 1), .ref (E.1 2), .ref (E.1 3), .ref (E.1 4), .ref (E.1 5), .ref (E.1 6), .ref (E.1 7), .ref (E.1 8), .int (g.1 18), .int (g.1 19), .int (g.1 20), .int (g.1 21), .int (g.1 22), .int (g.1 23), .ref (E.1 9), .ref (E.1 10), .ref (E.1 11), .ref (E.1 12), .ref (E.1 13), .ref (E.1 14), .ref (E.1 15), .ref (E.1 16), .ref (E.1 17), .int (g.1 33), .ref (E.1 18), .int (g.1 35), .int (g.1 36), .int (g.1 37), .int (g.1 38), .int (g.1 39), .int (g.1 40), .int (g.1 41), .ref (E.1 19), .ref (E.1 20), .ref (E.1 21), .int (g.1 45), .ref (E.1 22), .int (g.1 47), .ref (E.1 23), .ref (E.1 24), .int (g.1 50), .int (g.1 51), .int (g.1 52), .int (g.1 53), .float (g.2.2.2.1 0), .ref (E.1 25), .int (g.1 56), .int (g.1 57), .int (g.1 58), .ref (E.1 26), .ref (E.1 27), .ref (E.1 28), .int (g.1 62), .ref (E.1 29), .int (g.1 64)].set 52 (.int v))) = cWB E (sS g 52 v) := rfl
set_option maxRecDepth 8000 in
theorem Bps_53 (E : Ev) (g : G) (v : Int32) : (cWB E g).set 0 (E.1 0, .inr (11, [.int (g.1 0), .int (g.1 1), .int (g.1 2), .int (g.1 3), .int (g.1 4), .int (g.1 5), .int (g.1 6), .int (g.1 7), .int (g.1 8), .int (g.1 9), .ref (E.1 1), .ref (E.1 2), .ref (E.1 3), .ref (E.1 4), .ref (E.1 5), .ref (E.1 6), .ref (E.1 7), .ref (E.1 8), .int (g.1 18), .int (g.1 19), .int (g.1 20), .int (g.1 21), .int (g.1 22), .int (g.1 23), .ref (E.1 9), .ref (E.1 10), .ref (E.1 11), .ref (E.1 12), .ref (E.1 13), .ref (E.1 14), .ref (E.1 15), .ref (E.1 16), .ref (E.1 17), .int (g.1 33), .ref (E.1 18), .int (g.1 35), .int (g.1 36), .int (g.1 37), .int (g.1 38), .int (g.1 39), .int (g.1 40), .int (g.1 41), .ref (E.1 19), .ref (E.1 20), .ref (E.1 21), .int (g.1 45), .ref (E.1 22), .int (g.1 47), .ref (E.1 23), .ref (E.1 24), .int (g.1 50), .int (g.1 51), .int (g.1 52), .int (g.1 53), .float (g.2.2.2.1 0), .ref (E.1 25), .int (g.1 56), .int (g.1 57), .int (g.1 58), .ref (E.1 26), .ref (E.1 27), .ref (E.1 28), .int (g.1 62), .ref (E.1 29), .int (g.1 64)].set 53 (.int v))) = cWB E (sS g 53 v) := rfl
theorem Bpf (E : Ev) (g : G) (v : UInt32) : (cWB E g).set 0 (E.1 0, .inr (11, [.int (g.1 0), .int (g.1 1), .int (g.1 2), .int (g.1 3), .int (g.1 4), .int (g.1 5), .int (g.1 6), .int (g.1 7), .int (g.1 8), .int (g.1 9), .ref (E.1 1), .ref (E.1 2), .ref (E.1 3), .ref (E.1 4), .ref (E.1 5), .ref (E.1 6), .ref (E.1 7), .ref (E.1 8), .int (g.1 18), .int (g.1 19), .int (g.1 20), .int (g.1 21), .int (g.1 22), .int (g.1 23), .ref (E.1 9), .ref (E.1 10), .ref (E.1 11), .ref (E.1 12), .ref (E.1 13), .ref (E.1 14), .ref (E.1 15), .ref (E.1 16), .ref (E.1 17), .int (g.1 33), .ref (E.1 18), .int (g.1 35), .int (g.1 36), .int (g.1 37), .int (g.1 38), .int (g.1 39), .int (g.1 40), .int (g.1 41), .ref (E.1 19), .ref (E.1 20), .ref (E.1 21), .int (g.1 45), .ref (E.1 22), .int (g.1 47), .ref (E.1 23), .ref (E.1 24), .int (g.1 50), .int (g.1 51), .int (g.1 52), .int (g.1 53), .float (g.2.2.2.1 0), .ref (E.1 25), .int (g.1 56), .int (g.1 57), .int (g.1 58), .ref (E.1 26), .ref (E.1 27), .ref (E.1 28), .int (g.1 62), .ref (E.1 29), .int (g.1 64)].set 54 (.float v))) = cWB E (sF g 0 v) := rfl
set_option maxRecDepth 8000 in
theorem Bps_56 (E : Ev) (g : G) (v : Int32) : (cWB E g).set 0 (E.1 0, .inr (11, [.int (g.1 0), .int (g.1 1), .int (g.1 2), .int (g.1 3), .int (g.1 4), .int (g.1 5), .int (g.1 6), .int (g.1 7), .int (g.1 8), .int (g.1 9), .ref (E.1 1), .ref (E.1 2), .ref (E.1 3), .ref (E.1 4), .ref (E.1 5), .ref (E.1 6), .ref (E.1 7), .ref (E.1 8), .int (g.1 18), .int (g.1 19), .int (g.1 20), .int (g.1 21), .int (g.1 22), .int (g.1 23), .ref (E.1 9), .ref (E.1 10), .ref (E.1 11), .ref (E.1 12), .ref (E.1 13), .ref (E.1 14), .ref (E.1 15), .ref (E.1 16), .ref (E.1 17), .int (g.1 33), .ref (E.1 18), .int (g.1 35), .int (g.1 36), .int (g.1 37), .int (g.1 38), .int (g.1 39), .int (g.1 40), .int (g.1 41), .ref (E.1 19), .ref (E.1 20), .ref (E.1 21), .int (g.1 45), .ref (E.1 22), .int (g.1 47), .ref (E.1 23), .ref (E.1 24), .int (g.1 50), .int (g.1 51), .int (g.1 52), .int (g.1 53), .float (g.2.2.2.1 0), .ref (E.1 25), .int (g.1 56), .int (g.1 57), .int (g.1 58), .ref (E.1 26), .ref (E.1 27), .ref (E.1 28), .int (g.1 62), .ref (E.1 29), .int (g.1 64)].set 56 (.int v))) = cWB E (sS g 56 v) := rfl
set_option maxRecDepth 8000 in
theorem Bps_57 (E : Ev) (g : G) (v : Int32) : (cWB E g).set 0 (E.1 0, .inr (11, [.int (g.1 0), .int (g.1 1), .int (g.1 2), .int (g.1 3), .int (g.1 4), .int (g.1 5), .int (g.1 6), .int (g.1 7), .int (g.1 8), .int (g.1 9), .ref (E.1 1), .ref (E.1 2), .ref (E.1 3), .ref (E.1 4), .ref (E.1 5), .ref (E.1 6), .ref (E.1 7), .ref (E.1 8), .int (g.1 18), .int (g.1 19), .int (g.1 20), .int (g.1 21), .int (g.1 22), .int (g.1 23), .ref (E.1 9), .ref (E.1 10), .ref (E.1 11), .ref (E.1 12), .ref (E.1 13), .ref (E.1 14), .ref (E.1 15), .ref (E.1 16), .ref (E.1 17), .int (g.1 33), .ref (E.1 18), .int (g.1 35), .int (g.1 36), .int (g.1 37), .int (g.1 38), .int (g.1 39), .int (g.1 40), .int (g.1 41), .ref (E.1 19), .ref (E.1 20), .ref (E.1 21), .int (g.1 45), .ref (E.1 22), .int (g.1 47), .ref (E.1 23), .ref (E.1 24), .int (g.1 50), .int (g.1 51), .int (g.1 52), .int (g.1 53), .float (g.2.2.2.1 0), .ref (E.1 25), .int (g.1 56), .int (g.1 57), .int (g.1 58), .ref (E.1 26), .ref (E.1 27), .ref (E.1 28), .int (g.1 62), .ref (E.1 29), .int (g.1 64)].set 57 (.int v))) = cWB E (sS g 57 v) := rfl
set_option maxRecDepth 8000 in
theorem Bps_58 (E : Ev) (g : G) (v : Int32) : (cWB E g).set 0 (E.1 0, .inr (11, [.int (g.1 0), .int (g.1 1), .int (g.1 2), .int (g.1 3), .int (g.1 4), .int (g.1 5), .int (g.1 6), .int (g.1 7), .int (g.1 8), .int (g.1 9), .ref (E.1 1), .ref (E.1 2), .ref (E.1 3), .ref (E.1 4), .ref (E.1 5), .ref (E.1 6), .ref (E.1 7), .ref (E.1 8), .int (g.1 18), .int (g.1 19), .int (g.1 20), .int (g.1 21), .int (g.1 22), .int (g.1 23), .ref (E.1 9), .ref (E.1 10), .ref (E.1 11), .ref (E.1 12), .ref (E.1 13), .ref (E.1 14), .ref (E.1 15), .ref (E.1 16), .ref (E.1 17), .int (g.1 33), .ref (E.1 18), .int (g.1 35), .int (g.1 36), .int (g.1 37), .int (g.1 38), .int (g.1 39), .int (g.1 40), .int (g.1 41), .ref (E.1 19), .ref (E.1 20), .ref (E.1 21), .int (g.1 45), .ref (E.1 22), .int (g.1 47), .ref (E.1 23), .ref (E.1 24), .int (g.1 50), .int (g.1 51), .int (g.1 52), .int (g.1 53), .float (g.2.2.2.1 0), .ref (E.1 25), .int (g.1 56), .int (g.1 57), .int (g.1 58), .ref (E.1 26), .ref (E.1 27), .ref (E.1 28), .int (g.1 62), .ref (E.1 29), .int (g.1 64)].set 58 (.int v))) = cWB E (sS g 58 v) := rfl
set_option maxRecDepth 8000 in
theorem Bps_62 (E : Ev) (g : G) (v : Int32) : (cWB E g).set 0 (E.1 0, .inr (11, [.int (g.1 0), .int (g.1 1), .int (g.1 2), .int (g.1 3), .int (g.1 4), .int (g.1 5), .int (g.1 6), .int (g.1 7), .int (g.1 8), .int (g.1 9), .ref (E.1 1), .ref (E.1 2), .ref (E.1 3), .ref (E.1 4), .ref (E.1 5), .ref (E.1 6), .ref (E.1 7), .ref (E.1 8), .int (g.1 18), .int (g.1 19), .int (g.1 20), .int (g.1 21), .int (g.1 22), .int (g.1 23), .ref (E.1 9), .ref (E.1 10), .ref (E.1 11), .ref (E.1 12), .ref (E.1 13), .ref (E.1 14), .ref (E.1 15), .ref (E.1 16), .ref (E.1 17), .int (g.1 33), .ref (E.1 18), .int (g.1 35), .int (g.1 36), .int (g.1 37), .int (g.1 38), .int (g.1 39), .int (g.1 40), .int (g.1 41), .ref (E.1 19), .ref (E.1 20), .ref (E.1 21), .int (g.1 45), .ref (E.1 22), .int (g.1 47), .ref (E.1 23), .ref (E.1 24), .int (g.1 50), .int (g.1 51), .int (g.1 52), .int (g.1 53), .float (g.2.2.2.1 0), .ref (E.1 25), .int (g.1 56), .int (g.1 57), .int (g.1 58), .ref (E.1 26), .ref (E.1 27), .ref (E.1 28), .int (g.1 62), .ref (E.1 29), .int (g.1 64)].set 62 (.int v))) = cWB E (sS g 62 v) := rfl
set_option maxRecDepth 8000 in
theorem Bps_64 (E : Ev) (g : G) (v : Int32) : (cWB E g).set 0 (E.1 0, .inr (11, [.int (g.1 0), .int (g.1 1), .int (g.1 2), .int (g.1 3), .int (g.1 4), .int (g.1 5), .int (g.1 6), .int (g.1 7), .int (g.1 8), .int (g.1 9), .ref (E.1 1), .ref (E.1 2), .ref (E.1 3), .ref (E.1 4), .ref (E.1 5), .ref (E.1 6), .ref (E.1 7), .ref (E.1 8), .int (g.1 18), .int (g.1 19), .int (g.1 20), .int (g.1 21), .int (g.1 22), .int (g.1 23), .ref (E.1 9), .ref (E.1 10), .ref (E.1 11), .ref (E.1 12), .ref (E.1 13), .ref (E.1 14), .ref (E.1 15), .ref (E.1 16), .ref (E.1 17), .int (g.1 33), .ref (E.1 18), .int (g.1 35), .int (g.1 36), .int (g.1 37), .int (g.1 38), .int (g.1 39), .int (g.1 40), .int (g.1 41), .ref (E.1 19), .ref (E.1 20), .ref (E.1 21), .int (g.1 45), .ref (E.1 22), .int (g.1 47), .ref (E.1 23), .ref (E.1 24), .int (g.1 50), .int (g.1 51), .int (g.1 52), .int (g.1 53), .float (g.2.2.2.1 0), .ref (E.1 25), .int (g.1 56), .int (g.1 57), .int (g.1 58), .ref (E.1 26), .ref (E.1 27), .ref (E.1 28), .int (g.1 62), .ref (E.1 29), .int (g.1 64)].set 64 (.int v))) = cWB E (sS g 64 v) := rfl
theorem Bas_1 (E : Ev) (g : G) (f : Nat → Int32) : (cWB E g).set 1 (E.1 1, .inl (E.2.2.1.1, 4, .inl f)) = cWB E (sC g 1 f) := rfl
theorem Bas_2 (E : Ev) (g : G) (f : Nat → Int32) : (cWB E g).set 2 (E.1 2, .inl (E.2.2.1.1, 4, .inl f)) = cWB E (sC g 2 f) := rfl
theorem Bas_3 (E : Ev) (g : G) (f : Nat → Int32) : (cWB E g).set 3 (E.1 3, .inl (E.2.2.1.1, 4, .inl f)) = cWB E (sC g 3 f) := rfl
theorem Bas_4 (E : Ev) (g : G) (f : Nat → Int32) : (cWB E g).set 4 (E.1 4, .inl (E.2.2.1.1, 8, .inl f)) = cWB E (sC g 4 f) := rfl
theorem Bas_5 (E : Ev) (g : G) (f : Nat → Int32) : (cWB E g).set 5 (E.1 5, .inl (E.2.2.1.1, 8, .inl f)) = cWB E (sC g 5 f) := rfl
theorem Bas_6 (E : Ev) (g : G) (f : Nat → Int32) : (cWB E g).set 6 (E.1 6, .inl (E.2.2.1.1, 8, .inl f)) = cWB E (sC g 6 f) := rfl
theorem Bas_7 (E : Ev) (g : G) (f : Nat → Int32) : (cWB E g).set 7 (E.1 7, .inl (E.2.2.1.1, 24, .inl f)) = cWB E (sC g 7 f) := rfl
theorem Bas_8 (E : Ev) (g : G) (f : Nat → Int32) : (cWB E g).set 8 (E.1 8, .inl (E.2.2.1.1, 108, .inl f)) = cWB E (sC g 8 f) := rfl
theorem Bas_9 (E : Ev) (g : G) (f : Nat → Int32) : (cWB E g).set 9 (E.1 9, .inl (E.2.2.1.1, 4, .inl f)) = cWB E (sC g 9 f) := rfl
theorem Bas_10 (E : Ev) (g : G) (f : Nat → Int32) : (cWB E g).set 10 (E.1 10, .inl (E.2.2.1.1, 4, .inl f)) = cWB E (sC g 10 f) := rfl
theorem Bas_11 (E : Ev) (g : G) (f : Nat → Int32) : (cWB E g).set 11 (E.1 11, .inl (E.2.2.1.1, 4, .inl f)) = cWB E (sC g 11 f) := rfl
theorem Bas_12 (E : Ev) (g : G) (f : Nat → Int32) : (cWB E g).set 12 (E.1 12, .inl (E.2.2.1.1, 8, .inl f)) = cWB E (sC g 12 f) := rfl
theorem Bas_13 (E : Ev) (g : G) (f : Nat → Int32) : (cWB E g).set 13 (E.1 13, .inl (E.2.2.1.1, 8, .inl f)) = cWB E (sC g 13 f) := rfl
theorem Bas_14 (E : Ev) (g : G) (f : Nat → Int32) : (cWB E g).set 14 (E.1 14, .inl (E.2.2.1.1, 8, .inl f)) = cWB E (sC g 14 f) := rfl
theorem Bas_15 (E : Ev) (g : G) (f : Nat → Int32) : (cWB E g).set 15 (E.1 15, .inl (E.2.2.1.1, 24, .inl f)) = cWB E (sC g 15 f) := rfl
theorem Bas_16 (E : Ev) (g : G) (f : Nat → Int32) : (cWB E g).set 16 (E.1 16, .inl (E.2.2.1.1, 108, .inl f)) = cWB E (sC g 16 f) := rfl
theorem Bas_17 (E : Ev) (g : G) (f : Nat → Int32) : (cWB E g).set 17 (E.1 17, .inl (E.2.2.1.1, 1600, .inl f)) = cWB E (sC g 17 f) := rfl
theorem Bas_18 (E : Ev) (g : G) (f : Nat → Int32) : (cWB E g).set 18 (E.1 18, .inl (E.2.2.1.1, 6, .inl f)) = cWB E (sC g 18 f) := rfl
theorem Bas_19 (E : Ev) (g : G) (f : Nat → Int32) : (cWB E g).set 19 (E.1 19, .inl (E.2.2.1.1, 70, .inl f)) = cWB E (sC g 19 f) := rfl
theorem Bas_20 (E : Ev) (g : G) (f : Nat → Int32) : (cWB E g).set 20 (E.1 20, .inl (E.2.2.1.1, 28, .inl f)) = cWB E (sC g 20 f) := rfl
theorem Bas_21 (E : Ev) (g : G) (f : Nat → Int32) : (cWB E g).set 21 (E.1 21, .inl (E.2.2.1.1, 560, .inl f)) = cWB E (sC g 21 f) := rfl
theorem Bas_22 (E : Ev) (g : G) (f : Nat → Int32) : (cWB E g).set 22 (E.1 22, .inl (E.2.2.1.1, 69120, .inl f)) = cWB E (sC g 22 f) := rfl
theorem Bas_23 (E : Ev) (g : G) (f : Nat → Int32) : (cWB E g).set 23 (E.1 23, .inl (E.2.2.1.1, 240, .inl f)) = cWB E (sC g 23 f) := rfl
theorem Bas_24 (E : Ev) (g : G) (f : Nat → Int32) : (cWB E g).set 24 (E.1 24, .inl (E.2.2.1.1, 240, .inl f)) = cWB E (sC g 24 f) := rfl
theorem Bas_25 (E : Ev) (g : G) (f : Nat → Int32) : (cWB E g).set 25 (E.1 25, .inl (E.2.2.1.1, 28, .inl f)) = cWB E (sC g 25 f) := rfl
theorem Bas_26 (E : Ev) (g : G) (f : Nat → Int32) : (cWB E g).set 26 (E.1 26, .inl (E.2.2.1.1, 64, .inl f)) = cWB E (sC g 26 f) := rfl
theorem Bas_27 (E : Ev) (g : G) (f : Nat → Int32) : (cWB E g).set 27 (E.1 27, .inl (E.2.2.1.1, 9, .inl f)) = cWB E (sC g 27 f) := rfl
theorem Bas_28 (E : Ev) (g : G) (f : Nat → Int32) : (cWB E g).set 28 (E.1 28, .inl (E.2.2.1.1, 9, .inl f)) = cWB E (sC g 28 f) := rfl
theorem Bas_29 (E : Ev) (g : G) (f : Nat → Int32) : (cWB E g).set 29 (E.1 29, .inl (E.2.2.1.1, 29, .inl f)) = cWB E (sC g 29 f) := rfl
theorem XkB (E : Ev) : Xok (wCB E) := ⟨fun _ _ _ _ _ _ _ _ => trivial, fun _ _ _ _ _ => trivial⟩
theorem XkA (E : Ev) : Xok (wCA E) := by
  refine ⟨?_, ?_⟩
  · intro s U H locs hW hU hS hx
    obtain ⟨h1, h2, h3, h4, h5⟩ := hx
    have hq : ∀ a : Nat, a < s.heap.size → ¬ (fun q => ∃ k : Nat, k < 146 ∧ q = E.1 k) a → U.heap[a]? = s.heap[a]? := fun a h9 h8 => by rw [hU]; exact hS.2.1 a h9 h8
    refine ⟨fun z hz => va_Nw.warmM hW (h1 z hz), (h2.kept hq).moved hW.alike, fun z hz => vk_R.warm hW (h3 z hz), (h4.kept hq).moved hW.alike, ?_⟩
    rcases h5 with h5 | ⟨t, h5⟩
    · exact Or.inl ((h5.kept hq).moved hW.alike)
    · exact Or.inr ⟨t, (h5.kept hq).moved hW.alike⟩
  · intro U V hv hh hx
    obtain ⟨h1, h2, h3, h4, h5⟩ := hx
    have hal : U.vm.Alike V.vm := by rw [hv]; exact Vm.Alike.refl U.vm
    refine ⟨fun z hz => va_Nw.same rfl hv.symm (h1 z hz), by rw [hh]; exact h2.moved hal, fun z hz => vk_R.same hv (h3 z hz), by rw [hh]; exact h4.moved hal, ?_⟩
    rw [hh]
    rcases h5 with h5 | ⟨t, h5⟩
    · exact Or.inl (h5.moved hal)
    · exact Or.inr ⟨t, h5.moved hal⟩
