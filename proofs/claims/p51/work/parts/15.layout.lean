-- ===== the shape of all objects of the claim: addresses 0 to 271 the class, 272 to 271 the reference, 272 the row out =====
def shL : List Sh := [.inr 9, .inr 7, .inl (0, 3), .inr 8, .inl (0, 12), .inl (0, 12), .inl (0, 42), .inl (0, 3), .inl (0, 30), .inl (0, 12), .inl (0, 12), .inl (0, 12), .inr 6, .inl (0, 16), .inl (0, 128), .inr 0, .inl (0, 18), .inl (0, 54), .inl (0, 54), .inl (0, 54), .inl (0, 42), .inr 7, .inl (0, 3), .inr 8, .inl (0, 12), .inl (0, 12), .inl (0, 42), .inl (0, 3), .inl (0, 30), .inl (0, 12), .inl (0, 12), .inl (0, 12), .inr 6, .inl (0, 16), .inl (0, 128), .inr 0, .inl (0, 18), .inl (0, 54), .inl (0, 54), .inl (0, 54), .inl (0, 42), .inr 5, .inl (0, 500), .inl (0, 3), .inr 1, .inl (4, 8), .inr 7, .inl (0, 3), .inr 8, .inl (0, 12), .inl (0, 12), .inl (0, 42), .inl (0, 3), .inl (0, 30), .inl (0, 12), .inl (0, 12), .inl (0, 12), .inr 6, .inl (0, 16), .inl (0, 128), .inr 0, .inl (0, 18), .inl (0, 54), .inl (0, 54), .inl (0, 54), .inl (0, 42), .inr 7, .inl (0, 3), .inr 8, .inl (0, 12), .inl (0, 12), .inl (0, 42), .inl (0, 3), .inl (0, 30), .inl (0, 12), .inl (0, 12), .inl (0, 12), .inr 6, .inl (0, 16), .inl (0, 128), .inr 0, .inl (0, 18), .inl (0, 54), .inl (0, 54), .inl (0, 54), .inl (0, 42), .inr 7, .inl (0, 3), .inr 8, .inl (0, 12), .inl (0, 12), .inl (0, 42), .inl (0, 3), .inl (0, 30), .inl (0, 12), .inl (0, 12), .inl (0, 12), .inr 6, .inl (0, 16), .inl (0, 128), .inr 0, .inl (0, 18), .inl (0, 54), .inl (0, 54), .inl (0, 54), .inl (0, 42), .inr 7, .inl (0, 3), .inr 8, .inl (0, 12), .inl (0, 12), .inl (0, 42), .inl (0, 3), .inl (0, 30), .inl (0, 12), .inl (0, 12), .inl (0, 12), .inr 6, .inl (0, 16), .inl (0, 128), .inr 0, .inl (0, 18), .inl (0, 54), .inl (0, 54), .inl (0, 54), .inl (0, 42), .inr 7, .inl (0, 3), .inr 8, .inl (0, 12), .inl (0, 12), .inl (0, 42), .inl (0, 3), .inl (0, 30), .inl (0, 12), .inl (0, 12), .inl (0, 12), .inr 6, .inl (0, 16), .inl (0, 128), .inr 0, .inl (0, 18), .inl (0, 54), .inl (0, 54), .inl (0, 54), .inl (0, 42), .inr 7, .inl (0, 3), .inr 8, .inl (0, 12), .inl (0, 12), .inl (0, 42), .inl (0, 3), .inl (0, 30), .inl (0, 12), .inl (0, 12), .inl (0, 12), .inr 6, .inl (0, 16), .inl (0, 128), .inr 0, .inl (0, 18), .inl (0, 54), .inl (0, 54), .inl (0, 54), .inl (0, 42), .inr 7, .inl (0, 3), .inr 8, .inl (0, 12), .inl (0, 12), .inl (0, 42), .inl (0, 3), .inl (0, 30), .inl (0, 12), .inl (0, 12), .inl (0, 12), .inr 6, .inl (0, 16), .inl (0, 128), .inr 0, .inl (0, 18), .inl (0, 54), .inl (0, 54), .inl (0, 54), .inl (0, 42), .inr 7, .inl (0, 3), .inr 8, .inl (0, 12), .inl (0, 12), .inl (0, 42), .inl (0, 3), .inl (0, 30), .inl (0, 12), .inl (0, 12), .inl (0, 12), .inr 6, .inl (0, 16), .inl (0, 128), .inr 0, .inl (0, 18), .inl (0, 54), .inl (0, 54), .inl (0, 54), .inl (0, 42), .inl (4, 2), .inl (1, 2), .inr 4, .inr 2, .inl (0, 43), .inl (0, 43), .inl (0, 43), .inl (0, 43), .inl (0, 430), .inl (0, 10), .inl (0, 10), .inl (0, 10), .inr 0, .inl (0, 18), .inl (0, 54), .inl (0, 54), .inl (0, 54), .inl (0, 42), .inr 0, .inl (0, 18), .inl (0, 54), .inl (0, 54), .inl (0, 54), .inl (0, 42), .inr 3, .inl (0, 80), .inr 7, .inl (0, 3), .inr 8, .inl (0, 12), .inl (0, 12), .inl (0, 42), .inl (0, 3), .inl (0, 30), .inl (0, 12), .inl (0, 12), .inl (0, 12), .inr 6, .inl (0, 16), .inl (0, 128), .inr 0, .inl (0, 18), .inl (0, 54), .inl (0, 54), .inl (0, 54), .inl (0, 42), .inr 7, .inl (0, 3), .inr 8, .inl (0, 12), .inl (0, 12), .inl (0, 42), .inl (0, 3), .inl (0, 30), .inl (0, 12), .inl (0, 12), .inl (0, 12), .inr 6, .inl (0, 16), .inl (0, 128), .inr 0, .inl (0, 18), .inl (0, 54), .inl (0, 54), .inl (0, 54), .inl (0, 42)]
def rfL : List (List (Option Nat)) := [[some 1, some 21, some 41, some 44, some 206, some 207, some 208, some 218, some 224, some 230], [none, some 2, none, some 3, some 12, some 15], [], [none, none, some 4, some 5, some 6, none, some 7, some 8, none, some 9, some 10, some 11], [], [], [], [], [], [], [], [], [none, some 13, some 14], [], [], [none, some 16, some 17, some 18, some 19, some 20], [], [], [], [], [], [none, some 22, none, some 23, some 32, some 35], [], [none, none, some 24, some 25, some 26, none, some 27, some 28, none, some 29, some 30, some 31], [], [], [], [], [], [], [], [], [none, some 33, some 34], [], [], [none, some 36, some 37, some 38, some 39, some 40], [], [], [], [], [], [some 42, none, none, none, none, none, none, none, none, none, some 43], [], [], [some 45], [some 46, some 66, some 86, some 106, some 126, some 146, some 166, some 186], [none, some 47, none, some 48, some 57, some 60], [], [none, none, some 49, some 50, some 51, none, some 52, some 53, none, some 54, some 55, some 56], [], [], [], [], [], [], [], [], [none, some 58, some 59], [], [], [none, some 61, some 62, some 63, some 64, some 65], [], [], [], [], [], [none, some 67, none, some 68, some 77, some 80], [], [none, none, some 69, some 70, some 71, none, some 72, some 73, none, some 74, some 75, some 76], [], [], [], [], [], [], [], [], [none, some 78, some 79], [], [], [none, some 81, some 82, some 83, some 84, some 85], [], [], [], [], [], [none, some 87, none, some 88, some 97, some 100], [], [none, none, some 89, some 90, some 91, none, some 92, some 93, none, some 94, some 95, some 96], [], [], [], [], [], [], [], [], [none, some 98, some 99], [], [], [none, some 101, some 102, some 103, some 104, some 105], [], [], [], [], [], [none, some 107, none, some 108, some 117, some 120], [], [none, none, some 109, some 110, some 111, none, some 112, some 113, none, some 114, some 115, some 116], [], [], [], [], [], [], [], [], [none, some 118, some 119], [], [], [none, some 121, some 122, some 123, some 124, some 125], [], [], [], [], [], [none, some 127, none, some 128, some 137, some 140], [], [none, none, some 129, some 130, some 131, none, some 132, some 133, none, some 134, some 135, some 136], [], [], [], [], [], [], [], [], [none, some 138, some 139], [], [], [none, some 141, some 142, some 143, some 144, some 145], [], [], [], [], [], [none, some 147, none, some 148, some 157, some 160], [], [none, none, some 149, some 150, some 151, none, some 152, some 153, none, some 154, some 155, some 156], [], [], [], [], [], [], [], [], [none, some 158, some 159], [], [], [none, some 161, some 162, some 163, some 164, some 165], [], [], [], [], [], [none, some 167, none, some 168, some 177, some 180], [], [none, none, some 169, some 170, some 171, none, some 172, some 173, none, some 174, some 175, some 176], [], [], [], [], [], [], [], [], [none, some 178, some 179], [], [], [none, some 181, some 182, some 183, some 184, some 185], [], [], [], [], [], [none, some 187, none, some 188, some 197, some 200], [], [none, none, some 189, some 190, some 191, none, some 192, some 193, none, some 194, some 195, some 196], [], [], [], [], [], [], [], [], [none, some 198, some 199], [], [], [none, some 201, some 202, some 203, some 204, some 205], [], [], [], [], [], [some 232, some 252], [], [some 209], [none, some 210, some 211, some 212, some 213, some 214, some 215, some 216, some 217], [], [], [], [], [], [], [], [], [none, some 219, some 220, some 221, some 222, some 223], [], [], [], [], [], [none, some 225, some 226, some 227, some 228, some 229], [], [], [], [], [], [some 231], [], [none, some 233, none, some 234, some 243, some 246], [], [none, none, some 235, some 236, some 237, none, some 238, some 239, none, some 240, some 241, some 242], [], [], [], [], [], [], [], [], [none, some 244, some 245], [], [], [none, some 247, some 248, some 249, some 250, some 251], [], [], [], [], [], [none, some 253, none, some 254, some 263, some 266], [], [none, none, some 255, some 256, some 257, none, some 258, some 259, none, some 260, some 261, some 262], [], [], [], [], [], [], [], [], [none, some 264, some 265], [], [], [none, some 267, some 268, some 269, some 270, some 271], [], [], [], [], []]
def shF (a : Nat) : Sh := shL.getD a (.inr 99)
def rfF (a k : Nat) : Option Nat := (rfL.getD a []).getD k none
/-- n < 1000: the class's cells alone; 1000 + m: behind them a text of m bytes (272 the String, 273 its bytes) -/
def szF (n : Nat) : Nat := if n < 1000 then n else 274
def shX (n a : Nat) : Sh := if a < 272 then shF a else if a = 272 then .inr 10 else .inl (2, n - 1000)
def rfX (a k : Nat) : Option Nat := if a = 272 ∧ k = 0 then some 273 else rfF a k
abbrev SF (n : Nat) : ASt := (szF n, shX n, rfX)
theorem szF_ge {n c : Nat} (hn : c ≤ n) (hc : c ≤ 272) : c ≤ szF n := by
  unfold szF
  split <;> omega
theorem szF_272 : szF 272 = 272 := rfl
theorem shX_lo {n a : Nat} (h : a < 272) : shX n a = shF a := by
  unfold shX
  exact if_pos h
theorem rfX_lo {a k : Nat} (h : a < 272) : rfX a k = rfF a k := by
  unfold rfX
  exact if_neg (fun q => by omega)
theorem at_sf {n a : Nat} {h : Sh} (hn : 272 ≤ n) (h1 : a < 272) (h2 : shF a = h) : isAt (SF n) a h := ⟨Nat.lt_of_lt_of_le h1 (szF_ge hn (Nat.le_refl _)), by show shX n a = h; unfold shX; rw [if_pos h1]; exact h2⟩
theorem at_mk {n a : Nat} {h : Sh} (hn : 272 ≤ n) (h1 : decide (a < 272) = true) (h2 : shF a = h) : isAt (SF n) a h := at_sf hn (of_decide_eq_true h1) h2
def L0 : List Nat := [15, 35, 60, 80, 100, 120, 140, 160, 180, 200, 218, 224, 246, 266]
def L6 : List Nat := [12, 32, 57, 77, 97, 117, 137, 157, 177, 197, 243, 263]
def L7 : List Nat := [1, 21, 46, 66, 86, 106, 126, 146, 166, 186, 232, 252]
def L8 : List Nat := [3, 23, 48, 68, 88, 108, 128, 148, 168, 188, 234, 254]
theorem is0 {n a : Nat} (ha : a ∈ L0) (hn : 272 ≤ n) : isAt (SF n) a (.inr 0) := by
  have h : ∀ a ∈ L0, a < 272 ∧ shF a = .inr 0 := by decide +kernel
  exact at_sf hn (h a ha).1 (h a ha).2
theorem rf0_1 : ∀ a ∈ L0, rfX a 1 = some (a + 1) := by decide +kernel
theorem ar0_1 {n a : Nat} (ha : a ∈ L0) (hn : 272 ≤ n) : isAt (SF n) (a + 1) (.inl (0, 18)) := by
  have h : ∀ a ∈ L0, a + 1 < 272 ∧ shF (a + 1) = .inl (0, 18) := by decide +kernel
  exact at_sf hn (h a ha).1 (h a ha).2
theorem rf0_2 : ∀ a ∈ L0, rfX a 2 = some (a + 2) := by decide +kernel
theorem ar0_2 {n a : Nat} (ha : a ∈ L0) (hn : 272 ≤ n) : isAt (SF n) (a + 2) (.inl (0, 54)) := by
  have h : ∀ a ∈ L0, a + 2 < 272 ∧ shF (a + 2) = .inl (0, 54) := by decide +kernel
  exact at_sf hn (h a ha).1 (h a ha).2
theorem rf0_3 : ∀ a ∈ L0, rfX a 3 = some (a + 3) := by decide +kernel
theorem ar0_3 {n a : Nat} (ha : a ∈ L0) (hn : 272 ≤ n) : isAt (SF n) (a + 3) (.inl (0, 54)) := by
  have h : ∀ a ∈ L0, a + 3 < 272 ∧ shF (a + 3) = .inl (0, 54) := by decide +kernel
  exact at_sf hn (h a ha).1 (h a ha).2
theorem rf0_4 : ∀ a ∈ L0, rfX a 4 = some (a + 4) := by decide +kernel
theorem ar0_4 {n a : Nat} (ha : a ∈ L0) (hn : 272 ≤ n) : isAt (SF n) (a + 4) (.inl (0, 54)) := by
  have h : ∀ a ∈ L0, a + 4 < 272 ∧ shF (a + 4) = .inl (0, 54) := by decide +kernel
  exact at_sf hn (h a ha).1 (h a ha).2
theorem rf0_5 : ∀ a ∈ L0, rfX a 5 = some (a + 5) := by decide +kernel
theorem ar0_5 {n a : Nat} (ha : a ∈ L0) (hn : 272 ≤ n) : isAt (SF n) (a + 5) (.inl (0, 42)) := by
  have h : ∀ a ∈ L0, a + 5 < 272 ∧ shF (a + 5) = .inl (0, 42) := by decide +kernel
  exact at_sf hn (h a ha).1 (h a ha).2
theorem is6 {n a : Nat} (ha : a ∈ L6) (hn : 272 ≤ n) : isAt (SF n) a (.inr 6) := by
  have h : ∀ a ∈ L6, a < 272 ∧ shF a = .inr 6 := by decide +kernel
  exact at_sf hn (h a ha).1 (h a ha).2
theorem rf6_1 : ∀ a ∈ L6, rfX a 1 = some (a + 1) := by decide +kernel
theorem ar6_1 {n a : Nat} (ha : a ∈ L6) (hn : 272 ≤ n) : isAt (SF n) (a + 1) (.inl (0, 16)) := by
  have h : ∀ a ∈ L6, a + 1 < 272 ∧ shF (a + 1) = .inl (0, 16) := by decide +kernel
  exact at_sf hn (h a ha).1 (h a ha).2
theorem rf6_2 : ∀ a ∈ L6, rfX a 2 = some (a + 2) := by decide +kernel
theorem ar6_2 {n a : Nat} (ha : a ∈ L6) (hn : 272 ≤ n) : isAt (SF n) (a + 2) (.inl (0, 128)) := by
  have h : ∀ a ∈ L6, a + 2 < 272 ∧ shF (a + 2) = .inl (0, 128) := by decide +kernel
  exact at_sf hn (h a ha).1 (h a ha).2
theorem is7 {n a : Nat} (ha : a ∈ L7) (hn : 272 ≤ n) : isAt (SF n) a (.inr 7) := by
  have h : ∀ a ∈ L7, a < 272 ∧ shF a = .inr 7 := by decide +kernel
  exact at_sf hn (h a ha).1 (h a ha).2
theorem rf7_1 : ∀ a ∈ L7, rfX a 1 = some (a + 1) := by decide +kernel
theorem ar7_1 {n a : Nat} (ha : a ∈ L7) (hn : 272 ≤ n) : isAt (SF n) (a + 1) (.inl (0, 3)) := by
  have h : ∀ a ∈ L7, a + 1 < 272 ∧ shF (a + 1) = .inl (0, 3) := by decide +kernel
  exact at_sf hn (h a ha).1 (h a ha).2
theorem rf7_3 : ∀ a ∈ L7, rfX a 3 = some (a + 2) := by decide +kernel
theorem su7_3 : ∀ a ∈ L7, a + 2 ∈ L8 := by decide +kernel
theorem rf7_4 : ∀ a ∈ L7, rfX a 4 = some (a + 11) := by decide +kernel
theorem su7_4 : ∀ a ∈ L7, a + 11 ∈ L6 := by decide +kernel
theorem rf7_5 : ∀ a ∈ L7, rfX a 5 = some (a + 14) := by decide +kernel
theorem su7_5 : ∀ a ∈ L7, a + 14 ∈ L0 := by decide +kernel
theorem is8 {n a : Nat} (ha : a ∈ L8) (hn : 272 ≤ n) : isAt (SF n) a (.inr 8) := by
  have h : ∀ a ∈ L8, a < 272 ∧ shF a = .inr 8 := by decide +kernel
  exact at_sf hn (h a ha).1 (h a ha).2
theorem rf8_2 : ∀ a ∈ L8, rfX a 2 = some (a + 1) := by decide +kernel
theorem ar8_2 {n a : Nat} (ha : a ∈ L8) (hn : 272 ≤ n) : isAt (SF n) (a + 1) (.inl (0, 12)) := by
  have h : ∀ a ∈ L8, a + 1 < 272 ∧ shF (a + 1) = .inl (0, 12) := by decide +kernel
  exact at_sf hn (h a ha).1 (h a ha).2
theorem rf8_3 : ∀ a ∈ L8, rfX a 3 = some (a + 2) := by decide +kernel
theorem ar8_3 {n a : Nat} (ha : a ∈ L8) (hn : 272 ≤ n) : isAt (SF n) (a + 2) (.inl (0, 12)) := by
  have h : ∀ a ∈ L8, a + 2 < 272 ∧ shF (a + 2) = .inl (0, 12) := by decide +kernel
  exact at_sf hn (h a ha).1 (h a ha).2
theorem rf8_4 : ∀ a ∈ L8, rfX a 4 = some (a + 3) := by decide +kernel
theorem ar8_4 {n a : Nat} (ha : a ∈ L8) (hn : 272 ≤ n) : isAt (SF n) (a + 3) (.inl (0, 42)) := by
  have h : ∀ a ∈ L8, a + 3 < 272 ∧ shF (a + 3) = .inl (0, 42) := by decide +kernel
  exact at_sf hn (h a ha).1 (h a ha).2
theorem rf8_6 : ∀ a ∈ L8, rfX a 6 = some (a + 4) := by decide +kernel
theorem ar8_6 {n a : Nat} (ha : a ∈ L8) (hn : 272 ≤ n) : isAt (SF n) (a + 4) (.inl (0, 3)) := by
  have h : ∀ a ∈ L8, a + 4 < 272 ∧ shF (a + 4) = .inl (0, 3) := by decide +kernel
  exact at_sf hn (h a ha).1 (h a ha).2
theorem rf8_7 : ∀ a ∈ L8, rfX a 7 = some (a + 5) := by decide +kernel
theorem ar8_7 {n a : Nat} (ha : a ∈ L8) (hn : 272 ≤ n) : isAt (SF n) (a + 5) (.inl (0, 30)) := by
  have h : ∀ a ∈ L8, a + 5 < 272 ∧ shF (a + 5) = .inl (0, 30) := by decide +kernel
  exact at_sf hn (h a ha).1 (h a ha).2
theorem rf8_9 : ∀ a ∈ L8, rfX a 9 = some (a + 6) := by decide +kernel
theorem ar8_9 {n a : Nat} (ha : a ∈ L8) (hn : 272 ≤ n) : isAt (SF n) (a + 6) (.inl (0, 12)) := by
  have h : ∀ a ∈ L8, a + 6 < 272 ∧ shF (a + 6) = .inl (0, 12) := by decide +kernel
  exact at_sf hn (h a ha).1 (h a ha).2
theorem rf8_10 : ∀ a ∈ L8, rfX a 10 = some (a + 7) := by decide +kernel
theorem ar8_10 {n a : Nat} (ha : a ∈ L8) (hn : 272 ≤ n) : isAt (SF n) (a + 7) (.inl (0, 12)) := by
  have h : ∀ a ∈ L8, a + 7 < 272 ∧ shF (a + 7) = .inl (0, 12) := by decide +kernel
  exact at_sf hn (h a ha).1 (h a ha).2
theorem rf8_11 : ∀ a ∈ L8, rfX a 11 = some (a + 8) := by decide +kernel
theorem ar8_11 {n a : Nat} (ha : a ∈ L8) (hn : 272 ≤ n) : isAt (SF n) (a + 8) (.inl (0, 12)) := by
  have h : ∀ a ∈ L8, a + 8 < 272 ∧ shF (a + 8) = .inl (0, 12) := by decide +kernel
  exact at_sf hn (h a ha).1 (h a ha).2
theorem is1 {n : Nat} (hn : 272 ≤ n) : isAt (SF n) 44 (.inr 1) := at_mk hn rfl rfl
theorem rf1_0 : rfX 44 0 = some 45 := rfl
theorem ar1_0 {n : Nat} (hn : 272 ≤ n) : isAt (SF n) 45 (.inl (4, 8)) := at_mk hn rfl rfl
theorem is2 {n : Nat} (hn : 272 ≤ n) : isAt (SF n) 209 (.inr 2) := at_mk hn rfl rfl
theorem rf2_1 : rfX 209 1 = some 210 := rfl
theorem ar2_1 {n : Nat} (hn : 272 ≤ n) : isAt (SF n) 210 (.inl (0, 43)) := at_mk hn rfl rfl
theorem rf2_2 : rfX 209 2 = some 211 := rfl
theorem ar2_2 {n : Nat} (hn : 272 ≤ n) : isAt (SF n) 211 (.inl (0, 43)) := at_mk hn rfl rfl
theorem rf2_3 : rfX 209 3 = some 212 := rfl
theorem ar2_3 {n : Nat} (hn : 272 ≤ n) : isAt (SF n) 212 (.inl (0, 43)) := at_mk hn rfl rfl
theorem rf2_4 : rfX 209 4 = some 213 := rfl
theorem ar2_4 {n : Nat} (hn : 272 ≤ n) : isAt (SF n) 213 (.inl (0, 43)) := at_mk hn rfl rfl
theorem rf2_5 : rfX 209 5 = some 214 := rfl
theorem ar2_5 {n : Nat} (hn : 272 ≤ n) : isAt (SF n) 214 (.inl (0, 430)) := at_mk hn rfl rfl
theorem rf2_6 : rfX 209 6 = some 215 := rfl
theorem ar2_6 {n : Nat} (hn : 272 ≤ n) : isAt (SF n) 215 (.inl (0, 10)) := at_mk hn rfl rfl
theorem rf2_7 : rfX 209 7 = some 216 := rfl
theorem ar2_7 {n : Nat} (hn : 272 ≤ n) : isAt (SF n) 216 (.inl (0, 10)) := at_mk hn rfl rfl
theorem rf2_8 : rfX 209 8 = some 217 := rfl
theorem ar2_8 {n : Nat} (hn : 272 ≤ n) : isAt (SF n) 217 (.inl (0, 10)) := at_mk hn rfl rfl
theorem is3 {n : Nat} (hn : 272 ≤ n) : isAt (SF n) 230 (.inr 3) := at_mk hn rfl rfl
theorem rf3_0 : rfX 230 0 = some 231 := rfl
theorem ar3_0 {n : Nat} (hn : 272 ≤ n) : isAt (SF n) 231 (.inl (0, 80)) := at_mk hn rfl rfl
theorem is4 {n : Nat} (hn : 272 ≤ n) : isAt (SF n) 208 (.inr 4) := at_mk hn rfl rfl
theorem rf4_0 : rfX 208 0 = some 209 := rfl
theorem is5 {n : Nat} (hn : 272 ≤ n) : isAt (SF n) 41 (.inr 5) := at_mk hn rfl rfl
theorem rf5_0 : rfX 41 0 = some 42 := rfl
theorem ar5_0 {n : Nat} (hn : 272 ≤ n) : isAt (SF n) 42 (.inl (0, 500)) := at_mk hn rfl rfl
theorem rf5_10 : rfX 41 10 = some 43 := rfl
theorem ar5_10 {n : Nat} (hn : 272 ≤ n) : isAt (SF n) 43 (.inl (0, 3)) := at_mk hn rfl rfl
theorem is9 {n : Nat} (hn : 272 ≤ n) : isAt (SF n) 0 (.inr 9) := at_mk hn rfl rfl
theorem rf9_0 : rfX 0 0 = some 1 := rfl
theorem su9_0 : 1 ∈ L7 := by decide
theorem rf9_1 : rfX 0 1 = some 21 := rfl
theorem su9_1 : 21 ∈ L7 := by decide
theorem rf9_2 : rfX 0 2 = some 41 := rfl
theorem rf9_3 : rfX 0 3 = some 44 := rfl
theorem rf9_4 : rfX 0 4 = some 206 := rfl
theorem ar9_4 {n : Nat} (hn : 272 ≤ n) : isAt (SF n) 206 (.inl (4, 2)) := at_mk hn rfl rfl
theorem rf9_5 : rfX 0 5 = some 207 := rfl
theorem ar9_5 {n : Nat} (hn : 272 ≤ n) : isAt (SF n) 207 (.inl (1, 2)) := at_mk hn rfl rfl
theorem rf9_6 : rfX 0 6 = some 208 := rfl
theorem rf9_7 : rfX 0 7 = some 218 := rfl
theorem su9_7 : 218 ∈ L0 := by decide
theorem rf9_8 : rfX 0 8 = some 224 := rfl
theorem su9_8 : 224 ∈ L0 := by decide
theorem rf9_9 : rfX 0 9 = some 230 := rfl
theorem el45 : ∀ j, j < 8 → rfX 45 j = some (46 + 20 * j) ∧ 46 + 20 * j ∈ L7 := by decide +kernel
theorem el206 : ∀ j, j < 2 → rfX 206 j = some (232 + 20 * j) ∧ 232 + 20 * j ∈ L7 := by decide +kernel
