-- ===== the order in which references are put; written by wip/whole/gennew.py =====
def putL : List (Nat × Nat × Nat) := [(1, 1, 2), (3, 2, 4), (3, 3, 5), (3, 4, 6), (3, 6, 7), (3, 7, 8), (3, 9, 9), (3, 10, 10), (3, 11, 11), (1, 3, 3), (12, 1, 13), (12, 2, 14), (1, 4, 12), (15, 1, 16), (15, 2, 17), (15, 3, 18), (15, 4, 19), (15, 5, 20), (1, 5, 15), (0, 0, 1), (21, 1, 22), (23, 2, 24), (23, 3, 25), (23, 4, 26), (23, 6, 27), (23, 7, 28), (23, 9, 29), (23, 10, 30), (23, 11, 31), (21, 3, 23), (32, 1, 33), (32, 2, 34), (21, 4, 32), (35, 1, 36), (35, 2, 37), (35, 3, 38), (35, 4, 39), (35, 5, 40), (21, 5, 35), (0, 1, 21), (41, 0, 42), (41, 10, 43), (0, 2, 41), (44, 0, 45), (46, 1, 47), (48, 2, 49), (48, 3, 50), (48, 4, 51), (48, 6, 52), (48, 7, 53), (48, 9, 54), (48, 10, 55), (48, 11, 56), (46, 3, 48), (57, 1, 58), (57, 2, 59), (46, 4, 57), (60, 1, 61), (60, 2, 62), (60, 3, 63), (60, 4, 64), (60, 5, 65), (46, 5, 60), (45, 0, 46), (66, 1, 67), (68, 2, 69), (68, 3, 70), (68, 4, 71), (68, 6, 72), (68, 7, 73), (68, 9, 74), (68, 10, 75), (68, 11, 76), (66, 3, 68), (77, 1, 78), (77, 2, 79), (66, 4, 77), (80, 1, 81), (80, 2, 82), (80, 3, 83), (80, 4, 84), (80, 5, 85), (66, 5, 80), (45, 1, 66), (86, 1, 87), (88, 2, 89), (88, 3, 90), (88, 4, 91), (88, 6, 92), (88, 7, 93), (88, 9, 94), (88, 10, 95), (88, 11, 96), (86, 3, 88), (97, 1, 98), (97, 2, 99), (86, 4, 97), (100, 1, 101), (100, 2, 102), (100, 3, 103), (100, 4, 104), (100, 5, 105), (86, 5, 100), (45, 2, 86), (106, 1, 107), (108, 2, 109), (108, 3, 110), (108, 4, 111), (108, 6, 112), (108, 7, 113), (108, 9, 114), (108, 10, 115), (108, 11, 116), (106, 3, 108), (117, 1, 118), (117, 2, 119), (106, 4, 117), (120, 1, 121), (120, 2, 122), (120, 3, 123), (120, 4, 124), (120, 5, 125), (106, 5, 120), (45, 3, 106), (126, 1, 127), (128, 2, 129), (128, 3, 130), (128, 4, 131), (128, 6, 132), (128, 7, 133), (128, 9, 134), (128, 10, 135), (128, 11, 136), (126, 3, 128), (137, 1, 138), (137, 2, 139), (126, 4, 137), (140, 1, 141), (140, 2, 142), (140, 3, 143), (140, 4, 144), (140, 5, 145), (126, 5, 140), (45, 4, 126), (146, 1, 147), (148, 2, 149), (148, 3, 150), (148, 4, 151), (148, 6, 152), (148, 7, 153), (148, 9, 154), (148, 10, 155), (148, 11, 156), (146, 3, 148), (157, 1, 158), (157, 2, 159), (146, 4, 157), (160, 1, 161), (160, 2, 162), (160, 3, 163), (160, 4, 164), (160, 5, 165), (146, 5, 160), (45, 5, 146), (166, 1, 167), (168, 2, 169), (168, 3, 170), (168, 4, 171), (168, 6, 172), (168, 7, 173), (168, 9, 174), (168, 10, 175), (168, 11, 176), (166, 3, 168), (177, 1, 178), (177, 2, 179), (166, 4, 177), (180, 1, 181), (180, 2, 182), (180, 3, 183), (180, 4, 184), (180, 5, 185), (166, 5, 180), (45, 6, 166), (186, 1, 187), (188, 2, 189), (188, 3, 190), (188, 4, 191), (188, 6, 192), (188, 7, 193), (188, 9, 194), (188, 10, 195), (188, 11, 196), (186, 3, 188), (197, 1, 198), (197, 2, 199), (186, 4, 197), (200, 1, 201), (200, 2, 202), (200, 3, 203), (200, 4, 204), (200, 5, 205), (186, 5, 200), (45, 7, 186), (0, 3, 44), (0, 4, 206), (0, 5, 207), (209, 1, 210), (209, 2, 211), (209, 3, 212), (209, 4, 213), (209, 5, 214), (209, 6, 215), (209, 7, 216), (209, 8, 217), (208, 0, 209), (0, 6, 208), (218, 1, 219), (218, 2, 220), (218, 3, 221), (218, 4, 222), (218, 5, 223), (0, 7, 218), (224, 1, 225), (224, 2, 226), (224, 3, 227), (224, 4, 228), (224, 5, 229), (0, 8, 224), (230, 0, 231), (0, 9, 230), (232, 1, 233), (234, 2, 235), (234, 3, 236), (234, 4, 237), (234, 6, 238), (234, 7, 239), (234, 9, 240), (234, 10, 241), (234, 11, 242), (232, 3, 234), (243, 1, 244), (243, 2, 245), (232, 4, 243), (246, 1, 247), (246, 2, 248), (246, 3, 249), (246, 4, 250), (246, 5, 251), (232, 5, 246), (206, 0, 232), (252, 1, 253), (254, 2, 255), (254, 3, 256), (254, 4, 257), (254, 6, 258), (254, 7, 259), (254, 9, 260), (254, 10, 261), (254, 11, 262), (252, 3, 254), (263, 1, 264), (263, 2, 265), (252, 4, 263), (266, 1, 267), (266, 2, 268), (266, 3, 269), (266, 4, 270), (266, 5, 271), (252, 5, 266), (206, 1, 252)]
def rfP (p a k : Nat) : Option Nat := ((putL.take p).find? (fun x => x.1 == a && x.2.1 == k)).map (·.2.2)
theorem rfP_none {p n : Nat} (h : ((putL.take p).all fun x => x.1 != n) = true) : ∀ k, rfP p n k = none := by
  intro k
  unfold rfP
  rw [List.find?_eq_none.mpr]
  · rfl
  · intro x hx
    have := List.all_eq_true.mp h x hx
    simp only [bne_iff_ne, ne_eq] at this
    simp [this]
theorem rfP_fw {p n : Nat} (h : ((putL.take p).all fun x => decide (x.2.2 < n)) = true) : ∀ a, a < n → ∀ k q, rfP p a k = some q → q < n := by
  intro a _ k q hq
  unfold rfP at hq
  rw [Option.map_eq_some_iff] at hq
  obtain ⟨x, hx, rfl⟩ := hq
  exact of_decide_eq_true (List.all_eq_true.mp h x (List.mem_of_find?_eq_some hx))
theorem rfP_s {p a k q : Nat} (h : putL[p]? = some (a, k, q)) (hn : rfP p a k = none) : ∀ a' k', rfP (p + 1) a' k' = if a' = a ∧ k' = k then some q else rfP p a' k' := by
  intro a' k'
  unfold rfP at hn ⊢
  rw [List.take_add_one, List.find?_append, h]
  rw [Option.map_eq_none_iff] at hn
  by_cases e : a' = a ∧ k' = k
  · obtain ⟨rfl, rfl⟩ := e
    rw [hn]
    simp
  · rw [if_neg e]
    have e2 : ((a == a') && (k == k')) = false := by
      rw [Bool.and_eq_false_iff]
      by_cases e3 : a' = a
      · right; simp; intro e4; exact e ⟨e3, e4.symm⟩
      · left; simp; intro e4; exact e3 e4.symm
    simp [e2]
theorem rfP_far {p a k : Nat} (h : 28 ≤ k) : rfP p a k = none := by
  have h9 : ∀ x ∈ putL, x.2.1 < 28 := by decide +kernel
  unfold rfP
  rw [List.find?_eq_none.mpr]
  · rfl
  · intro x hx
    have h8 := h9 x (List.mem_of_mem_take hx)
    have : x.2.1 ≠ k := by omega
    simp [this]
theorem rfF_far {a k : Nat} (h : 28 ≤ k) : rfF a k = none := by
  have h9 : ∀ l ∈ rfL, l.length ≤ 28 := by decide +kernel
  unfold rfF
  rw [List.getD_eq_getElem?_getD, List.getD_eq_getElem?_getD]
  cases h2 : rfL[a]? with
  | none => simp
  | some l =>
    have := h9 l (List.mem_of_getElem? h2)
    simp only [Option.getD_some]
    rw [List.getElem?_eq_none (by omega)]; rfl
theorem rfP_ok : ∀ x ∈ putL, rfF x.1 x.2.1 = some x.2.2 := by decide +kernel
theorem rfP_inC : ((rfL.take 272).zipIdx.all fun ra => ra.1.zipIdx.all fun ok => ok.1.isNone || (putL.take 271).any fun x => x.1 == ra.2 && x.2.1 == ok.2) = true := by decide +kernel
theorem rfP_allC : ∀ a, a < 272 → ∀ k, rfF a k = rfP 271 a k := by
  intro a ha k
  unfold rfP
  cases hf : (putL.take 271).find? (fun x => x.1 == a && x.2.1 == k) with
  | some x =>
    have h1 := rfP_ok x (List.mem_of_mem_take (List.mem_of_find?_eq_some hf))
    have h2 := List.find?_some hf
    simp only [Bool.and_eq_true, beq_iff_eq] at h2
    rw [← h2.1, ← h2.2, h1]; rfl
  | none =>
    show _ = none
    cases hq : rfF a k with
    | none => rfl
    | some q =>
      exfalso
      unfold rfF at hq
      rw [List.getD_eq_getElem?_getD, List.getD_eq_getElem?_getD] at hq
      cases h2 : rfL[a]? with
      | none => rw [h2] at hq; simp at hq
      | some row =>
        rw [h2] at hq
        simp only [Option.getD_some] at hq
        cases h3 : row[k]? with
        | none => rw [h3] at hq; simp at hq
        | some o =>
          rw [h3] at hq
          simp only [Option.getD_some] at hq
          subst hq
          have h4 := List.all_eq_true.mp rfP_inC (row, a) (List.mem_zipIdx_iff_getElem?.mpr (by rw [List.getElem?_take_of_lt ha]; exact h2))
          have h5 := List.all_eq_true.mp h4 (some q, k) (List.mem_zipIdx_iff_getElem?.mpr h3)
          simp only [Option.isNone_some, Bool.false_or, List.any_eq_true] at h5
          obtain ⟨x, hx, h6⟩ := h5
          exact absurd h6 (List.find?_eq_none.mp hf x hx)
theorem fv_X0 : ∀ j, j < 6 → defaultValue (tyX0 j) = vp_V (fv0 0) j := by decide +kernel
theorem cpN_X0 : clsPlain yX0_init := ⟨by decide +kernel, by decide +kernel⟩
theorem pnN_X0 : pnum yX0_init = some 0 := by decide +kernel
theorem fv_X1 : ∀ j, j < 3 → defaultValue (tyX1 j) = vp_V (fv0 1) j := by decide +kernel
theorem cpN_X1 : clsPlain yX1_init := ⟨by decide +kernel, by decide +kernel⟩
theorem pnN_X1 : pnum yX1_init = some 0 := by decide +kernel
theorem fv_X2 : ∀ j, j < 9 → defaultValue (tyX2 j) = vp_V (fv0 2) j := by decide +kernel
theorem cpN_X2 : clsPlain yX2_init := ⟨by decide +kernel, by decide +kernel⟩
theorem pnN_X2 : pnum yX2_init = some 0 := by decide +kernel
theorem fv_X3 : ∀ j, j < 2 → defaultValue (tyX3 j) = vp_V (fv0 3) j := by decide +kernel
theorem cpN_X3 : clsPlain yX3_init := ⟨by decide +kernel, by decide +kernel⟩
theorem pnN_X3 : pnum yX3_init = some 0 := by decide +kernel
theorem fv_X4 : ∀ j, j < 4 → defaultValue (tyX4 j) = vp_V (fv0 4) j := by decide +kernel
theorem cpN_X4 : clsPlain yX4_init := ⟨by decide +kernel, by decide +kernel⟩
theorem pnN_X4 : pnum yX4_init = some 0 := by decide +kernel
theorem fv_X5 : ∀ j, j < 11 → defaultValue (tyX5 j) = vp_V (fv0 5) j := by decide +kernel
theorem cpN_X5 : clsPlain yX5_init := ⟨by decide +kernel, by decide +kernel⟩
theorem pnN_X5 : pnum yX5_init = some 0 := by decide +kernel
theorem fv_X6 : ∀ j, j < 3 → defaultValue (tyX6 j) = vp_V (fv0 6) j := by decide +kernel
theorem cpN_X6 : clsPlain yX6_init := ⟨by decide +kernel, by decide +kernel⟩
theorem pnN_X6 : pnum yX6_init = some 0 := by decide +kernel
theorem fv_X7 : ∀ j, j < 10 → defaultValue (tyX7 j) = vp_V (fv0 7) j := by decide +kernel
theorem cpN_X7 : clsPlain yX7_init := ⟨by decide +kernel, by decide +kernel⟩
theorem pnN_X7 : pnum yX7_init = some 0 := by decide +kernel
theorem fv_X8 : ∀ j, j < 12 → defaultValue (tyX8 j) = vp_V (fv0 8) j := by decide +kernel
theorem cpN_X8 : clsPlain yX8_init := ⟨by decide +kernel, by decide +kernel⟩
theorem pnN_X8 : pnum yX8_init = some 0 := by decide +kernel
theorem fv_X9 : ∀ j, j < 10 → defaultValue (tyX9 j) = vp_V (fv0 9) j := by decide +kernel
theorem cpN_X9 : clsPlain yX9_init := ⟨by decide +kernel, by decide +kernel⟩
theorem pnN_X9 : pnum yX9_init = some 0 := by decide +kernel
theorem nx_X1_17 : (RX1, 17, yX7_init, "HymnBoards") ∈ nestW := List.mem_of_getElem? (i := 5) rfl
theorem nx_X4_11 : (RX4, 11, yX2_init, "HymnBoards") ∈ nestW := List.mem_of_getElem? (i := 7) rfl
theorem nx_X7_17 : (RX7, 17, yX8_init, "HymnBoards") ∈ nestW := List.mem_of_getElem? (i := 1) rfl
theorem nx_X7_24 : (RX7, 24, yX6_init, "HymnBoards") ∈ nestW := List.mem_of_getElem? (i := 2) rfl
theorem nx_X7_31 : (RX7, 31, yX0_init, "HymnBoards") ∈ nestW := List.mem_of_getElem? (i := 3) rfl
theorem nx_X9_11 : (RX9, 11, yX7_init, "HymnBoards") ∈ nestW := List.mem_of_getElem? (i := 0) rfl
theorem nx_X9_21 : (RX9, 21, yX5_init, "HymnBoards") ∈ nestW := List.mem_of_getElem? (i := 4) rfl
theorem nx_X9_43 : (RX9, 43, yX4_init, "HymnBoards") ∈ nestW := List.mem_of_getElem? (i := 6) rfl
theorem nx_X9_50 : (RX9, 50, yX0_init, "HymnBoards") ∈ nestW := List.mem_of_getElem? (i := 8) rfl
theorem nx_X9_60 : (RX9, 60, yX3_init, "HymnBoards") ∈ nestW := List.mem_of_getElem? (i := 9) rfl
