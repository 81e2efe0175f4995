-- ===== PURE LAYER: history: keep / keeps =====
def slotA (G : GH) : Nat := 46 + 20 * (G 44 1).toNat
/-- what the class's keep does -/
def KeptC (G G' : GH) (W : WT) : Prop := (∀ x, x ≠ 44 → ¬ (slotA G ≤ x ∧ x < slotA G + 20) → G' x = G x) ∧ G' 44 1 = (G 44 1 + 1) % 8 ∧ G' 44 2 = min (G 44 2 + 1) 8 ∧ RepS G' (slotA G) W
theorem c_keep {j : Int} {G : GH} {W : WT} {Q : GH → Prop} (hW : WF j W) (hR : RepS G 1 W) (hH : HistR j G) (h : ∀ G', KeptC G G' W → Q G') : f_X1_keep 1 G Q := by
  obtain ⟨h1, h2, h3, h4⟩ := hH
  refine ⟨by omega, c_copy7 (by omega) (by rw [hR.sp]; exact hW.sp) (by rw [hR.tu]; exact hW.tu) (fun G1 o1 c1 => ?_)⟩
  have e44 : G1 44 = G 44 := o1 44 (by omega)
  rw [e44]
  refine ⟨⟨by omega, by omega⟩, by omega, fun G2 e2 => ?_⟩
  have e442 : G2 44 2 = G 44 2 := by rw [e2, upG_nk (by omega), e44]
  rw [e442]
  refine ⟨⟨by omega, by omega⟩, fun G3 e3 => h G3 ⟨fun x hx hs => ?_, ?_, ?_, ?_⟩⟩
  · rw [e3, up_na hx, e2, up_na hx]; exact o1 x hs
  · rw [e3, upG_nk (by omega), e2, upG_same]
  · rw [e3, upG_same]
  · have sl : 46 ≤ slotA G := by unfold slotA; omega
    refine (RepS.copy hW c1 hR).congr (fun x x1 x2 => ?_)
    rw [e3, up_na (by omega), e2, up_na (by omega)]
/-- what the reference's keeps does -/
def KeptM (G G' : GH) : Prop := (∀ x, x ≠ 272 → x ≠ 277 → G' x = G x) ∧ (∀ k, k ≠ 6 → G' 272 k = G 272 k) ∧ G' 272 6 = min (G 272 6 + 1) 8 ∧
  (∀ i, 0 ≤ i → i < G' 272 6 - 1 → EqW (undW G' i) (undW G (if G 272 6 < 8 then i else i + 1))) ∧ EqW (undW G' (G' 272 6 - 1)) (G 273)
theorem m_keeps {G : GH} {Q : GH → Prop} (h6 : 0 ≤ G 272 6 ∧ G 272 6 ≤ 8) (h : ∀ G', KeptM G G' → Q G') : f_X10_keeps G Q := by
  unfold f_X10_keeps
  refine joinI1 (P := fun G4 => (∀ x, x ≠ 272 → x ≠ 277 → G4 x = G x) ∧ (∀ k, k ≠ 6 → G4 272 k = G 272 k) ∧ (0 ≤ G4 272 6 ∧ G4 272 6 ≤ 7) ∧ G4 272 6 + 1 = min (G 272 6 + 1) 8 ∧ (∀ i : Int, 0 ≤ i → i < G4 272 6 → EqW (undW G4 i) (undW G (if G 272 6 < 8 then i else i + 1)))) (fun G4 hP => ?_) (fun k hk => ⟨fun c => ?_, fun c => ?_⟩)
  · obtain ⟨p1, p2, p3, p4, p5⟩ := hP
    refine up_loop (fun x G5 => (∀ y, y ≠ 277 → G5 y = G4 y) ∧ (∀ i : Nat, (i : Int) < 456 * G4 272 6 → G5 277 i = G4 277 i) ∧ (∀ i : Nat, (i : Int) < x → G5 277 ((456 * G4 272 6).toNat + i) = G 273 i)) 0 456 (by omega) ⟨fun y hy => rfl, fun i hi => rfl, fun i hi => by omega⟩ (fun k x G5 h0 h1 hI kk => ?_)
    obtain ⟨i1, i2, i3⟩ := hI
    have e272 : G5 272 = G4 272 := i1 272 (by omega)
    rw [e272]
    refine ⟨fun c => ⟨⟨by omega, by omega⟩, fun G6 e6 => h G6 ⟨fun y y1 y2 => ?_, fun k hk => ?_, ?_, fun i i0 i1' => ?_, ?_⟩⟩, fun c => ⟨⟨h0, c⟩, ⟨by omega, by omega⟩, fun G7 e7 => kk G7 c ⟨fun y hy => ?_, fun i hi => ?_, fun i hi => ?_⟩⟩⟩
    · rw [e6, up_na y1, i1 y y2, p1 y y1 y2]
    · rw [e6, upG_nk hk, e272, p2 k hk]
    · rw [e6, upG_same]; exact p4
    · have e9 : G6 272 6 = G4 272 6 + 1 := by rw [e6, upG_same]
      rw [e9] at i1'
      have := p5 i i0 (by omega)
      refine EqW.trans this (fun k hk => ?_)
      unfold undW
      rw [e6, upG_na (by omega)]
      exact i2 _ (by omega)
    · have e9 : G6 272 6 = G4 272 6 + 1 := by rw [e6, upG_same]
      rw [e9]
      intro k hk
      unfold undW
      rw [e6, upG_na (by omega), show (456 * (G4 272 6 + 1 - 1)).toNat = (456 * G4 272 6).toNat by omega]
      exact i3 k (by omega)
    · rw [e7, up_na hy]; exact i1 y hy
    · rw [e7, upG_nk (by omega)]; exact i2 i hi
    · by_cases c2 : (i : Int) = x
      · have : (456 * G4 272 6 + x).toNat = (456 * G4 272 6).toNat + i := by omega
        rw [e7, this, upG_same, show x.toNat = i by omega, i1 273 (by omega), p1 273 (by omega) (by omega)]
      · rw [e7, upG_nk (by omega)]; exact i3 i (by omega)
  · refine hk _ ⟨fun x _ _ => rfl, fun k _ => rfl, by omega, by omega, fun i i0 i1 => ?_⟩
    rw [if_pos (by omega)]
    exact fun k _ => rfl
  · refine ⟨⟨by omega, by omega⟩, fun G8 e8 => ?_⟩
    have e86 : G8 272 6 = 7 := by rw [e8, upG_same]; omega
    refine up_loop (fun x G9 => (∀ y, y ≠ 277 → G9 y = G8 y) ∧ (∀ i : Nat, (i : Int) < x → G9 277 i = G 277 (i + 456)) ∧ (∀ i : Nat, x ≤ (i : Int) → G9 277 i = G 277 i)) 0 3192 (by omega) ⟨fun y hy => rfl, fun i hi => by omega, fun i hi => by rw [e8, upG_na (by omega)]⟩ (fun k x G9 h0 h1 hI kk => ?_)
    obtain ⟨i1, i2, i3⟩ := hI
    have e96 : G9 272 6 = 7 := by rw [i1 272 (by omega), e86]
    rw [e96]
    refine ⟨⟨by omega, by omega⟩, fun c2 => hk _ ⟨fun y y1 y2 => ?_, fun k hk => ?_, by omega, by omega, fun i i0 i4 => ?_⟩, fun c2 => ⟨⟨by omega, by omega⟩, ⟨by omega, by omega⟩, fun G10 e10 => kk G10 (by omega) ⟨fun y hy => ?_, fun i hi => ?_, fun i hi => ?_⟩⟩⟩
    · rw [i1 y y2, e8, up_na y1]
    · rw [i1 272 (by omega), e8, upG_nk hk]
    · rw [if_neg (by omega)]
      intro k hk
      unfold undW
      rw [i2 _ (by omega), show (456 * (i + 1)).toNat + k = (456 * i).toNat + k + 456 by omega]
    · rw [e10, up_na hy]; exact i1 y hy
    · by_cases c3 : (i : Int) = x
      · rw [e10, show i = x.toNat by omega, upG_same, i3 _ (by omega), show (x + 456).toNat = x.toNat + 456 by omega]
      · rw [e10, upG_nk (by omega)]; exact i2 i (by omega)
    · rw [e10, upG_nk (by omega)]; exact i3 i (by omega)
/-- the history after both kept -/
theorem HistR.kept {j : Int} {G G3 : GH} {W : WT} (hH : HistR j G) (hW : WF j W) (h1 : G3 44 1 = (G 44 1 + 1) % 8) (h2 : G3 44 2 = min (G 44 2 + 1) 8) (hr : ∀ x, 46 ≤ x → x ≤ 205 → ¬ (slotA G ≤ x ∧ x < slotA G + 20) → G3 x = G x) (hs : RepS G3 (slotA G) W)
    (h6 : G3 272 6 = min (G 272 6 + 1) 8) (hu : ∀ i, 0 ≤ i → i < G3 272 6 - 1 → EqW (undW G3 i) (undW G (if G 272 6 < 8 then i else i + 1))) (hl : EqW (undW G3 (G3 272 6 - 1)) W) : HistR j G3 := by
  obtain ⟨q1, q2, q3, q4⟩ := hH
  refine ⟨by omega, by omega, by omega, fun i i0 i1 => ?_⟩
  by_cases c : i < G3 272 6 - 1
  · have e := hu i i0 c
    by_cases c8 : G 272 6 < 8
    · rw [if_pos c8] at e
      obtain ⟨w, r⟩ := q4 i i0 (by omega)
      refine ⟨e.wf w, e.rep w ?_⟩
      have ea : ringA G3 i = ringA G i := by unfold ringA; omega
      rw [ea]
      refine r.congr (fun x x1 x2 => hr x ?_ ?_ ?_)
      · unfold ringA at x1; omega
      · unfold ringA at x2; omega
      · unfold ringA at x1 x2; unfold slotA; omega
    · rw [if_neg c8] at e
      obtain ⟨w, r⟩ := q4 (i + 1) (by omega) (by omega)
      refine ⟨e.wf w, e.rep w ?_⟩
      have ea : ringA G3 i = ringA G (i + 1) := by unfold ringA; omega
      rw [ea]
      refine r.congr (fun x x1 x2 => hr x ?_ ?_ ?_)
      · unfold ringA at x1; omega
      · unfold ringA at x2; omega
      · unfold ringA at x1 x2; unfold slotA; omega
  · have ei : i = G3 272 6 - 1 := by omega
    rw [ei]
    refine ⟨hl.wf hW, hl.rep hW ?_⟩
    have ea : ringA G3 (G3 272 6 - 1) = slotA G := by unfold ringA slotA; omega
    rw [ea]; exact hs
