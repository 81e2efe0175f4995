-- ===== PURE LAYER: history: keep / keeps =====
def slotA (G : GH) : Nat := 46 + 20 * (G 44 1).toNat
/-- what the class's keep does -/
def KeptC (G G' : GH) (W : WT) : Prop := (∀ x, x ≠ 44 → ¬ (slotA G ≤ x ∧ x < slotA G + 20) → G' x = G x) ∧ G' 44 1 = (G 44 1 + 1) % 8 ∧ G' 44 2 = min (G 44 2 + 1) 8 ∧ RepS G' (slotA G) W
theorem c_keep {j : Int} {G : GH} {W : WT} {Q : GH → Prop} (hW : WF j W) (hR : RepS G 1 W) (hH : HistR j G) (h : ∀ G', KeptC G G' W → Q G') : f_X1_keep 1 G Q := by
  obtain ⟨h1, h2, h3, h4⟩ := hH
  refine ⟨by omega, c_copy7 (by omega) (by rw [hR.sp]; exact hW.sp) (by rw [hR.tu]; exact hW.tu) (fun G1 o1 c1 => ?_)⟩
  have e44 : G1 44 = G 44 := o1 44 (by omega)
  rw [e44]
  refine ⟨⟨by omega, by omega⟩, by omega, fun G2 e2 => ?_⟩
  have e442 : G2 44 2 = G 44 2 := by rw [e2, upG_nk (by omega), e44]
  rw [e442]
  refine ⟨⟨by omega, by omega⟩, fun G3 e3 => h G3 ⟨fun x hx hs => ?_, ?_, ?_, ?_⟩⟩
  · rw [e3, up_na hx, e2, up_na hx]; exact o1 x hs
  · rw [e3, upG_nk (by omega), e2, upG_same]
  · rw [e3, upG_same]
  · have sl : 46 ≤ slotA G := by unfold slotA; omega
    refine (RepS.copy hW c1 hR).congr (fun x x1 x2 => ?_)
    rw [e3, up_na (by omega), e2, up_na (by omega)]
/-- what the reference's keeps does -/
def KeptM (G G' : GH) : Prop := (∀ x, x ≠ 272 → x ≠ 277 → G' x = G x) ∧ (∀ k, k ≠ 6 → G' 272 k = G 272 k) ∧ G' 272 6 = min (G 272 6 + 1) 8 ∧
  (∀ i, 0 ≤ i → i < G' 272 6 - 1 → EqW (undW G' i) (undW G (if G 272 6 < 8 then i else i + 1))) ∧ EqW (undW G' (G' 272 6 - 1)) (G 273)
/-- the history after both kept -/
theorem HistR.kept {j : Int} {G G3 : GH} {W : WT} (hH : HistR j G) (hW : WF j W) (h1 : G3 44 1 = (G 44 1 + 1) % 8) (h2 : G3 44 2 = min (G 44 2 + 1) 8) (hr : ∀ x, 46 ≤ x → x ≤ 205 → ¬ (slotA G ≤ x ∧ x < slotA G + 20) → G3 x = G x) (hs : RepS G3 (slotA G) W)
    (h6 : G3 272 6 = min (G 272 6 + 1) 8) (hu : ∀ i, 0 ≤ i → i < G3 272 6 - 1 → EqW (undW G3 i) (undW G (if G 272 6 < 8 then i else i + 1))) (hl : EqW (undW G3 (G3 272 6 - 1)) W) : HistR j G3 := by
  obtain ⟨q1, q2, q3, q4⟩ := hH
  refine ⟨by omega, by omega, by omega, fun i i0 i1 => ?_⟩
  by_cases c : i < G3 272 6 - 1
  · have e := hu i i0 c
    by_cases c8 : G 272 6 < 8
    · rw [if_pos c8] at e
      obtain ⟨w, r⟩ := q4 i i0 (by omega)
      refine ⟨e.wf w, e.rep w ?_⟩
      have ea : ringA G3 i = ringA G i := by unfold ringA; omega
      rw [ea]
      refine r.congr (fun x x1 x2 => hr x ?_ ?_ ?_)
      · unfold ringA at x1; omega
      · unfold ringA at x2; omega
      · unfold ringA at x1 x2; unfold slotA; omega
    · rw [if_neg c8] at e
      obtain ⟨w, r⟩ := q4 (i + 1) (by omega) (by omega)
      refine ⟨e.wf w, e.rep w ?_⟩
      have ea : ringA G3 i = ringA G (i + 1) := by unfold ringA; omega
      rw [ea]
      refine r.congr (fun x x1 x2 => hr x ?_ ?_ ?_)
      · unfold ringA at x1; omega
      · unfold ringA at x2; omega
      · unfold ringA at x1 x2; unfold slotA; omega
  · have ei : i = G3 272 6 - 1 := by omega
    rw [ei]
    refine ⟨hl.wf hW, hl.rep hW ?_⟩
    have ea : ringA G3 (G3 272 6 - 1) = slotA G := by unfold ringA slotA; omega
    rw [ea]; exact hs
