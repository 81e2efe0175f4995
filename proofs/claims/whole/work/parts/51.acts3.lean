-- ===== PURE LAYER: undo, saveSnapshot, restoreSnapshot =====
section A3
variable {j : Nat} {G : GH} {K : GH → Prop} {L : Nat} {xs : Nat → Int32} {i4 : Int}
theorem arm_45 (h : Rel j G) (hK : ∀ G', Rel (j + 1) G' → K G') : f_law_45 L xs i4 G K := by
  obtain ⟨q1, q2, q3, q4⟩ := h.hi
  have hh := h
  obtain ⟨s1, s2, s3, s4, s5, s6, s7, s8⟩ := hh
  refine ⟨fun c => ?_, fun c => ?_⟩
  · refine ⟨⟨by omega, by omega⟩, by omega, fun G1 e1 => ?_⟩
    have n1 : G1 44 1 = (G 44 1 + 8 - 1) % 8 := by rw [e1, upG_same]
    have sl : 46 + 20 * (G1 44 1).toNat = ringA G (G 272 6 - 1) := by unfold ringA; omega
    have slr : 46 ≤ ringA G (G 272 6 - 1) ∧ ringA G (G 272 6 - 1) ≤ 186 := by unfold ringA; omega
    obtain ⟨hWp, hRp⟩ := q4 (G 272 6 - 1) (by omega) (by omega)
    rw [sl]
    have hR1 : RepS G1 (ringA G (G 272 6 - 1)) (undW G (G 272 6 - 1)) := hRp.congr (fun x x1 x2 => by rw [e1, up_na (by unfold ringA at x1; omega)])
    refine ⟨by omega, c_copy7 (by omega) (by rw [hR1.sp]; exact hWp.sp) (by rw [hR1.tu]; exact hWp.tu) (fun G2 o2 c2 => ?_)⟩
    have r2 := RepS.copy hWp c2 hR1
    have a2 : G2 44 2 = G 44 2 := by rw [o2 44 (by omega), e1, upG_nk (by omega)]
    rw [a2]
    refine ⟨⟨by omega, by omega⟩, fun G3 e3 => ?_⟩
    have k3 : ∀ x, x ≠ 44 → ¬ (1 ≤ x ∧ x < 21) → G3 x = G x := fun x x1 x2 => by rw [e3, up_na x1, o2 x (by omega), e1, up_na x1]
    intro G4 e4
    have a4 : G4 272 6 = G 272 6 := by rw [e4, upG_nk (by omega), k3 272 (by omega) (by omega)]
    refine ⟨fun _ => ⟨by rw [a4]; exact ⟨by omega, by omega⟩, fun G5 e5 => ?_⟩, fun c2 => by omega⟩
    have a5 : G5 272 6 = G 272 6 - 1 := by rw [e5, upG_same, a4]
    have k5 : ∀ x, x ≠ 272 → G5 x = G3 x := fun x x1 => by rw [e5, up_na x1, e4, up_na x1]
    refine up_loop (fun x G6 => (∀ y, y ≠ 273 → G6 y = G5 y) ∧ (∀ k : Nat, (k : Int) < x → G6 273 k = undW G (G 272 6 - 1) k)) 0 456 (by omega) ⟨fun _ _ => rfl, fun k k0 => by omega⟩ (fun k x G6 h0 h1 hI kk => ?_)
    obtain ⟨i1, i2⟩ := hI
    have a6 : G6 272 6 = G 272 6 - 1 := by rw [i1 272 (by omega), a5]
    rw [a6]
    refine ⟨fun c2 => ?_, fun c2 => ⟨⟨by omega, by omega⟩, ⟨by omega, by omega⟩, fun G7 e7 => kk G7 c2 ⟨fun y hy => by rw [e7, up_na hy]; exact i1 y hy, fun k k0 => ?_⟩⟩⟩
    · have d3 : G3 44 2 = G 272 6 - 1 := by rw [e3, upG_same]; omega
      refine tail0_ok d3 (hK _ ?_)
      have g6 : ∀ x, x ≠ 44 → x ≠ 272 → x ≠ 273 → ¬ (1 ≤ x ∧ x < 21) → G6 x = G x := fun x x1 x2 x3 x4 => by rw [i1 x x3, k5 x x2, k3 x x1 x4]
      have f6 : ∀ k, k ≠ 0 → k ≠ 6 → G6 272 k = G 272 k := fun k k0 k1 => by rw [i1 272 (by omega), e5, upG_nk k1, e4, upG_nk k0, k3 272 (by omega) (by omega)]
      have ew : EqW (G6 273) (undW G (G 272 6 - 1)) := fun k hk => i2 k (by omega)
      have g44 : ∀ k, k ≠ 2 → G6 44 k = G1 44 k := fun k hk => by rw [i1 44 (by omega), k5 44 (by omega), e3, upG_nk hk, o2 44 (by omega)]
      have g442 : G6 44 2 = G 272 6 - 1 := by rw [i1 44 (by omega), k5 44 (by omega)]; exact d3
      have g1 : ∀ x, 1 ≤ x → x < 21 → G6 x = G2 x := fun x x1 x2 => by rw [i1 x (by omega), k5 x (by omega), e3, up_na (by omega)]
      refine ⟨(ew.wf hWp).mono (by omega), (ew.rep hWp r2).congr (fun x x1 x2 => g1 x x1 (by omega)), by rw [f6 17 (by omega) (by omega)]; exact s3, ⟨by omega, by omega, by rw [g44 1 (by omega)]; omega, fun i i0 i1' => ?_⟩, s5.congr (by omega) (fun x q => g6 x (by omega) (by omega) (by omega) (by omega)), s6.congr (fun x q => g6 x (by omega) (by omega) (by omega) (by omega)) (f6 8 (by omega) (by omega)), s7.congr (g6 41 (by omega) (by omega) (by omega) (by omega)) (f6 12 (by omega) (by omega)) (f6 15 (by omega) (by omega)), s8.congr (fun x q => g6 x (by omega) (by omega) (by omega) (by omega)) (f6 27 (by omega) (by omega))⟩
      rw [a6] at i1'
      obtain ⟨w, r⟩ := q4 i i0 (by omega)
      have eu : undW G6 i = undW G i := by unfold undW; rw [g6 277 (by omega) (by omega) (by omega) (by omega)]
      have er : ringA G6 i = ringA G i := by unfold ringA; rw [g44 1 (by omega), a6]; omega
      rw [eu, er]
      refine ⟨w.mono (by omega), r.congr (fun x x1 x2 => g6 x ?_ ?_ ?_ ?_)⟩ <;> unfold ringA at x1 x2 <;> omega
    · by_cases c3 : (k : Int) = x
      · rw [e7, show k = x.toNat by omega, upG_same, i1 277 (by omega), k5 277 (by omega), k3 277 (by omega) (by omega)]
        unfold undW
        rw [show (456 * (G 272 6 - 1)).toNat + x.toNat = (456 * (G 272 6 - 1) + x).toNat by omega]
      · rw [e7, upG_nk (by omega)]; exact i2 k (by omega)
  · intro G1 e1
    have a1 : G1 272 6 = G 272 6 := by rw [e1, upG_nk (by omega)]
    refine ⟨fun c2 => by omega, fun _ => tail0_ok rfl (hK _ ?_)⟩
    rw [e1]; exact h.th0
theorem arm_46 (h : Rel j G) (hK : ∀ G', Rel (j + 1) G' → K G') (hL : 0 ≤ i4 ∧ i4 + 5 ≤ L) : f_law_46 L xs i4 G K := by
  refine ⟨⟨by omega, by omega⟩, ?_⟩
  generalize (xs ((i4 + 1)).toNat).toInt = s
  have hW := h.wf
  have hR := h.rp
  have hh := h
  obtain ⟨s1, s2, s3, s4, s5, s6, s7, s8⟩ := hh
  unfold f_L_saveSnapshot f_X9_saveSnapshot
  refine c_within (c_needA (fun a => ?_) (fun a => ⟨rfl, ?_⟩))
  · have a' : s = 0 ∨ s = 1 := by omega
    refine ⟨by omega, c_copy7 (by omega) (by rw [hR.sp]; exact hW.sp) (by rw [hR.tu]; exact hW.tu) (fun G1 o1 c1 G2 e2 G3 e3 => ?_)⟩
    have r1 := RepS.copy hW c1 hR
    have k3 : ∀ x, x ≠ 285 → x ≠ 207 → ¬ (232 + 20 * s.toNat ≤ x ∧ x < 232 + 20 * s.toNat + 20) → G3 x = G x := fun x x1 x2 x3 => by rw [e3, up_na x1, e2, up_na x2, o1 x x3]
    refine p10_in (p10_wr (fun _ => z01 ?_) (fun c => absurd a c))
    have w4 : ∀ x, x ≠ 272 → (upG G3 272 0 0) x = G3 x := fun x hx => up_na hx
    refine up_loop (fun x G6 => (∀ y, y ≠ 275 → G6 y = (upG G3 272 0 0) y) ∧ (∀ k : Nat, (k : Int) < x → G6 275 ((456 * s).toNat + k) = G 273 k) ∧ (∀ k : Nat, ¬ ((456 * s).toNat ≤ k ∧ (k : Int) < 456 * s + x) → G6 275 k = G 275 k)) 0 456 (by omega) ⟨fun _ _ => rfl, fun k k0 => by omega, fun k _ => by rw [w4 275 (by omega), k3 275 (by omega) (by omega) (by omega)]⟩ (fun k x G6 h0 h1 hI kk => ?_)
    obtain ⟨i1, i2, i3⟩ := hI
    have w273 : G6 273 = G 273 := by rw [i1 273 (by omega), w4 273 (by omega), k3 273 (by omega) (by omega) (by omega)]
    refine ⟨fun c2 => ⟨by omega, fun G7 e7 => ?_⟩, fun c2 => ⟨⟨by omega, by omega⟩, ⟨by omega, by omega⟩, fun G7 e7 => kk G7 c2 ⟨fun y hy => by rw [e7, up_na hy]; exact i1 y hy, fun k k0 => ?_, fun k k0 => ?_⟩⟩⟩
    · have g7 : ∀ x, x ≠ 285 → x ≠ 207 → x ≠ 272 → x ≠ 275 → x ≠ 276 → ¬ (232 + 20 * s.toNat ≤ x ∧ x < 232 + 20 * s.toNat + 20) → G7 x = G x := fun x x1 x2 x3 x4 x5 x6 => by rw [e7, up_na x5, i1 x x4, w4 x x3, k3 x x1 x2 x6]
      have f7 : ∀ k, k ≠ 0 → G7 272 k = G 272 k := fun k k0 => by rw [e7, up_na (by omega), i1 272 (by omega), upG_nk k0, k3 272 (by omega) (by omega) (by omega)]
      have a0 : G7 272 0 = 0 := by rw [e7, up_na (by omega), i1 272 (by omega), upG_same]
      have a285 : G7 285 0 = G 273 8 := by
        rw [e7, up_na (by omega), i1 285 (by omega), w4 285 (by omega), e3, upG_same, e2, up_na (by omega), o1 1 (by omega)]; exact hR.he
      have v7 : G7 273 8 = G 273 8 := by rw [g7 273 (by omega) (by omega) (by omega) (by omega) (by omega) (by omega)]
      refine tail_ok (K := K) a0 (fun _ => by rw [a285, v7]) (hK _ ?_)
      refine ⟨?_, ?_, by rw [f7 17 (by omega)]; exact s3, s4.congr (by omega) (fun x q => g7 x (by omega) (by omega) (by omega) (by omega) (by omega) (by omega)) (f7 6 (by omega)), fun t t0 t1 => ?_, s6.congr (fun x q => g7 x (by omega) (by omega) (by omega) (by omega) (by omega) (by omega)) (f7 8 (by omega)), s7.congr (g7 41 (by omega) (by omega) (by omega) (by omega) (by omega) (by omega)) (f7 12 (by omega)) (f7 15 (by omega)), s8.congr (fun x q => g7 x (by omega) (by omega) (by omega) (by omega) (by omega) (by omega)) (f7 27 (by omega))⟩
      · rw [g7 273 (by omega) (by omega) (by omega) (by omega) (by omega) (by omega)]; exact hW.mono (by omega)
      · rw [g7 273 (by omega) (by omega) (by omega) (by omega) (by omega) (by omega)]; exact hR.congr (fun x x1 x2 => g7 x (by omega) (by omega) (by omega) (by omega) (by omega) (by omega))
      · have p207 : ∀ k, G7 207 k = G2 207 k := fun k => by rw [e7, up_na (by omega), i1 207 (by omega), w4 207 (by omega), e3, up_na (by omega)]
        have p276 : ∀ k, k ≠ s.toNat → G7 276 k = G 276 k := fun k hk => by rw [e7, upG_nk hk, i1 276 (by omega), w4 276 (by omega), k3 276 (by omega) (by omega) (by omega)]
        have p275 : G7 275 = G6 275 := by rw [e7, up_na (by omega)]
        by_cases c3 : t = s
        · subst c3
          have x1 : G7 207 t.toNat = 1 := by rw [p207, e2, upG_same]
          have x2 : G7 276 t.toNat = 1 := by rw [e7, upG_same]
          have ew : EqW (savW G7 t) (G 273) := fun k hk => by
            unfold savW
            rw [p275]; exact i2 k (by omega)
          refine ⟨Or.inr x1, by rw [x1, x2], fun _ => ⟨(ew.wf hW).mono (by omega), ew.rep hW (r1.congr (fun x y1 y2 => ?_))⟩⟩
          rw [e7, up_na (by omega), i1 x (by omega), w4 x (by omega), e3, up_na (by omega), e2, up_na (by omega)]
        · obtain ⟨y1, y2, y3⟩ := s5 t t0 t1
          have x1 : G7 207 t.toNat = G 207 t.toNat := by rw [p207, e2, upG_nk (by omega), o1 207 (by omega)]
          have x2 : G7 276 t.toNat = G 276 t.toNat := p276 _ (by omega)
          refine ⟨by rw [x1]; exact y1, by rw [x1, x2]; exact y2, fun q => ?_⟩
          rw [x1] at q
          obtain ⟨w, r⟩ := y3 q
          have ew : EqW (savW G7 t) (savW G t) := fun k hk => by
            unfold savW
            rw [p275]; exact i3 _ (by omega)
          exact ⟨(ew.wf w).mono (by omega), (ew.rep w r).congr (fun x z1 z2 => g7 x (by omega) (by omega) (by omega) (by omega) (by omega) (by omega))⟩
    · by_cases c3 : (k : Int) = x
      · rw [e7, show (456 * s).toNat + k = (456 * s + x).toNat by omega, upG_same, w273, show x.toNat = k by omega]
      · rw [e7, upG_nk (by omega)]; exact i2 k (by omega)
    · rw [e7, upG_nk (by omega)]; exact i3 k (by omega)
  · refine p10_in (p10_wr (fun c => absurd c a) (fun _ => z10 (tail_ok (K := K) (upG_same _ _ _ _) (fun c => by omega) (hK _ h.th0))))
theorem arm_47 (h : Rel j G) (hK : ∀ G', Rel (j + 1) G' → K G') (hL : 0 ≤ i4 ∧ i4 + 5 ≤ L) : f_law_47 L xs i4 G K := by
  refine ⟨⟨by omega, by omega⟩, ?_⟩
  generalize (xs ((i4 + 1)).toNat).toInt = s
  have hh := h
  obtain ⟨s1, s2, s3, s4, s5, s6, s7, s8⟩ := hh
  unfold f_L_restoreSnapshot f_X9_restoreSnapshot
  refine c_within (c_needA (fun a => ?_) (fun a => ⟨rfl, ?_⟩))
  · have a' : s = 0 ∨ s = 1 := by omega
    obtain ⟨y1, y2, y3⟩ := s5 s (by omega) (by omega)
    refine ⟨by omega, fun c => ?_, fun c => ?_⟩
    · obtain ⟨hWp, hRp⟩ := y3 (by omega)
      refine c_copy7 (by omega) (by rw [hRp.sp]; exact hWp.sp) (by rw [hRp.tu]; exact hWp.tu) (fun G1 o1 c1 G2 e2 G3 e3 => ?_)
      have r1 := RepS.copy hWp c1 hRp
      have k3 : ∀ x, x ≠ 285 → x ≠ 44 → ¬ (1 ≤ x ∧ x < 21) → G3 x = G x := fun x x1 x2 x3 => by rw [e3, up_na x1, e2, up_na x2, o1 x x3]
      refine p10_in (p10_wr (fun _ => z01 ⟨by omega, fun c2 => ?_, fun c2 => ?_⟩) (fun c => absurd a c))
      · have w4 : ∀ x, x ≠ 272 → (upG G3 272 0 0) x = G3 x := fun x hx => up_na hx
        refine up_loop (fun x G6 => (∀ y, y ≠ 273 → G6 y = (upG G3 272 0 0) y) ∧ (∀ k : Nat, (k : Int) < x → G6 273 k = savW G s k)) 0 456 (by omega) ⟨fun _ _ => rfl, fun k k0 => by omega⟩ (fun k x G6 h0 h1 hI kk => ?_)
        obtain ⟨i1, i2⟩ := hI
        refine ⟨fun c2 G7 e7 => ?_, fun c2 => ⟨⟨by omega, by omega⟩, ⟨by omega, by omega⟩, fun G7 e7 => kk G7 c2 ⟨fun y hy => by rw [e7, up_na hy]; exact i1 y hy, fun k k0 => ?_⟩⟩⟩
        · have g7 : ∀ x, x ≠ 285 → x ≠ 44 → x ≠ 272 → x ≠ 273 → ¬ (1 ≤ x ∧ x < 21) → G7 x = G x := fun x x1 x2 x3 x4 x6 => by rw [e7, up_na x3, i1 x x4, w4 x x3, k3 x x1 x2 x6]
          have f7 : ∀ k, k ≠ 0 → k ≠ 6 → G7 272 k = G 272 k := fun k k0 k1 => by rw [e7, upG_nk k1, i1 272 (by omega), upG_nk k0, k3 272 (by omega) (by omega) (by omega)]
          have a6 : G7 272 6 = 0 := by rw [e7, upG_same]
          have a0 : G7 272 0 = 0 := by rw [e7, upG_nk (by omega), i1 272 (by omega), upG_same]
          have ew : EqW (G7 273) (savW G s) := fun k hk => by rw [e7, up_na (by omega)]; exact i2 k (by omega)
          have a285 : G7 285 0 = savW G s 8 := by
            rw [e7, up_na (by omega), i1 285 (by omega), w4 285 (by omega), e3, upG_same, e2, up_na (by omega)]; exact r1.he
          refine tail_ok (K := K) a0 (fun _ => by rw [a285, ew 8 (by omega)]) (hK _ ?_)
          have g1 : ∀ x, 1 ≤ x → x < 21 → G7 x = G1 x := fun x x1 x2 => by rw [e7, up_na (by omega), i1 x (by omega), w4 x (by omega), e3, up_na (by omega), e2, up_na (by omega)]
          have g44 : G7 44 1 = G 44 1 := by rw [e7, up_na (by omega), i1 44 (by omega), w4 44 (by omega), e3, up_na (by omega), e2, upG_nk (by omega), o1 44 (by omega)]
          have g442 : G7 44 2 = 0 := by rw [e7, up_na (by omega), i1 44 (by omega), w4 44 (by omega), e3, up_na (by omega), e2, upG_same]
          exact ⟨(ew.wf hWp).mono (by omega), (ew.rep hWp r1).congr (fun x x1 x2 => g1 x x1 (by omega)), by rw [f7 17 (by omega) (by omega)]; exact s3, ⟨by omega, by omega, by rw [g44]; exact s4.2.2.1, fun i i0 i1 => by omega⟩, s5.congr (by omega) (fun x q => g7 x (by omega) (by omega) (by omega) (by omega) (by omega)), s6.congr (fun x q => g7 x (by omega) (by omega) (by omega) (by omega) (by omega)) (f7 8 (by omega) (by omega)), s7.congr (g7 41 (by omega) (by omega) (by omega) (by omega) (by omega)) (f7 12 (by omega) (by omega)) (f7 15 (by omega) (by omega)), s8.congr (fun x q => g7 x (by omega) (by omega) (by omega) (by omega) (by omega)) (f7 27 (by omega) (by omega))⟩
        · by_cases c3 : (k : Int) = x
          · rw [e7, show k = x.toNat by omega, upG_same, i1 275 (by omega), w4 275 (by omega), k3 275 (by omega) (by omega) (by omega)]
            unfold savW
            rw [show (456 * s).toNat + x.toNat = (456 * s + x).toNat by omega]
          · rw [e7, upG_nk (by omega)]; exact i2 k (by omega)
      · rw [up_na (by omega), k3 276 (by omega) (by omega) (by omega)] at c2
        omega
    · intro G1 e1
      refine p10_in (p10_wr (fun _ => z01 ⟨by omega, fun c2 => ?_, fun c2 => ?_⟩) (fun c => absurd a c))
      · rw [up_na (by omega), e1, up_na (by omega)] at c2
        omega
      · refine tail_ok (K := K) (upG_same _ _ _ _) (fun _ => by rw [up_na (by omega), e1, upG_same]) (hK _ ?_)
        rw [e1]; exact h.read (fun x q => up_na (by unfold ownA at q; omega))
  · refine p10_in (p10_wr (fun c => absurd c a) (fun _ => z10 (tail_ok (K := K) (upG_same _ _ _ _) (fun c => by omega) (hK _ h.th0))))
end A3
