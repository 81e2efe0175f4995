-- ===== PURE LAYER: writeService =====
section WS
variable {G : GH} {t : OTx} {W : WT} {n : Int}
theorem nuT_len {h : Int} : (nuT h t).1 ≤ t.1 + 3 := by
  unfold nuT
  show (if h < 10 then (if h < 100 then t else psh t (48 + h / 100)) else psh (if h < 100 then t else psh t (48 + h / 100)) (48 + h / 10 % 10)).1 + 1 ≤ t.1 + 3
  by_cases c : h < 10
  · rw [if_pos c, if_pos (by omega)]; omega
  · rw [if_neg c]
    by_cases c2 : h < 100
    · rw [if_pos c2]
      show t.1 + 1 + 1 ≤ t.1 + 3
      omega
    · rw [if_neg c2]
      show t.1 + 1 + 1 + 1 ≤ t.1 + 3
      omega
theorem svN_s {s k : Int} (h : 0 ≤ k) : svN W s (k + 1).toNat = nuT (servW W s (1 + k)) (if k = 0 then svN W s k.toNat else psh (svN W s k.toNat) 32) := by
  have e : svN W s (k.toNat + 1) = nuT (servW W s (1 + ((k.toNat : Nat) : Int))) (if k.toNat = 0 then svN W s k.toNat else psh (svN W s k.toNat) 32) := rfl
  rw [show (k + 1).toNat = k.toNat + 1 by omega, e, show ((k.toNat : Nat) : Int) = k by omega]
  by_cases c : k = 0
  · rw [if_pos c, if_pos (by omega)]
  · rw [if_neg c, if_neg (by omega)]
theorem svN_len {s : Int} : ∀ k : Nat, (svN W s k).1 ≤ 4 * k
  | 0 => Nat.le_refl _
  | k + 1 => by
    have ih := svN_len (s := s) k
    have a := nuT_len (h := servW W s (1 + (k : Int))) (t := if k = 0 then svN W s k else psh (svN W s k) 32)
    show (nuT (servW W s (1 + (k : Int))) (if k = 0 then svN W s k else psh (svN W s k) 32)).1 ≤ 4 * (k + 1)
    by_cases c : k = 0
    · rw [if_pos c] at a ⊢; omega
    · rw [if_neg c] at a ⊢
      have a2 : (nuT (servW W s (1 + (k : Int))) (psh (svN W s k) 32)).1 ≤ ((svN W s k).1 + 1) + 3 := a
      omega
theorem c_putNumber {Q : GH → Prop} {h : Int} (hh : 1 ≤ h ∧ h ≤ 999) (hc : CO G t) (hl : t.1 ≤ 70) (hq : ∀ G' : GH, (∀ y, y ≠ 230 → y ≠ 231 → G' y = G y) → CO G' (nuT h t) → Q G') : f_X3_putNumber h G Q := by
  unfold f_X3_putNumber
  refine joinI1 (P := fun G2 => (∀ y, y ≠ 230 → y ≠ 231 → G2 y = G y) ∧ CO G2 (if h < 100 then t else psh t (48 + h / 100))) (fun G2 hP => ?_) (fun jj hj => ⟨fun c => hj G ⟨fun _ _ _ => rfl, by rw [if_pos c]; exact hc⟩, fun c => ⟨by omega, ⟨by omega, by omega⟩, c_put hc (by omega) (fun G7 o7 c7 => hj G7 ⟨o7, by rw [if_neg (by omega)]; exact c7⟩)⟩⟩)
  obtain ⟨o2, i2⟩ := hP
  have l2 : (if h < 100 then t else psh t (48 + h / 100)).1 ≤ t.1 + 1 := by
    by_cases c : h < 100
    · rw [if_pos c]; omega
    · rw [if_neg c]; exact Nat.le_refl _
  refine joinI1 (P := fun G4 => (∀ y, y ≠ 230 → y ≠ 231 → G4 y = G y) ∧ CO G4 (if h < 10 then (if h < 100 then t else psh t (48 + h / 100)) else psh (if h < 100 then t else psh t (48 + h / 100)) (48 + h / 10 % 10))) (fun G4 hP => ?_) (fun jj hj => ⟨fun c => hj G2 ⟨o2, by rw [if_pos c]; exact i2⟩, fun c => ⟨by omega, by omega, ⟨by omega, by omega⟩, c_put i2 (by omega) (fun G6 o6 c6 => hj G6 ⟨fun y y0 y1 => by rw [o6 y y0 y1]; exact o2 y y0 y1, by rw [if_neg (by omega)]; exact c6⟩)⟩⟩)
  obtain ⟨o4, i4⟩ := hP
  have l4 : (if h < 10 then (if h < 100 then t else psh t (48 + h / 100)) else psh (if h < 100 then t else psh t (48 + h / 100)) (48 + h / 10 % 10)).1 ≤ t.1 + 2 := by
    by_cases c : h < 10
    · rw [if_pos c]; omega
    · rw [if_neg c]
      show (if h < 100 then t else psh t (48 + h / 100)).1 + 1 ≤ t.1 + 2
      omega
  refine ⟨by omega, ⟨by omega, by omega⟩, c_put i4 (by omega) (fun G5 o5 c5 => hq G5 (fun y y0 y1 => by rw [o5 y y0 y1]; exact o4 y y0 y1) c5)⟩
theorem m_saysNumber {Q : GH → Prop} {h : Int} (hh : 1 ≤ h ∧ h ≤ 999) (hc : RO G t) (hl : t.1 ≤ 70) (hq : ∀ G' : GH, (∀ y, y ≠ 272 → y ≠ 284 → G' y = G y) → (∀ k, k ≠ 27 → G' 272 k = G 272 k) → RO G' (nuT h t) → Q G') : f_X10_saysNumber h G Q := by
  unfold f_X10_saysNumber
  refine joinI1 (P := fun G2 => (∀ y, y ≠ 272 → y ≠ 284 → G2 y = G y) ∧ (∀ k, k ≠ 27 → G2 272 k = G 272 k) ∧ RO G2 (if h < 100 then t else psh t (48 + h / 100))) (fun G2 hP => ?_) (fun jj hj => ⟨fun c => hj G ⟨fun _ _ _ => rfl, fun _ _ => rfl, by rw [if_pos c]; exact hc⟩, fun c => ⟨by omega, ⟨by omega, by omega⟩, m_says hc (by omega) (fun G7 o7 p7 c7 => hj G7 ⟨o7, p7, by rw [if_neg (by omega)]; exact c7⟩)⟩⟩)
  obtain ⟨o2, p2, i2⟩ := hP
  have l2 : (if h < 100 then t else psh t (48 + h / 100)).1 ≤ t.1 + 1 := by
    by_cases c : h < 100
    · rw [if_pos c]; omega
    · rw [if_neg c]; exact Nat.le_refl _
  refine joinI1 (P := fun G4 => (∀ y, y ≠ 272 → y ≠ 284 → G4 y = G y) ∧ (∀ k, k ≠ 27 → G4 272 k = G 272 k) ∧ RO G4 (if h < 10 then (if h < 100 then t else psh t (48 + h / 100)) else psh (if h < 100 then t else psh t (48 + h / 100)) (48 + h / 10 % 10))) (fun G4 hP => ?_) (fun jj hj => ⟨fun c => hj G2 ⟨o2, p2, by rw [if_pos c]; exact i2⟩, fun c => ⟨by omega, by omega, ⟨by omega, by omega⟩, m_says i2 (by omega) (fun G6 o6 p6 c6 => hj G6 ⟨fun y y0 y1 => by rw [o6 y y0 y1]; exact o2 y y0 y1, fun k hk => by rw [p6 k hk]; exact p2 k hk, by rw [if_neg (by omega)]; exact c6⟩)⟩⟩)
  obtain ⟨o4, p4, i4⟩ := hP
  have l4 : (if h < 10 then (if h < 100 then t else psh t (48 + h / 100)) else psh (if h < 100 then t else psh t (48 + h / 100)) (48 + h / 10 % 10)).1 ≤ t.1 + 2 := by
    by_cases c : h < 10
    · rw [if_pos c]; omega
    · rw [if_neg c]
      show (if h < 100 then t else psh t (48 + h / 100)).1 + 1 ≤ t.1 + 2
      omega
  refine ⟨by omega, ⟨by omega, by omega⟩, m_says i4 (by omega) (fun G5 o5 p5 c5 => hq G5 (fun y y0 y1 => by rw [o5 y y0 y1]; exact o4 y y0 y1) (fun k hk => by rw [p5 k hk]; exact p4 k hk) c5)⟩
end WS
section AWS
variable {j : Nat} {G : GH} {K : GH → Prop} {L : Nat} {xs : Nat → Int32} {i4 : Int}
theorem arm_43 (h : Rel j G) (hK : ∀ G', Rel (j + 1) G' → K G') (hL : 0 ≤ i4 ∧ i4 + 5 ≤ L) : f_law_43 L xs i4 G K := by
  have hW := h.wf
  have hR := h.rp
  have se := hW.se
  refine ⟨⟨by omega, by omega⟩, ?_⟩
  generalize (xs ((i4 + 1)).toNat).toInt = s
  unfold f_L_writeService f_X9_writeService
  refine c_needService hW hR (fun a => ?_) (fun a => ⟨rfl, ?_⟩)
  · have sv := hW.sv s a.1 a.2
    intro G1 e1
    refine up_loop (fun x G2 => (∀ y, y ≠ 230 → y ≠ 231 → G2 y = G y) ∧ CO G2 (svN (G 273) s x.toNat)) 0 (servW (G 273) s 0) (by omega) ⟨fun y y0 _ => by rw [e1, up_na y0], by rw [e1, upG_same]; rfl, fun i hi => by
      have hi : i < 0 := hi
      omega⟩ (fun k x G2 x0 x1 hI kk => ⟨⟨a.1, by omega⟩, ?_⟩)
    obtain ⟨o2, i2⟩ := hI
    have rp : ∀ G' : GH, (∀ y, y ≠ 230 → y ≠ 231 → G' y = G y) → RepS G' 1 (G 273) := fun G' o => hR.congr (fun x x0 x1 => o x (by omega) (by omega))
    have e13 : G2 13 s.toNat = servW (G 273) s 0 := ((rp G2 o2).sv s a.1 a.2).1
    have lx := svN_len (W := G 273) (s := s) x.toNat
    have es := svN_s (W := G 273) (s := s) x0
    rw [e13]
    refine ⟨fun c => ?_, fun c => ?_⟩
    · rw [show x = servW (G 273) s 0 by omega] at i2 lx
      rw [i2.1]
      intro G3 e3
      have w3 : G3 273 = G 273 := by rw [e3, up_na (by omega), o2 273 (by omega) (by omega)]
      have t3 : G3 272 = G 272 := by rw [e3, up_na (by omega), o2 272 (by omega) (by omega)]
      have mm : MV G3 (G 273) := ⟨w3, by rw [t3]; exact h.2.2.1⟩
      refine mv_noService mm hW (fun _ => z01 ?_) (fun c2 => absurd (show 0 ≤ s ∧ s ≤ G 273 5 - 1 by omega) c2)
      have m4 := mm.th (t := 0)
      have f4 : ∀ y, y ≠ 272 → upG G3 272 0 0 y = G3 y := fun y hy => up_na hy
      have k4 : ∀ k, k ≠ 0 → upG G3 272 0 0 272 k = G 272 k := fun k hk => by rw [upG_nk hk, t3]
      have v4 : upG G3 272 0 0 272 0 = 0 := upG_same _ _ _ _
      generalize upG G3 272 0 0 = G4 at m4 f4 k4 v4 ⊢
      intro G5 e5
      refine up_loop (fun x G6 => (∀ y, y ≠ 272 → y ≠ 284 → G6 y = G4 y) ∧ (∀ k, k ≠ 27 → G6 272 k = G4 272 k) ∧ RO G6 (svN (G 273) s x.toNat)) 0 (servW (G 273) s 0) (by omega) ⟨fun y y0 _ => by rw [e5, up_na y0], fun k hk => by rw [e5, upG_nk hk], by rw [e5, upG_same]; rfl, fun i hi => by
        have hi : i < 0 := hi
        omega⟩ (fun k x G6 x0 x1 hI kk => p10_hymnsOf ⟨a.1, by omega⟩ ?_)
      obtain ⟨o6, p6, i6⟩ := hI
      have w6 : G6 273 = G 273 := by rw [o6 273 (by omega) (by omega)]; exact m4.1
      have lx' := svN_len (W := G 273) (s := s) x.toNat
      have es := svN_s (W := G 273) (s := s) x0
      rw [w6]
      refine ⟨fun c9 => ?_, fun c9 => ?_⟩
      · rw [show x = servW (G 273) s 0 by omega] at i6
        rw [i6.1]
        refine tail_ok (K := K) ?_ (fun _ => ?_) (hK _ ?_)
        · rw [p6 0 (by omega)]; exact v4
        · rw [o6 285 (by omega) (by omega), f4 285 (by omega), e3, upG_same]
        · refine h.outs (fun a' ha a0 a1 a2 => by
            unfold ownA at ha
            rw [o6 a' (by omega) a2, f4 a' (by omega), e3, up_na (by omega), o2 a' a0 a1]) (fun k hk k0 => by
            unfold ownK at hk
            rw [p6 k k0, k4 k (by omega)]) (outR_of ⟨by rw [o6 230 (by omega) (by omega), f4 230 (by omega), e3, up_na (by omega)]; exact i2.1, fun i hi => by rw [o6 231 (by omega) (by omega), f4 231 (by omega), e3, up_na (by omega)]; exact i2.2 i hi⟩ i6 (by omega))
      · have hr := sv.2 x x0 c9
        refine joinI1 (P := fun G7 => (∀ y, y ≠ 272 → y ≠ 284 → G7 y = G4 y) ∧ (∀ k, k ≠ 27 → G7 272 k = G4 272 k) ∧ RO G7 (if x = 0 then svN (G 273) s x.toNat else psh (svN (G 273) s x.toNat) 32)) (fun G7 hP => ?_) (fun jj hj => ⟨fun w => hj G6 ⟨o6, p6, by rw [if_pos (by omega)]; exact i6⟩, fun w => m_says i6 (by omega) (fun G8 o8 p8 c8 => hj G8 ⟨fun y y0 y1 => by rw [o8 y y0 y1]; exact o6 y y0 y1, fun k hk => by rw [p8 k hk]; exact p6 k hk, by rw [if_neg (by omega)]; exact c8⟩)⟩)
        obtain ⟨o7, p7, i7⟩ := hP
        refine p10_hymnOf ⟨a.1, by omega⟩ ⟨x0, by omega⟩ ?_
        rw [show G7 273 = G 273 by rw [o7 273 (by omega) (by omega)]; exact m4.1]
        refine m_saysNumber hr i7 ?_ (fun G8 o8 p8 c8 => kk G8 c9 ⟨fun y y0 y1 => by rw [o8 y y0 y1]; exact o7 y y0 y1, fun k hk => by rw [p8 k hk]; exact p7 k hk, by rw [es]; exact c8⟩)
        by_cases w : x = 0
        · rw [if_pos w]; omega
        · rw [if_neg w]
          show (svN (G 273) s x.toNat).1 + 1 ≤ 70
          omega
    · have hr := sv.2 x x0 c
      refine joinI1 (P := fun G4 => (∀ y, y ≠ 230 → y ≠ 231 → G4 y = G y) ∧ CO G4 (if x = 0 then svN (G 273) s x.toNat else psh (svN (G 273) s x.toNat) 32)) (fun G4 hP => ?_) (fun jj hj => ⟨fun w => hj G2 ⟨o2, by rw [if_pos (by omega)]; exact i2⟩, fun w => c_put i2 (by omega) (fun G3 o3 c3 => hj G3 ⟨fun y y0 y1 => by rw [o3 y y0 y1]; exact o2 y y0 y1, by rw [if_neg (by omega)]; exact c3⟩)⟩)
      obtain ⟨o4, i4⟩ := hP
      refine c_hymnAt (a := 1) hW (rp G4 o4) a ⟨by omega, by omega⟩ ?_
      rw [if_pos ⟨x0, c⟩]
      refine c_putNumber hr i4 ?_ (fun G5 o5 c5 => kk G5 c ⟨fun y y0 y1 => by rw [o5 y y0 y1]; exact o4 y y0 y1, by rw [es]; exact c5⟩)
      by_cases w : x = 0
      · rw [if_pos w]; omega
      · rw [if_neg w]
        show (svN (G 273) s x.toNat).1 + 1 ≤ 70
        omega
  · have mm : MV G (G 273) := ⟨rfl, h.2.2.1⟩
    refine mv_noService mm hW (fun c => absurd (show 0 ≤ s ∧ s < G 273 5 by omega) a) (fun _ => z10 (thrown_is h hK (by omega)))
end AWS
