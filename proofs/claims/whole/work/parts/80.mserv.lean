-- ===== PURE LAYER: the reference hangs a service =====
def wk1 (a b : Int) : Int := if a = b then 0 else b2 (a ≠ -1) + b2 (b ≠ -1)
theorem wk1_rng {a b : Int} : 0 ≤ wk1 a b ∧ wk1 a b ≤ 2 := by
  unfold wk1
  have p := b2_01 (p := a ≠ -1)
  have q := b2_01 (p := b ≠ -1)
  split <;> omega
def plV (tf : Int) (W : WT) (s p h : Int) : Int := if ddV tf W s p = -1 then -1 else if h = 0 then ddV tf W s p else if h = 1 then soP tf W s p else wayW tf W (soP tf W s p) (ddV tf W s p)
theorem plV_0 {tf : Int} {W : WT} {s p : Int} : plV tf W s p 0 = ddV tf W s p := by
  unfold plV
  by_cases c : ddV tf W s p = -1
  · rw [if_pos c]; exact c.symm
  · rw [if_neg c, if_pos rfl]
def wkV (tf : Int) (W : WT) (s : Int) : Int := sumZ (fun p => wk1 (plaW W p 0) (ddV tf W s p)) 54
theorem wkV_rng {tf : Int} {W : WT} {s x : Int} (h0 : 0 ≤ x) : 0 ≤ sumZ (fun p => wk1 (plaW W p 0) (ddV tf W s p)) x ∧ sumZ (fun p => wk1 (plaW W p 0) (ddV tf W s p)) x ≤ 2 * x := ⟨sumZ_ge (fun _ _ _ => wk1_rng.1), sumZ_le h0 (fun _ _ _ => wk1_rng.2)⟩
def hngW (tf : Int) (W : WT) (s : Int) : WT := fun k => if k = 7 then s else if k = 9 then W 9 + wkV tf W s else if k = 10 then W 10 + rhV tf W s (allRW W) else if k = 11 then W 11 + roV tf W s (allRW W) else if k < 276 then W k else if k < 438 then plV tf W s (((k : Int) - 276) / 3) (((k : Int) - 276) % 3) else if k < 456 then hyV tf W s ((k : Int) - 438) else W k
section MS
variable {tf : Int} {W : WT} {s j : Int} {G : GH}
theorem ddV_out {p : Int} (hp : 3 * allRW W ≤ p) : ddV tf W s p = -1 := by
  have e : hyV tf W s (p / 3) = -1 := by
    unfold hyV
    rw [if_neg (fun w => by have := w.1.2; omega)]
  show ddH (hyV tf W s) p = -1
  unfold ddH
  rw [if_pos e]
theorem m_takesDown2 {Q : GH → Prop} (h : ∀ G' : GH, (∀ x, x ≠ 273 → G' x = G x) → (∀ k, k ≠ 7 → ¬ (276 ≤ k ∧ k < 456) → G' 273 k = G 273 k) → G' 273 7 = -1 → (∀ k, 276 ≤ k → k < 456 → G' 273 k = -1) → Q G') : f_X10_takesDown G Q := by
  unfold f_X10_takesDown
  refine up_loop (fun x G1 => (∀ y, y ≠ 273 → G1 y = G y) ∧ (∀ k, ¬ (276 ≤ k ∧ k < 456) → G1 273 k = G 273 k) ∧ (∀ k : Nat, 276 ≤ k → (k : Int) < x → G1 273 k = -1)) 276 456 (by omega) ⟨fun _ _ => rfl, fun _ _ => rfl, fun k k0 k1 => by omega⟩ (fun k x G1 x0 x1 hI kk => ?_)
  obtain ⟨i1, i2, i3⟩ := hI
  refine ⟨fun c G2 e2 => h G2 (fun y hy => by rw [e2, up_na hy]; exact i1 y hy) (fun k k0 k1 => by rw [e2, upG_nk k0]; exact i2 k k1) (by rw [e2, upG_same]) (fun k k0 k1 => by rw [e2, upG_nk (by omega)]; exact i3 k k0 (by omega)), fun c => ⟨⟨by omega, c⟩, fun G3 e3 => kk G3 c ⟨fun y hy => by rw [e3, up_na hy]; exact i1 y hy, fun k hk => by rw [e3, upG_nk (by omega)]; exact i2 k hk, fun k k0 k1 => ?_⟩⟩⟩
  by_cases e : (k : Int) = x
  · rw [e3, show x.toNat = k by omega, upG_same]
  · rw [e3, upG_nk (by omega)]; exact i3 k k0 (by omega)
theorem m_workOf {Q : Int → Prop} {a b : Int} (h : Q (wk1 a b)) : f_X10_workOf a b Q := by
  unfold f_X10_workOf
  unfold wk1 at h
  refine ⟨fun c => ?_, fun c => by rw [if_pos c] at h; exact h⟩
  rw [if_neg c] at h
  refine joinI1 (P := fun v => v = b2 (a ≠ -1)) (fun v hv => ⟨fun c2 => ?_, fun c2 => ?_⟩) (fun k hk => ⟨fun c2 => hk _ (b2_t c2).symm, fun c2 => hk _ (b2_f (fun w => w c2)).symm⟩)
  · have p := b2_01 (p := a ≠ -1)
    rw [hv]
    rw [b2_t c2] at h
    exact ⟨⟨by omega, by omega⟩, h⟩
  · have p := b2_01 (p := a ≠ -1)
    rw [hv]
    rw [b2_f (p := b ≠ -1) (fun w => w c2)] at h
    exact ⟨⟨by omega, by omega⟩, h⟩
theorem m_hangsService {Q : Int → GH → Prop} (hj : j ≤ 1000) (hW : WF j W) (hs : 0 ≤ s ∧ s < W 5) (ht : -1 ≤ tf ∧ tf ≤ 9) (ht2 : G 272 17 = tf) (hw : G 273 = W)
    (h : ∀ G' : GH, (∀ x, x ≠ 272 → x ≠ 273 → ¬ (280 ≤ x ∧ x ≤ 283) → G' x = G x) → (∀ k, ¬ (22 ≤ k ∧ k ≤ 25) → G' 272 k = G 272 k) → G' 272 22 = rhV tf W s (allRW W) ∧ G' 272 23 = roV tf W s (allRW W) ∧ G' 272 24 = foN tf W s (allRW W).toNat ∧ G' 272 25 = wkV tf W s → G' 273 = hngW tf W s → Q (wkV tf W s) G') : f_X10_hangsService s G Q := by
  have al := hW.allR
  unfold f_X10_hangsService
  refine up_loop (fun x G1 => (∀ y, y ≠ 283 → G1 y = G y) ∧ (∀ p : Int, 0 ≤ p → p < x → G1 283 p.toNat = plaW W p 0)) 0 54 (by omega) ⟨fun _ _ => rfl, fun p p0 p1 => by omega⟩ (fun k x G1 x0 x1 hI kk => ?_)
  obtain ⟨i1, i2⟩ := hI
  refine ⟨fun c => ?_, fun c => p10_placeAt (by omega) (by omega) ⟨⟨by omega, by omega⟩, ⟨x0, c⟩, fun G2 e2 => kk G2 c ⟨fun y hy => by rw [e2, up_na hy]; exact i1 y hy, fun p p0 p1 => ?_⟩⟩⟩
  · have w1 : G1 273 = W := by rw [i1 273 (by omega)]; exact hw
    refine m_takesDown2 (fun G2 o2 p2 p27 p2b => ?_)
    have l2 : Low G2 W := fun k q0 q1 => by rw [p2 k q1 (by omega), w1]
    have t2 : G2 272 17 = tf := by rw [o2 272 (by omega), i1 272 (by omega)]; exact ht2
    have lb := cnt43 (tf := tf) hW ht
    refine m_laysCards (tf := tf) (L := cntW tf W) l2 hW t2 (fun x _ _ => by rw [if_pos rfl, Int.sub_zero]) lb lb (fun G3 o3 hC3 hN3 hL3 => ?_)
    have l3 : Low G3 W := fun k q0 q1 => by rw [o3 273 (by omega)]; exact l2 k q0 q1
    have u3 : ∀ r, 0 ≤ r → r < 18 → hunW (G3 273) r = -1 := fun r r0 r1 => by
      rw [o3 273 (by omega)]; exact p2b _ (by omega) (by omega)
    refine m_hangsRows hW hs ht l3 u3 hC3 hN3 (fun G4 o4 q4 w4 u4 f4 n4 => ?_)
    have l4 : Low G4 W := fun k q0 q1 => by rw [w4 k (by omega)]; exact l3 k q0 q1
    have t4 : G4 272 17 = tf := by rw [q4 17 (by omega), o3 272 (by omega)]; exact t2
    refine m_hangsPlaces hW hs ht t4 l4 u4 (hC3.congr (o4 280 (by omega) (by omega) (by omega))) (hL3.congr (o4 282 (by omega) (by omega) (by omega))) n4 (fun G5 o5 w5 v5 => ?_)
    -- the row behind the places
    have w5a : ∀ k, k ≠ 7 → k < 276 → G5 273 k = W k := fun k k0 k1 => by
      rw [w5 k (by omega)]; exact l4 k k1 k0
    have w5b : ∀ p h9 : Int, 0 ≤ p → p < 54 → 0 ≤ h9 → h9 < 3 → plaW (G5 273) p h9 = plV tf W s p h9 := fun p h9 p0 p1 a0 a1 => by
      have bare : ∀ g9 : Int, 0 ≤ g9 → g9 < 3 → plaW (G4 273) p g9 = -1 := fun g9 b0 b1 => by
        show G4 273 _ = -1
        rw [w4 _ (by omega), o3 273 (by omega)]; exact p2b _ (by omega) (by omega)
      by_cases c2 : p < 3 * allRW W
      · have z := v5 p p0 c2
        unfold plV
        by_cases c3 : ddV tf W s p = -1
        · have z2 := z.2 c3
          rw [bare 0 (by omega) (by omega), bare 1 (by omega) (by omega), bare 2 (by omega) (by omega)] at z2
          rw [if_pos c3]
          have e9 : h9 = 0 ∨ h9 = 1 ∨ h9 = 2 := by omega
          rcases e9 with rfl | rfl | rfl
          · exact z2.1
          · exact z2.2.1
          · exact z2.2.2
        · have z2 := z.1 c3
          rw [if_neg c3]
          have e9 : h9 = 0 ∨ h9 = 1 ∨ h9 = 2 := by omega
          rcases e9 with rfl | rfl | rfl
          · rw [if_pos rfl]; exact z2.1
          · rw [if_neg (by omega), if_pos rfl]; exact z2.2.1
          · rw [if_neg (by omega), if_neg (by omega)]; exact z2.2.2
      · unfold plV
        rw [if_pos (ddV_out (by omega))]
        have e : plaW (G5 273) p h9 = plaW (G4 273) p h9 := w5 _ (by omega)
        rw [e]; exact bare h9 a0 a1
    have w5c : ∀ r, 0 ≤ r → r < 18 → hunW (G5 273) r = hyV tf W s r := fun r r0 r1 => by
      have e : hunW (G5 273) r = hunW (G4 273) r := w5 _ (by omega)
      rw [e]; exact u4 r r0 r1
    have w5d : ∀ k, 456 ≤ k → G5 273 k = W k := fun k hk => by
      rw [w5 k (by omega), w4 k (by omega), o3 273 (by omega), p2 k (by omega) (by omega), w1]
    have g5 : G5 272 = G4 272 := o5 272 (by omega) (by omega)
    have h9 := hW.wo; have h10 := hW.hu; have h11 := hW.ou
    have rr : 0 ≤ rhV tf W s (allRW W) ∧ rhV tf W s (allRW W) ≤ 18 := by
      refine ⟨sumZ_ge (fun _ _ _ => b2_ge), ?_⟩
      have := sumZ_le (f := fun r => b2 (tkR tf W s r)) (c := 1) (x := allRW W) (by omega) (fun _ _ _ => b2_le)
      unfold rhV
      omega
    have ror : 0 ≤ roV tf W s (allRW W) ∧ roV tf W s (allRW W) ≤ 18 := by
      refine ⟨sumZ_ge (fun _ _ _ => b2_ge), ?_⟩
      have := sumZ_le (f := fun r => b2 (outR tf W s r)) (c := 1) (x := allRW W) (by omega) (fun _ _ _ => b2_le)
      unfold roV
      omega
    intro G6 e6
    have a10 : G6 273 10 = W 10 := by rw [e6, upG_nk (by omega)]; exact w5a 10 (by omega) (by omega)
    have b22 : G6 272 22 = rhV tf W s (allRW W) := by rw [e6, up_na (by omega), g5]; exact f4.1
    rw [a10, b22]
    refine ⟨⟨by omega, by omega⟩, fun G7 e7 => ?_⟩
    have a11 : G7 273 11 = W 11 := by rw [e7, upG_nk (by omega), e6, upG_nk (by omega)]; exact w5a 11 (by omega) (by omega)
    have b23 : G7 272 23 = roV tf W s (allRW W) := by rw [e7, up_na (by omega), e6, up_na (by omega), g5]; exact f4.2.1
    rw [a11, b23]
    refine ⟨⟨by omega, by omega⟩, fun G8 e8 G9 e9 => ?_⟩
    have o9 : ∀ y, y ≠ 272 → y ≠ 273 → G9 y = G5 y := fun y y0 y1 => by rw [e9, up_na y0, e8, up_na y1, e7, up_na y1, e6, up_na y1]
    have q9 : ∀ k, k ≠ 25 → G9 272 k = G4 272 k := fun k hk => by rw [e9, upG_nk hk, e8, up_na (by omega), e7, up_na (by omega), e6, up_na (by omega), g5]
    have w9 : ∀ k, k ≠ 7 → k ≠ 10 → k ≠ 11 → G9 273 k = G5 273 k := fun k k0 k1 k2 => by rw [e9, up_na (by omega), e8, upG_nk k2, e7, upG_nk k1, e6, upG_nk k0]
    have w97 : G9 273 7 = s := by rw [e9, up_na (by omega), e8, upG_nk (by omega), e7, upG_nk (by omega), e6, upG_same]
    have w910 : G9 273 10 = W 10 + rhV tf W s (allRW W) := by rw [e9, up_na (by omega), e8, upG_nk (by omega), e7, upG_same]
    have w911 : G9 273 11 = W 11 + roV tf W s (allRW W) := by rw [e9, up_na (by omega), e8, upG_same]
    have d9 : ∀ p : Int, 0 ≤ p → p < 54 → G9 283 p.toNat = plaW W p 0 := fun p p0 p1 => by
      rw [o9 283 (by omega) (by omega), o5 283 (by omega) (by omega), o4 283 (by omega) (by omega) (by omega), o3 283 (by omega), o2 283 (by omega)]
      exact i2 p p0 (by omega)
    refine up_loop (fun x G10 => (∀ y, y ≠ 272 → G10 y = G9 y) ∧ (∀ k, k ≠ 25 → G10 272 k = G9 272 k) ∧ G10 272 25 = sumZ (fun p => wk1 (plaW W p 0) (ddV tf W s p)) x) 0 54 (by omega) ⟨fun _ _ => rfl, fun _ _ => rfl, by rw [e9, upG_same]; rfl⟩ (fun k2 x G10 x0 x1 hI2 kk2 => ?_)
    obtain ⟨o10, q10, v10⟩ := hI2
    have wr := wkV_rng (tf := tf) (W := W) (s := s) x0
    rw [o10 273 (by omega), o10 283 (by omega), v10]
    refine ⟨fun c2 => ?_, fun c2 => ⟨⟨x0, c2⟩, p10_placeAt (by omega) (by omega) ⟨⟨by omega, by omega⟩, m_workOf ?_⟩⟩⟩
    · have ex : x = 54 := by omega
      rw [ex] at wr v10 ⊢
      have ew : sumZ (fun p => wk1 (plaW W p 0) (ddV tf W s p)) 54 = wkV tf W s := rfl
      rw [ew] at wr v10 ⊢
      have a9 : G9 273 9 = W 9 := by rw [w9 9 (by omega) (by omega) (by omega)]; exact w5a 9 (by omega) (by omega)
      rw [a9]
      refine ⟨⟨by omega, by omega⟩, fun G11 e11 => ?_⟩
      have v11 : G11 272 25 = wkV tf W s := by rw [e11, up_na (by omega)]; exact v10
      rw [v11]
      have q11 : ∀ k, k ≠ 25 → G11 272 k = G4 272 k := fun k hk => by rw [e11, up_na (by omega), q10 k hk]; exact q9 k hk
      refine h G11 (fun y y0 y1 y2 => by rw [e11, up_na y1, o10 y y0, o9 y y0 y1, o5 y y1 (by omega), o4 y y0 y1 (by omega), o3 y (by omega), o2 y y1, i1 y (by omega)]) (fun k hk => by rw [q11 k (by omega), q4 k (by omega), o3 272 (by omega), o2 272 (by omega), i1 272 (by omega)]) ⟨by rw [q11 22 (by omega)]; exact f4.1, by rw [q11 23 (by omega)]; exact f4.2.1, by rw [q11 24 (by omega)]; exact f4.2.2, v11⟩ (funext fun k => ?_)
      rw [e11]
      unfold hngW
      by_cases c7 : k = 7
      · rw [if_pos c7, c7, upG_nk (by omega), o10 273 (by omega)]; exact w97
      · rw [if_neg c7]
        by_cases c9 : k = 9
        · rw [if_pos c9, c9, upG_same]
        · rw [if_neg c9, upG_nk c9, o10 273 (by omega)]
          by_cases c10 : k = 10
          · rw [if_pos c10, c10]; exact w910
          · rw [if_neg c10]
            by_cases c11 : k = 11
            · rw [if_pos c11, c11]; exact w911
            · rw [if_neg c11, w9 k c7 c10 c11]
              by_cases d1 : k < 276
              · rw [if_pos d1]; exact w5a k c7 d1
              · rw [if_neg d1]
                by_cases d2 : k < 438
                · rw [if_pos d2, ← w5b (((k : Int) - 276) / 3) (((k : Int) - 276) % 3) (by omega) (by omega) (by omega) (by omega)]
                  show G5 273 k = G5 273 ((276 + (3 * (((k : Int) - 276) / 3))) + (((k : Int) - 276) % 3)).toNat
                  rw [show ((276 + (3 * (((k : Int) - 276) / 3))) + (((k : Int) - 276) % 3)).toNat = k by omega]
                · rw [if_neg d2]
                  by_cases d3 : k < 456
                  · rw [if_pos d3, ← w5c ((k : Int) - 438) (by omega) (by omega)]
                    show G5 273 k = G5 273 (438 + ((k : Int) - 438)).toNat
                    rw [show (438 + ((k : Int) - 438)).toNat = k by omega]
                  · rw [if_neg d3]; exact w5d k (by omega)
    · have e5 : G9 273 ((276 + (3 * x)) + 0).toNat = ddV tf W s x := by
        rw [w9 _ (by omega) (by omega) (by omega)]
        exact (w5b x 0 x0 c2 (by omega) (by omega)).trans plV_0
      rw [d9 x x0 c2, e5]
      have w1r := wk1_rng (a := plaW W x 0) (b := ddV tf W s x)
      refine ⟨⟨by omega, by omega⟩, fun G12 e12 => kk2 G12 c2 ⟨fun y hy => by rw [e12, up_na hy]; exact o10 y hy, fun k hk => by rw [e12, upG_nk hk]; exact q10 k hk, ?_⟩⟩
      rw [e12, upG_same, sumZ_s x0]
  · by_cases e : p = x
    · rw [e2, e, upG_same, i1 273 (by omega), hw]
    · rw [e2, upG_nk (by omega)]; exact i2 p p0 (by omega)
end MS
