-- ===== PURE LAYER: the reference hangs rows, then places =====
section MH
variable {tf : Int} {W : WT} {s j : Int} {G : GH}
theorem nR_b (h : WF j W) (hs : 0 ≤ s ∧ s < W 5) {r : Nat} (hr : (r : Int) ≤ allRW W) {d : Int} (hd : 0 ≤ d) : 0 ≤ nR tf W s r d ∧ nR tf W s r d ≤ 54 := by
  have k := nR_is (tf := tf) h hs hd r hr
  have al := h.allR
  omega
theorem cntd_3 {h e : Int} : 0 ≤ cntd h e ∧ cntd h e ≤ 3 := by
  refine ⟨cntd_ge, ?_⟩
  unfold cntd
  have p := b2_le (p := 0 < h ∧ h % 10 = e)
  have q := b2_le (p := 0 < h / 10 ∧ h / 10 % 10 = e)
  have r := b2_le (p := 0 < h / 10 / 10 ∧ h / 10 / 10 % 10 = e)
  omega
theorem plusH_cancel {n : Int → Int} {h : Int} : plusH (plusH n h 1) h (-1) = n := by
  funext e
  unfold plusH
  omega
theorem m_hangsRows {Q : GH → Prop} (hW : WF j W) (hs : 0 ≤ s ∧ s < W 5) (ht : -1 ≤ tf ∧ tf ≤ 9) (l : Low G W) (hu : ∀ r, 0 ≤ r → r < 18 → hunW (G 273) r = -1) (hC : HC G (shW tf W) (cntW tf W)) (hN : HN G (fun _ => 0))
    (h : ∀ G' : GH, (∀ x, x ≠ 272 → x ≠ 273 → x ≠ 281 → G' x = G x) → (∀ k, ¬ (22 ≤ k ∧ k ≤ 24) → G' 272 k = G 272 k) → (∀ k, ¬ (438 ≤ k ∧ k < 456) → G' 273 k = G 273 k) → (∀ r, 0 ≤ r → r < 18 → hunW (G' 273) r = hyV tf W s r) → G' 272 22 = rhV tf W s (allRW W) ∧ G' 272 23 = roV tf W s (allRW W) ∧ G' 272 24 = foN tf W s (allRW W).toNat → HN G' (nR tf W s (allRW W).toNat) → Q G') : f_X10_hangsRows s G Q := by
  have al := hW.allR
  have lbW := cnt43 hW ht
  unfold f_X10_hangsRows
  intro G1 e1 G2 e2 G3 e3
  have o3 : ∀ x, x ≠ 272 → G3 x = G x := fun x hx => by rw [e3, up_na hx, e2, up_na hx, e1, up_na hx]
  have p3 : ∀ k, ¬ (22 ≤ k ∧ k ≤ 24) → G3 272 k = G 272 k := fun k hk => by rw [e3, upG_nk (by omega), e2, upG_nk (by omega), e1, upG_nk (by omega)]
  have q22 : G3 272 22 = 0 := by rw [e3, upG_nk (by omega), e2, upG_nk (by omega), e1, upG_same]
  have q23 : G3 272 23 = 0 := by rw [e3, upG_nk (by omega), e2, upG_same]
  have q24 : G3 272 24 = -1 := by rw [e3, upG_same]
  refine up_loop (fun x G4 => (∀ y, y ≠ 272 → y ≠ 273 → y ≠ 281 → G4 y = G y) ∧ (∀ k, ¬ (22 ≤ k ∧ k ≤ 24) → G4 272 k = G 272 k) ∧ (∀ k, ¬ (438 ≤ k ∧ k < 456) → G4 273 k = G 273 k) ∧ (∀ r, 0 ≤ r → r < 18 → hunW (G4 273) r = if r < x then hyV tf W s r else -1) ∧ (G4 272 22 = rhV tf W s x ∧ G4 272 23 = roV tf W s x ∧ G4 272 24 = foN tf W s x.toNat) ∧ HN G4 (nR tf W s x.toNat)) 0 (allRW W) (by omega)
    ⟨fun y y0 _ _ => o3 y y0, p3, fun k _ => by rw [o3 273 (by omega)], fun r r0 r1 => by rw [if_neg (by omega), o3 273 (by omega)]; exact hu r r0 r1, ⟨q22, q23, q24⟩, hN.congr (o3 281 (by omega))⟩ (fun k x G4 x0 x1 hI kk => ?_)
  obtain ⟨i1, i2, i3, i4, ⟨i5, i6, i7⟩, i8⟩ := hI
  have l4 : Low G4 W := fun k q0 q1 => by rw [i3 k (by omega)]; exact l k q0 q1
  refine l_allRows l4 hW ⟨fun c => ?_, fun c => ?_⟩
  · have ex : x = allRW W := by omega
    rw [ex] at i4 i5 i6 i7 i8
    refine h G4 i1 i2 i3 (fun r r0 r1 => ?_) ⟨i5, i6, i7⟩ i8
    rw [i4 r r0 r1]
    by_cases c2 : r < allRW W
    · rw [if_pos c2]
    · rw [if_neg c2]
      unfold hyV
      rw [if_neg (fun w => c2 w.1.2)]
  · have nb := fun d (d0 : 0 ≤ d) => nR_b (tf := tf) hW hs (r := x.toNat) (by omega) (d := d) d0
    have dr := due_rng hW hs ⟨x0, c⟩
    have es := nR_s (tf := tf) (W := W) (s := s) x0
    have fs := foN_s (tf := tf) (W := W) (s := s) x0
    have rs : rhV tf W s (x + 1) = rhV tf W s x + b2 (tkR tf W s x) := sumZ_s x0
    have os : roV tf W s (x + 1) = roV tf W s x + b2 (outR tf W s x) := sumZ_s x0
    have r0 : 0 ≤ rhV tf W s x ∧ rhV tf W s x ≤ x := by
      refine ⟨sumZ_ge (fun _ _ _ => b2_ge), ?_⟩
      have := sumZ_le (f := fun r => b2 (tkR tf W s r)) (c := 1) x0 (fun _ _ _ => b2_le)
      unfold rhV
      omega
    have ro0 : 0 ≤ roV tf W s x ∧ roV tf W s x ≤ x := by
      refine ⟨sumZ_ge (fun _ _ _ => b2_ge), ?_⟩
      have := sumZ_le (f := fun r => b2 (outR tf W s r)) (c := 1) x0 (fun _ _ _ => b2_le)
      unfold roV
      omega
    refine l_dueOf l4 hW hs ⟨x0, c⟩ ⟨fun cd => ?_, fun cd => ?_⟩
    · have dr2 : 1 ≤ dueW W s x ∧ dueW W s x ≤ 999 := by omega
      refine m_wantsHymn (n := nR tf W s x.toNat) ⟨by omega, by omega⟩ (Or.inl rfl) (fun e e0 _ => by have := nb e e0; omega) i8 (fun G5 o5 n5 => ?_)
      have nb5 : ∀ X : Nat, -100000 ≤ need (plusH (nR tf W s x.toNat) (dueW W s x) 1) X ∧ need (plusH (nR tf W s x.toNat) (dueW W s x) 1) X ≤ 100000 := fun X => by
        have k := need_rng (n := plusH (nR tf W s x.toNat) (dueW W s x) 1) (fun e e0 _ => by
          have a := nb e e0
          have b := cntd_3 (h := dueW W s x) (e := e)
          unfold plusH
          omega) (X := X)
        omega
      have lb5 : ∀ X : Nat, -100000 ≤ can 43 (shW tf W) (cntW tf W) X ∧ can 43 (shW tf W) (cntW tf W) X ≤ 100000 := fun X => by
        have k := can_rng (D := shW tf W) lbW (X := X)
        omega
      have hC5 : HC G5 (shW tf W) (cntW tf W) := (hC.congr (i1 280 (by omega) (by omega) (by omega))).congr (o5 280 (by omega))
      refine m_lack nb5 lb5 hC5 n5 ⟨fun cl => ?_, fun cl => ?_⟩
      · have nt : ¬ tkR tf W s x := fun w => cl w.2
        have ot : outR tf W s x := ⟨cd, cl⟩
        rw [if_neg nt] at es
        rw [b2_f nt] at rs
        rw [b2_t ot] at os
        have hyx : hyV tf W s x = -1 := by
          unfold hyV
          rw [if_neg (fun w => nt w.2)]
        refine m_wantsHymn (n := plusH (nR tf W s x.toNat) (dueW W s x) 1) ⟨by omega, by omega⟩ (Or.inr rfl) (fun e e0 _ => by
          have a := nb e e0
          have b := cntd_3 (h := dueW W s x) (e := e)
          unfold plusH
          omega) n5 (fun G6 o6 n6 => ?_)
        rw [plusH_cancel] at n6
        have g6 : G6 272 = G4 272 := by rw [o6 272 (by omega), o5 272 (by omega)]
        have w6 : G6 273 = G4 273 := by rw [o6 273 (by omega), o5 273 (by omega)]
        rw [g6, i6]
        refine ⟨⟨by omega, by omega⟩, fun G7 e7 => ?_⟩
        have g24 : G7 272 24 = foN tf W s x.toNat := by rw [e7, upG_nk (by omega), g6]; exact i7
        -- what is the same for both ends
        have fin : ∀ (v : Int) (G8 : GH), G8 = upG G7 272 24 v → v = foN tf W s (x + 1).toNat → k (x + 1) G8 := fun v G8 e8 ev => by
          have o8 : ∀ y, y ≠ 272 → y ≠ 281 → G8 y = G4 y := fun y y0 y1 => by rw [e8, up_na y0, e7, up_na y0, o6 y y1, o5 y y1]
          refine kk G8 c ⟨fun y y0 y1 y2 => by rw [o8 y y0 y2]; exact i1 y y0 y1 y2, fun k hk => by rw [e8, upG_nk (by omega), e7, upG_nk (by omega), g6]; exact i2 k hk, fun k hk => by rw [o8 273 (by omega) (by omega)]; exact i3 k hk, fun r r0 r1 => ?_, ⟨by rw [e8, upG_nk (by omega), e7, upG_nk (by omega), g6, i5, rs]; omega, by rw [e8, upG_nk (by omega), e7, upG_same, os], by rw [e8, upG_same]; exact ev⟩, ?_⟩
          · rw [o8 273 (by omega) (by omega), i4 r r0 r1]
            by_cases c3 : r < x
            · rw [if_pos c3, if_pos (by omega)]
            · by_cases c4 : r = x
              · rw [if_neg c3, if_pos (by omega), c4, hyx]
              · rw [if_neg c3, if_neg (by omega)]
          · rw [es]
            exact n6.congr (by rw [e8, up_na (by omega), e7, up_na (by omega)])
        rw [g24]
        refine ⟨fun c5 G8 e8 => fin _ G8 e8 (by rw [fs, if_pos c5]), fun c5 G9 e9 => fin _ G9 e9 (by rw [fs, if_neg (by omega), if_pos ot])⟩
      · have tk : tkR tf W s x := ⟨cd, cl⟩
        have nt : ¬ outR tf W s x := fun w => w.2 cl
        rw [if_pos tk] at es
        rw [b2_t tk] at rs
        rw [b2_f nt] at os
        have hyx : hyV tf W s x = dueW W s x := if_pos ⟨⟨x0, c⟩, tk⟩
        have g5 : G5 272 = G4 272 := o5 272 (by omega)
        refine ⟨⟨by omega, by omega⟩, fun G10 e10 => ?_⟩
        have g10 : G10 272 = G4 272 := by rw [e10, up_na (by omega), g5]
        rw [g10, i5]
        refine ⟨⟨by omega, by omega⟩, fun G11 e11 => kk G11 c ⟨fun y y0 y1 y2 => by rw [e11, up_na y0, e10, up_na y1, o5 y y2]; exact i1 y y0 y1 y2, fun k hk => by rw [e11, upG_nk (by omega), g10]; exact i2 k hk, fun k hk => by rw [e11, up_na (by omega), e10, upG_nk (by omega), o5 273 (by omega)]; exact i3 k hk, fun r r0 r1 => ?_, ⟨by rw [e11, upG_same, rs], by rw [e11, upG_nk (by omega), g10, i6, os]; omega, ?_⟩, ?_⟩⟩
        · show G11 273 (438 + r).toNat = _
          by_cases c4 : r = x
          · rw [c4, if_pos (by omega), hyx, e11, up_na (by omega), e10, upG_same]
          · have k4 : G4 273 (438 + r).toNat = _ := i4 r r0 r1
            rw [e11, up_na (by omega), e10, upG_nk (by omega), o5 273 (by omega), k4]
            by_cases c3 : r < x
            · rw [if_pos c3, if_pos (by omega)]
            · rw [if_neg c3, if_neg (by omega)]
        · rw [e11, upG_nk (by omega), g10, i7, fs]
          by_cases c5 : foN tf W s x.toNat = -1
          · rw [if_neg (by omega), if_neg nt, c5]
          · rw [if_pos c5]
        · rw [es]
          exact n5.congr (by rw [e11, up_na (by omega), e10, up_na (by omega)])
    · have nt : ¬ tkR tf W s x := fun w => w.1 cd
      have no : ¬ outR tf W s x := fun w => w.1 cd
      rw [if_neg nt] at es
      rw [b2_f nt] at rs
      rw [b2_f no] at os
      have hyx : hyV tf W s x = -1 := by
        unfold hyV
        rw [if_neg (fun w => nt w.2)]
      refine kk G4 c ⟨i1, i2, i3, fun r r0 r1 => ?_, ⟨by rw [i5, rs]; omega, by rw [i6, os]; omega, ?_⟩, by rw [es]; exact i8⟩
      · rw [i4 r r0 r1]
        by_cases c3 : r < x
        · rw [if_pos c3, if_pos (by omega)]
        · by_cases c4 : r = x
          · rw [if_neg c3, if_pos (by omega), c4, hyx]
          · rw [if_neg c3, if_neg (by omega)]
      · rw [i7, fs]
        by_cases c5 : foN tf W s x.toNat = -1
        · rw [if_neg (by omega), if_neg no, c5]
        · rw [if_pos c5]
theorem m_dueDigit {Q : Int → Prop} {p : Int} (hp : 0 ≤ p ∧ p < 54) (hr : hunW (G 273) (p / 3) = -1 ∨ (1 ≤ hunW (G 273) (p / 3) ∧ hunW (G 273) (p / 3) ≤ 999)) (hq : Q (ddW (G 273) p)) : f_X10_dueDigit p G Q := by
  unfold f_X10_dueDigit
  unfold ddW at hq
  refine ⟨hp.1, ⟨by omega, by omega⟩, fun c => ?_, fun c => ?_⟩
  · rw [if_neg c] at hq
    have hr2 : 1 ≤ hunW (G 273) (p / 3) ∧ hunW (G 273) (p / 3) ≤ 999 := hr.resolve_left c
    refine joinI1 (P := fun v => v = unitW (p % 3) ∧ 0 < v) (fun v hv => ?_) (fun k hk => ⟨fun c1 => ⟨fun c2 => ?_, fun c2 => ?_⟩, fun c1 => ?_⟩)
    · obtain ⟨rfl, hv⟩ := hv
      refine ⟨fun c1 => ⟨?_, hv, ?_, ?_⟩, fun c1 => ?_⟩
      · show 0 ≤ hunW (G 273) (p / 3); omega
      · exact Int.ediv_nonneg (show 0 ≤ hunW (G 273) (p / 3) by omega) (by omega)
      · rw [if_neg (Int.not_lt.mpr c1)] at hq; exact hq
      · rw [if_pos c1] at hq; exact hq
    · exact hk _ ⟨by unfold unitW; rw [if_neg c1, if_neg c2], by omega⟩
    · exact hk _ ⟨by unfold unitW; rw [if_neg c1, if_pos c2], by omega⟩
    · exact hk _ ⟨by unfold unitW; rw [if_pos c1], by omega⟩
  · rw [if_pos c] at hq; exact hq
/-- a sort is tried at a place -/
theorem m_gives {Q : Int → GH → Prop} {L n : Int → Int} {p d x : Int} (hW : WF j W) (l : Low G W) (ht : G 272 17 = tf) (hp : 0 ≤ p ∧ p < 54) (hd : 0 ≤ d ∧ d ≤ 9) (hx : 0 ≤ x ∧ x < 43) (lb : Lb L) (nb : Nb n) (hC : HC G (shW tf W) L) (hN : HN G n) (hL : HLf G L)
    (h1 : ∀ G' : GH, 0 < L x → inS (shW tf W x) d → lackV 43 (shW tf W) (bump L x (-1)) n = 0 → (∀ y, y ≠ 273 → y ≠ 280 → y ≠ 282 → G' y = G y) → (∀ k, ¬ ((276 + 3 * p).toNat ≤ k ∧ k < (276 + 3 * p).toNat + 3) → G' 273 k = G 273 k) → plaW (G' 273) p 0 = d ∧ plaW (G' 273) p 1 = x ∧ plaW (G' 273) p 2 = wayW tf W x d → HC G' (shW tf W) (bump L x (-1)) → HLf G' (bump L x (-1)) → Q 1 G')
    (h0 : ∀ G' : GH, ¬ (0 < L x ∧ inS (shW tf W x) d ∧ lackV 43 (shW tf W) (bump L x (-1)) n = 0) → (∀ y, y ≠ 280 → G' y = G y) → HC G' (shW tf W) L → Q 0 G') : f_X10_gives p d x G Q := by
  unfold f_X10_gives
  have lx := lb x hx.1 hx.2
  have gl := hL x hx.1 hx.2
  refine l_way l ht ⟨hx.1, by omega⟩ ⟨hx, ?_⟩
  rw [gl]
  refine ⟨fun c => h0 G (fun w => by have := w.1; omega) (fun _ _ => rfl) hC, fun c => ⟨fun cw => ?_, fun cw => h0 G (fun w => (shW_in (by omega)).mp w.2.1 cw) (fun _ _ => rfl) hC⟩⟩
  have inx : inS (shW tf W x) d := (shW_in (by omega)).mpr cw
  have lb0 : ∀ X : Nat, -100000 ≤ can 43 (shW tf W) L X ∧ can 43 (shW tf W) L X ≤ 100000 := fun X => by
    have k := can_rng (D := shW tf W) lb (X := X)
    omega
  have lb1 : ∀ X : Nat, -100000 ≤ can 43 (shW tf W) (bump L x (-1)) X ∧ can 43 (shW tf W) (bump L x (-1)) X ≤ 100000 := fun X => by
    have k := can_rng (D := shW tf W) lb (X := X)
    have k2 := can_bump (S := 43) (D := shW tf W) (L := L) (v := -1) (X := X) hx
    rw [k2]
    split <;> omega
  have nb0 : ∀ X : Nat, -100000 ≤ need n X ∧ need n X ≤ 100000 := fun X => by
    have k := need_rng nb (X := X)
    omega
  refine l_shows l ht ⟨hx.1, by omega⟩ (m_brings hx (by omega) shW_lt lb0 hC (fun G1 o1 c1 => m_lack nb0 lb1 c1 (hN.congr (o1 281 (by omega))) ⟨fun cl => ?_, fun cl => ?_⟩))
  · have g1 : G1 282 x.toNat = L x := by rw [o1 282 (by omega)]; exact gl
    have lk : lackV 43 (shW tf W) (bump L x (-1)) n = 0 := by
      have : 0 ≤ lackV 43 (shW tf W) (bump L x (-1)) n := maxN_ge 1024
      omega
    rw [g1]
    refine ⟨⟨by omega, by omega⟩, fun G2 e2 => p10_placeAt (by omega) (by omega) ⟨⟨by omega, by omega⟩, fun G3 e3 => p10_placeAt (by omega) (by omega) ⟨⟨by omega, by omega⟩, fun G4 e4 => p10_placeAt (by omega) (by omega) ⟨⟨by omega, by omega⟩, fun G5 e5 => ?_⟩⟩⟩⟩
    refine h1 G5 (by omega) inx lk (fun y y0 y1 y2 => by rw [e5, up_na y0, e4, up_na y0, e3, up_na y0, e2, up_na y2, o1 y y1]) (fun k hk => by rw [e5, upG_nk (by omega), e4, upG_nk (by omega), e3, upG_nk (by omega), e2, up_na (by omega), o1 273 (by omega)]) ⟨?_, ?_, ?_⟩ (c1.congr (by rw [e5, up_na (by omega), e4, up_na (by omega), e3, up_na (by omega), e2, up_na (by omega)])) (fun y y0 y1 => ?_)
    · show G5 273 ((276 + (3 * p)) + 0).toNat = d
      rw [e5, upG_nk (by omega), e4, upG_nk (by omega), e3, upG_same]
    · show G5 273 ((276 + (3 * p)) + 1).toNat = x
      rw [e5, upG_nk (by omega), e4, upG_same]
    · show G5 273 ((276 + (3 * p)) + 2).toNat = wayW tf W x d
      rw [e5, upG_same]
    · rw [e5, up_na (by omega), e4, up_na (by omega), e3, up_na (by omega), e2]
      by_cases e : y = x
      · rw [e, upG_same, bump_eq]; omega
      · rw [upG_nk (by omega), bump_ne e, o1 282 (by omega)]; exact hL y y0 y1
  · refine m_brings hx (by omega) shW_lt lb1 c1 (fun G6 o6 c6 => h0 G6 (fun w => by omega) (fun y hy => by rw [o6 y hy, o1 y hy]) ?_)
    rw [show bump (bump L x (-1)) x 1 = L from bump_cancel (v := -1)] at c6
    exact c6
theorem Nb_st (hW : WF j W) (hs : 0 ≤ s ∧ s < W 5) (ht : -1 ≤ tf ∧ tf ≤ 9) {p : Nat} (hp : (p : Int) ≤ 3 * allRW W) {d : Int} (d0 : 0 ≤ d) (d1 : d < 10) : 0 ≤ (stP tf W s p).2 d ∧ (stP tf W s p).2 d ≤ 54 := by
  have I := (stP_inv hW hs ht p hp).2.2.1 d d0 d1
  have al := hW.allR
  have m := sumZ_le2 (f := fun q => b2 (ddV tf W s q = d)) (x := (p : Int)) (y := 3 * allRW W) (by omega) hp (fun _ _ => b2_ge)
  have z := sumZ_ge (f := fun q => b2 (ddV tf W s q = d)) (x := (p : Int)) (fun _ _ _ => b2_ge)
  have t := sumZ_le (f := fun q => b2 (ddV tf W s q = d)) (c := 1) (x := 3 * allRW W) (by omega) (fun _ _ _ => b2_le)
  omega
theorem m_hangsPlaces {Q : GH → Prop} (hW : WF j W) (hs : 0 ≤ s ∧ s < W 5) (ht : -1 ≤ tf ∧ tf ≤ 9) (ht2 : G 272 17 = tf) (l : Low G W) (hu : ∀ r, 0 ≤ r → r < 18 → hunW (G 273) r = hyV tf W s r) (hC : HC G (shW tf W) (cntW tf W)) (hL : HLf G (cntW tf W)) (hN : HN G (nR tf W s (allRW W).toNat))
    (h : ∀ G' : GH, (∀ x, x ≠ 273 → ¬ (280 ≤ x ∧ x ≤ 282) → G' x = G x) → (∀ k : Nat, ¬ (276 ≤ k ∧ (k : Int) < 276 + 9 * allRW W) → G' 273 k = G 273 k) → (∀ p, 0 ≤ p → p < 3 * allRW W → (ddV tf W s p ≠ -1 → plaW (G' 273) p 0 = ddV tf W s p ∧ plaW (G' 273) p 1 = soP tf W s p ∧ plaW (G' 273) p 2 = wayW tf W (soP tf W s p) (ddV tf W s p)) ∧ (ddV tf W s p = -1 → plaW (G' 273) p 0 = plaW (G 273) p 0 ∧ plaW (G' 273) p 1 = plaW (G 273) p 1 ∧ plaW (G' 273) p 2 = plaW (G 273) p 2)) → Q G') : f_X10_hangsPlaces G Q := by
  have al := hW.allR
  have lbW := cnt43 hW ht
  unfold f_X10_hangsPlaces
  refine up_loop (fun x G1 => (∀ y, y ≠ 273 → ¬ (280 ≤ y ∧ y ≤ 282) → G1 y = G y) ∧ (∀ k : Nat, ¬ (276 ≤ k ∧ (k : Int) < 276 + 3 * x) → G1 273 k = G 273 k) ∧ (∀ p, 0 ≤ p → p < x → (ddV tf W s p ≠ -1 → plaW (G1 273) p 0 = ddV tf W s p ∧ plaW (G1 273) p 1 = soP tf W s p ∧ plaW (G1 273) p 2 = wayW tf W (soP tf W s p) (ddV tf W s p)) ∧ (ddV tf W s p = -1 → plaW (G1 273) p 0 = plaW (G 273) p 0 ∧ plaW (G1 273) p 1 = plaW (G 273) p 1 ∧ plaW (G1 273) p 2 = plaW (G 273) p 2)) ∧ HC G1 (shW tf W) (stP tf W s x.toNat).1 ∧ HLf G1 (stP tf W s x.toNat).1 ∧ HN G1 (stP tf W s x.toNat).2) 0 (3 * allRW W) (by omega) ⟨fun _ _ _ => rfl, fun _ _ => rfl, fun p p0 p1 => by omega, hC, hL, hN⟩ (fun k x G1 x0 x1 hI kk => ?_)
  obtain ⟨i1, i2, i3, i4, i5, i6⟩ := hI
  have l1 : Low G1 W := fun k q0 q1 => by rw [i2 k (by omega)]; exact l k q0 q1
  refine l_allRows l1 hW ⟨⟨by omega, by omega⟩, fun c => ?_, fun c => ?_⟩
  · have ex : x = 3 * allRW W := by omega
    rw [ex] at i2 i3
    exact h G1 i1 (fun k hk => i2 k (by omega)) i3
  · have hu1 : ∀ r, 0 ≤ r → r < 18 → hunW (G1 273) r = hyV tf W s r := fun r r0 r1 => by
      have e : hunW (G1 273) r = hunW (G 273) r := i2 _ (by omega)
      rw [e]; exact hu r r0 r1
    have hh := hyV_rng (tf := tf) (r := x / 3) hW hs
    have hux := hu1 (x / 3) (by omega) (by omega)
    have ed : ddW (G1 273) x = ddV tf W s x := by
      show ddW (G1 273) x = ddH (hyV tf W s) x
      unfold ddW ddH
      rw [hux]
    refine m_dueDigit ⟨x0, by omega⟩ (by rw [hux]; exact hh) ?_
    rw [ed]
    have dr : -1 ≤ ddV tf W s x ∧ ddV tf W s x ≤ 9 := ddH_rng hh
    have es := stP_s (tf := tf) (W := W) (s := s) x0
    have I := stP_inv (tf := tf) hW hs ht x.toNat (by omega)
    have t1 : G1 272 17 = tf := by rw [i1 272 (by omega) (by omega)]; exact ht2
    refine ⟨fun cd => ?_, fun cd => ?_⟩
    · rw [if_neg cd] at es
      have hd : 0 ≤ ddV tf W s x ∧ ddV tf W s x < 10 := by omega
      have nbx := fun d (d0 : 0 ≤ d) (d1 : d < 10) => Nb_st (tf := tf) hW hs ht (p := x.toNat) (by omega) d0 d1
      have lbx : Lb (stP tf W s x.toNat).1 := fun y y0 y1 => by
        have a := I.2.1 y y0 y1
        have b := lbW y y0 y1
        omega
      obtain ⟨k1, k2, k3⟩ := I.pick hW ht ⟨x0, c⟩ hd
      refine m_wants (n := (stP tf W s x.toNat).2) hd (by omega) (fun d d0 d1 => by have := nbx d d0 d1; omega) i6 (fun G2 o2 n2 => ?_)
      have nb2 : Nb (bump (stP tf W s x.toNat).2 (ddV tf W s x) (-1)) := fun d d0 d1 => by
        have := nbx d d0 d1
        unfold bump
        split <;> omega
      refine loopI2 (I := fun y G3 => (0 ≤ y ∧ y ≤ soP tf W s x) ∧ (∀ z, z ≠ 280 → G3 z = G2 z) ∧ HC G3 (shW tf W) (stP tf W s x.toNat).1) (μ := fun y _ => (43 - y).toNat) (fun k2' y G3 hI2 ih => ?_) 0 G2 ⟨by omega, fun _ _ => rfl, i4.congr (o2 280 (by omega))⟩
      obtain ⟨hy, o3, c3⟩ := hI2
      have o32 : ∀ z, z ≠ 280 → z ≠ 281 → G3 z = G1 z := fun z z0 z1 => by rw [o3 z z0, o2 z z1]
      have l3 : Low G3 W := fun k q0 q1 => by rw [o32 273 (by omega) (by omega)]; exact l1 k q0 q1
      refine m_gives (L := (stP tf W s x.toNat).1) (n := bump (stP tf W s x.toNat).2 (ddV tf W s x) (-1)) hW l3 (by rw [o32 272 (by omega) (by omega)]; exact t1) ⟨x0, by omega⟩ ⟨hd.1, dr.2⟩ ⟨hy.1, by omega⟩ lbx nb2 c3 (n2.congr (o3 281 (by omega))) (i5.congr (o32 282 (by omega) (by omega))) (fun G4 g1 g2 g3 o4 p4 v4 hc4 hl4 => ⟨fun _ => ?_, fun w => by omega⟩) (fun G4 ng o4 hc4 => ⟨fun w => absurd rfl w, fun _ => ⟨⟨by omega, by omega⟩, ih _ _ ⟨?_, fun z z0 => by rw [o4 z z0]; exact o3 z z0, hc4⟩ (by omega)⟩⟩)
      · have ey : y = soP tf W s x := by
          refine Classical.byContradiction fun w => k3 y hy.1 (by omega) ⟨g1, g2, g3⟩
        refine kk G4 c ⟨fun z z0 z1 => by rw [o4 z z0 (by omega) (by omega), o32 z (by omega) (by omega)]; exact i1 z z0 z1, fun k hk => by rw [p4 k (by omega), o32 273 (by omega) (by omega)]; exact i2 k (by omega), fun p p0 p1 => ?_, ?_, ?_, ?_⟩
        · by_cases e : p = x
          · rw [e]
            rw [ey] at v4
            exact ⟨fun _ => v4, fun w => absurd w cd⟩
          · have z : ∀ h9 : Int, 0 ≤ h9 → h9 < 3 → plaW (G4 273) p h9 = plaW (G1 273) p h9 := fun h9 a0 a1 => by
              show G4 273 _ = G1 273 _
              rw [p4 _ (by omega), o32 273 (by omega) (by omega)]
            rw [z 0 (by omega) (by omega), z 1 (by omega) (by omega), z 2 (by omega) (by omega)]
            exact i3 p p0 (by omega)
        · rw [es]
          rw [ey] at hc4
          exact hc4
        · rw [es]
          rw [ey] at hl4
          exact hl4
        · rw [es]
          exact (n2.congr (o3 281 (by omega))).congr (o4 281 (by omega) (by omega) (by omega))
      · refine ⟨by omega, ?_⟩
        refine Classical.byContradiction fun w => ?_
        have ey : y = soP tf W s x := by omega
        exact ng (by rw [ey]; exact k1)
    · rw [if_pos cd] at es
      refine kk G1 c ⟨i1, fun k hk => i2 k (by omega), fun p p0 p1 => ?_, by rw [es]; exact i4, by rw [es]; exact i5, by rw [es]; exact i6⟩
      by_cases e : p = x
      · rw [e]
        exact ⟨fun w => absurd cd w, fun _ => ⟨i2 _ (by omega), i2 _ (by omega), i2 _ (by omega)⟩⟩
      · exact i3 p p0 (by omega)
end MH
