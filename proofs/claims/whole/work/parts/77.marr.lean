-- ===== PURE LAYER: the reference's sets: what can be shown, what is needed, the lack =====
def HC (G : GH) (D : Int → Nat) (L : Int → Int) : Prop := ∀ X : Nat, X < 1024 → G 280 X = can 43 D L X
def HN (G : GH) (n : Int → Int) : Prop := ∀ X : Nat, X < 1024 → G 281 X = need n X
def HLf (G : GH) (L : Int → Int) : Prop := ∀ s : Int, 0 ≤ s → s < 43 → G 282 s.toNat = L s
def Lb (L : Int → Int) : Prop := ∀ s : Int, 0 ≤ s → s < 43 → 0 ≤ L s ∧ L s ≤ 1000
def Nb (n : Int → Int) : Prop := ∀ d : Int, 0 ≤ d → d < 10 → -1000 ≤ n d ∧ n d ≤ 1000
theorem HC.congr {G G' : GH} {D : Int → Nat} {L : Int → Int} (h : HC G D L) (e : G' 280 = G 280) : HC G' D L := fun X hX => by rw [e]; exact h X hX
theorem HN.congr {G G' : GH} {n : Int → Int} (h : HN G n) (e : G' 281 = G 281) : HN G' n := fun X hX => by rw [e]; exact h X hX
theorem HLf.congr {G G' : GH} {L : Int → Int} (h : HLf G L) (e : G' 282 = G 282) : HLf G' L := fun s s0 s1 => by rw [e]; exact h s s0 s1
theorem need_rng {n : Int → Int} (h : Nb n) {X : Nat} : -10000 ≤ need n X ∧ need n X ≤ 10000 := by
  have h1 : need n X ≤ 1000 * 10 := sumZ_le (by omega) (fun i i0 i1 => by
    have := h i i0 i1
    show (if inS X i then n i else 0) ≤ 1000
    split <;> omega)
  have h2 : 0 ≤ sumZ (fun d => (if inS X d then n d else 0) + 1000) 10 := sumZ_ge (fun i i0 i1 => by
    have := h i i0 i1
    show 0 ≤ (if inS X i then n i else 0) + 1000
    split <;> omega)
  rw [sumZ_add] at h2
  have h3 : sumZ (fun _ => (1000 : Int)) 10 ≤ 1000 * 10 := sumZ_le (by omega) (fun _ _ _ => Int.le_refl _)
  have e : need n X = sumZ (fun d => if inS X d then n d else 0) 10 := rfl
  omega
theorem can_rng {D : Int → Nat} {L : Int → Int} (h : Lb L) {X : Nat} : 0 ≤ can 43 D L X ∧ can 43 D L X ≤ 43000 := by
  have h1 : can 43 D L X ≤ 1000 * 43 := sumZ_le (by omega) (fun i i0 i1 => by
    have := h i i0 i1
    show (if mts (D i) X then L i else 0) ≤ 1000
    split <;> omega)
  have h2 : 0 ≤ can 43 D L X := sumZ_ge (fun i i0 i1 => by
    have := h i i0 i1
    show 0 ≤ (if mts (D i) X then L i else 0)
    split <;> omega)
  omega
section MA
variable {G : GH} {D : Int → Nat} {L n : Int → Int} {d v s : Int}
theorem m_wants {Q : GH → Prop} (hd : 0 ≤ d ∧ d < 10) (hv : -1000 ≤ v ∧ v ≤ 1000) (nb : Nb n) (hN : HN G n) (h : ∀ G' : GH, (∀ x, x ≠ 281 → G' x = G x) → HN G' (bump n d v) → Q G') : f_X10_wants d v G Q := by
  unfold f_X10_wants
  refine up_loop (fun x G1 => (∀ y, y ≠ 281 → G1 y = G y) ∧ (∀ X : Nat, (X : Int) < x → G1 281 X = need (bump n d v) X) ∧ (∀ X : Nat, x ≤ (X : Int) → X < 1024 → G1 281 X = need n X)) 0 1024 (by omega) ⟨fun _ _ => rfl, fun X hX => by omega, fun X _ hX => hN X hX⟩ (fun k x G1 x0 x1 hI kk => ?_)
  obtain ⟨i1, i2, i3⟩ := hI
  refine ⟨fun c => h G1 i1 (fun X hX => i2 X (by omega)), fun c => ⟨⟨x0, c⟩, ?_⟩⟩
  have g := i3 x.toNat (by omega) (by omega)
  have nr := need_rng nb (X := x.toNat)
  have zb := zbit (x := x) (d := d) x0 (by omega) hd.1 (by omega)
  have nbp := need_bump (n := n) (v := v) (X := x.toNat) hd
  rw [zb, g]
  have step : ∀ G2 : GH, G2 = upG G1 281 x.toNat (need (bump n d v) x.toNat) → k (x + 1) G2 := fun G2 e2 => kk G2 c ⟨fun y hy => by rw [e2, up_na hy]; exact i1 y hy, fun X hX => by
    by_cases e : X = x.toNat
    · rw [e2, e, upG_same]
    · rw [e2, upG_nk e]; exact i2 X (by omega), fun X hX hX2 => by rw [e2, upG_nk (by omega)]; exact i3 X (by omega) hX2⟩
  by_cases cb : inS x.toNat d
  · rw [if_pos cb] at nbp
    rw [if_pos cb]
    refine ⟨fun w => absurd rfl w, fun _ => ⟨⟨by omega, by omega⟩, fun G3 e3 => step G3 (by rw [e3, nbp])⟩⟩
  · rw [if_neg cb] at nbp
    rw [if_neg cb]
    refine ⟨fun _ => ⟨⟨by omega, by omega⟩, fun G3 e3 => step G3 (by rw [e3, nbp])⟩, fun w => by omega⟩
theorem m_wantsHymn {Q : GH → Prop} {hy : Int} (hh : 0 ≤ hy ∧ hy ≤ 999) (hv : v = 1 ∨ v = -1) (nb : ∀ e : Int, 0 ≤ e → e < 10 → -900 ≤ n e ∧ n e ≤ 900) (hN : HN G n) (h : ∀ G' : GH, (∀ x, x ≠ 281 → G' x = G x) → HN G' (plusH n hy v) → Q G') : f_X10_wantsHymn hy v G Q := by
  unfold f_X10_wantsHymn
  have c3 : ∀ a e : Int, 0 ≤ cntd a e ∧ cntd a e ≤ 3 := fun a e => by
    refine ⟨cntd_ge, ?_⟩
    unfold cntd
    have p := b2_le (p := 0 < a ∧ a % 10 = e)
    have q := b2_le (p := 0 < a / 10 ∧ a / 10 % 10 = e)
    have r := b2_le (p := 0 < a / 10 / 10 ∧ a / 10 / 10 % 10 = e)
    omega
  refine loopI2 (I := fun r G1 => (0 ≤ r ∧ r ≤ 999) ∧ (∀ x, x ≠ 281 → G1 x = G x) ∧ HN G1 (fun e => n e + v * (cntd hy e - cntd r e))) (μ := fun r _ => r.toNat) (fun k r G1 hI ih => ?_) hy G ⟨hh, fun _ _ => rfl, ?_⟩
  · obtain ⟨hr, ho, hn1⟩ := hI
    refine ⟨fun c => h G1 ho ?_, fun c => ⟨hr.1, ?_⟩⟩
    · have e2 : (fun e => n e + v * (cntd hy e - cntd r e)) = plusH n hy v := by
        funext e
        unfold plusH
        rw [cntd_0 (h := r) (by omega), Int.sub_zero]
      rw [e2] at hn1; exact hn1
    · refine m_wants (n := fun e => n e + v * (cntd hy e - cntd r e)) (by omega) (by omega) (fun e e0 e1 => ?_) hn1 (fun G2 o2 n2 => ih _ _ ⟨by omega, fun x hx => by rw [o2 x hx]; exact ho x hx, ?_⟩ (by omega))
      · have a := c3 hy e
        have b := c3 r e
        have := nb e e0 e1
        show -1000 ≤ n e + v * (cntd hy e - cntd r e) ∧ n e + v * (cntd hy e - cntd r e) ≤ 1000
        rcases hv with rfl | rfl <;> omega
      · have e2 : bump (fun e => n e + v * (cntd hy e - cntd r e)) (r % 10) v = (fun e => n e + v * (cntd hy e - cntd (r / 10) e)) := by
          funext e
          unfold bump
          dsimp only
          have a := cntd_s (e := e) c hr.2
          by_cases q : e = r % 10
          · rw [b2_t q.symm] at a
            rw [if_pos q]
            rcases hv with rfl | rfl <;> omega
          · rw [b2_f (fun w => q w.symm)] at a
            rw [if_neg q]
            rcases hv with rfl | rfl <;> omega
        rw [e2] at n2; exact n2
  · have e2 : (fun e => n e + v * (cntd hy e - cntd hy e)) = n := by
      funext e
      rcases hv with rfl | rfl <;> omega
    rw [e2]; exact hN
theorem m_brings {Q : GH → Prop} (hs : 0 ≤ s ∧ s < 43) (hv : -1000 ≤ v ∧ v ≤ 1000) (hD : D s < 1024) (lb : ∀ X : Nat, -100000 ≤ can 43 D L X ∧ can 43 D L X ≤ 100000) (hC : HC G D L) (h : ∀ G' : GH, (∀ x, x ≠ 280 → G' x = G x) → HC G' D (bump L s v) → Q G') : f_X10_brings ((D s : Nat) : Int) v G Q := by
  unfold f_X10_brings
  refine up_loop (fun x G1 => (∀ y, y ≠ 280 → G1 y = G y) ∧ (∀ X : Nat, (X : Int) < x → G1 280 X = can 43 D (bump L s v) X) ∧ (∀ X : Nat, x ≤ (X : Int) → X < 1024 → G1 280 X = can 43 D L X)) 0 1024 (by omega) ⟨fun _ _ => rfl, fun X hX => by omega, fun X _ hX => hC X hX⟩ (fun k x G1 x0 x1 hI kk => ?_)
  obtain ⟨i1, i2, i3⟩ := hI
  refine ⟨fun c => h G1 i1 (fun X hX => i2 X (by omega)), fun c => ⟨⟨x0, c⟩, ?_⟩⟩
  have g := i3 x.toNat (by omega) (by omega)
  have nr := lb x.toNat
  have nbp := can_bump (S := 43) (D := D) (L := L) (v := v) (X := x.toNat) hs
  have za : zAnd x ((D s : Nat) : Int) = ((x.toNat &&& D s : Nat) : Int) := by
    have k := zAnd_n (x := x.toNat) (y := D s) (by omega)
    rw [show ((x.toNat : Nat) : Int) = x by omega] at k
    exact k
  have cm : x.toNat &&& D s = D s &&& x.toNat := Nat.and_comm _ _
  rw [za, cm, g]
  have step : ∀ G2 : GH, G2 = upG G1 280 x.toNat (can 43 D (bump L s v) x.toNat) → k (x + 1) G2 := fun G2 e2 => kk G2 c ⟨fun y hy => by rw [e2, up_na hy]; exact i1 y hy, fun X hX => by
    by_cases e : X = x.toNat
    · rw [e2, e, upG_same]
    · rw [e2, upG_nk e]; exact i2 X (by omega), fun X hX hX2 => by rw [e2, upG_nk (by omega)]; exact i3 X (by omega) hX2⟩
  by_cases cb : mts (D s) x.toNat
  · rw [if_pos cb] at nbp
    have cb2 : D s &&& x.toNat ≠ 0 := cb
    refine ⟨fun w => absurd (by omega : D s &&& x.toNat = 0) cb2, fun _ => ⟨⟨by omega, by omega⟩, fun G3 e3 => step G3 (by rw [e3, nbp])⟩⟩
  · rw [if_neg cb] at nbp
    have cb2 : D s &&& x.toNat = 0 := Classical.byContradiction fun w => cb w
    refine ⟨fun _ => ⟨⟨by omega, by omega⟩, fun G3 e3 => step G3 (by rw [e3, nbp])⟩, fun w => absurd (by rw [cb2]; rfl) w⟩
theorem m_lack {Q : Int → Prop} (nb : ∀ X : Nat, -100000 ≤ need n X ∧ need n X ≤ 100000) (lb : ∀ X : Nat, -100000 ≤ can 43 D L X ∧ can 43 D L X ≤ 100000) (hC : HC G D L) (hN : HN G n) (h : Q (lackV 43 D L n)) : f_X10_lack G Q := by
  unfold f_X10_lack
  refine loopI2 (I := fun acc x => (0 ≤ x ∧ x ≤ 1024) ∧ acc = maxN (fun X => need n X.toNat - can 43 D L X.toNat) x.toNat) (μ := fun _ x => (1024 - x).toNat) (fun k acc x hI ih => ?_) 0 0 ⟨by omega, rfl⟩
  obtain ⟨hx, rfl⟩ := hI
  refine ⟨fun c => ?_, fun c => ⟨⟨hx.1, c⟩, ?_⟩⟩
  · rw [show x = 1024 by omega]; exact h
  · have g1 := hC x.toNat (by omega)
    have g2 := hN x.toNat (by omega)
    have b1 := nb x.toNat
    have b2' := lb x.toNat
    rw [g1, g2]
    refine ⟨⟨by omega, by omega⟩, ih _ _ ⟨by omega, ?_⟩ (by omega)⟩
    rw [show (x + 1).toNat = x.toNat + 1 by omega]
    show _ = max (maxN (fun X => need n X.toNat - can 43 D L X.toNat) x.toNat) (need n ((x.toNat : Nat) : Int).toNat - can 43 D L ((x.toNat : Nat) : Int).toNat)
    rw [Int.toNat_natCast]
/-- the cards that there are, or those that do not hang -/
theorem m_laysCards {W : WT} {j tf fr : Int} {Q : GH → Prop} (l : Low G W) (hW : WF j W) (ht : G 272 17 = tf) (hL : ∀ s : Int, 0 ≤ s → s < 43 → L s = cntW tf W s - (if fr = 0 then 0 else hgW (G 273) s)) (lb : Lb L) (cr : ∀ s : Int, 0 ≤ s → s < 43 → 0 ≤ cntW tf W s ∧ cntW tf W s ≤ 1000)
    (h : ∀ G' : GH, (∀ x, ¬ (280 ≤ x ∧ x ≤ 282) → G' x = G x) → HC G' (shW tf W) L → HN G' (fun _ => 0) → HLf G' L → Q G') : f_X10_laysCards fr G Q := by
  unfold f_X10_laysCards
  refine up_loop (fun x G1 => (∀ y, ¬ (280 ≤ y ∧ y ≤ 281) → G1 y = G y) ∧ (∀ X : Nat, (X : Int) < x → G1 280 X = 0 ∧ G1 281 X = 0)) 0 1024 (by omega) ⟨fun _ _ => rfl, fun X hX => by omega⟩ (fun k x G1 x0 x1 hI kk => ?_)
  obtain ⟨i1, i2⟩ := hI
  refine ⟨fun c => ?_, fun c => ⟨⟨x0, c⟩, fun G5 e5 G6 e6 => kk G6 c ⟨fun y hy => by rw [e6, up_na (by omega), e5, up_na (by omega)]; exact i1 y hy, fun X hX => ?_⟩⟩⟩
  · have z1 : HC G1 (shW tf W) (fun s => if s < 0 then L s else 0) := fun X hX => by
      rw [(i2 X (by omega)).1]
      exact (sumZ_zero (fun s s0 s1 => by
        show (if mts (shW tf W s) X then (if s < 0 then L s else 0) else 0) = 0
        rw [if_neg (show ¬ s < 0 by omega)]
        split <;> rfl)).symm
    have z2 : HN G1 (fun _ => 0) := fun X hX => by
      rw [(i2 X (by omega)).2]
      exact (sumZ_zero (fun s s0 s1 => by
        show (if inS X s then (0 : Int) else 0) = 0
        split <;> rfl)).symm
    refine up_loop (fun x G2 => (∀ y, ¬ (280 ≤ y ∧ y ≤ 282) → G2 y = G y) ∧ HC G2 (shW tf W) (fun s => if s < x then L s else 0) ∧ HN G2 (fun _ => 0) ∧ (∀ s : Int, 0 ≤ s → s < x → G2 282 s.toNat = L s)) 0 43 (by omega) ⟨fun y hy => i1 y (by omega), z1, z2, fun s s0 s1 => by omega⟩ (fun k2 x G2 x0 x1 hI2 kk2 => ?_)
    obtain ⟨o2, hc, hn, hl⟩ := hI2
    have l2 : Low G2 W := fun k q0 q1 => by rw [o2 273 (by omega)]; exact l k q0 q1
    have t2 : G2 272 17 = tf := by rw [o2 272 (by omega)]; exact ht
    refine ⟨fun c2 => ?_, fun c2 => ?_⟩
    · have ex : x = 43 := by omega
      rw [ex] at hc hl
      refine h G2 o2 (fun X hX => ?_) hn (fun s s0 s1 => hl s s0 s1)
      rw [hc X hX]
      exact sumZ_congr (fun s s0 s1 => by
        show (if mts (shW tf W s) X then (if s < 43 then L s else 0) else 0) = (if mts (shW tf W s) X then L s else 0)
        rw [if_pos s1])
    · have lx := lb x x0 c2
      have crx := cr x x0 c2
      have hLx := hL x x0 c2
      refine l_count l2 hW t2 (by omega) ?_
      refine joinI1 (P := fun v => v = if fr = 0 then 0 else hgW (G 273) x) (fun v hv => ?_) (fun jj hj => ⟨fun c3 => hj _ (by rw [if_pos c3]), fun c3 => p10_hanging (hj _ (by rw [if_neg c3, o2 273 (by omega)]))⟩)
      rw [hv, ← hLx]
      refine ⟨⟨by omega, by omega⟩, ⟨x0, c2⟩, fun G3 e3 => ?_⟩
      have v3 : G3 282 x.toNat = L x := by rw [e3, upG_same]
      rw [v3]
      have o3 : ∀ y, y ≠ 282 → G3 y = G2 y := fun y hy => by rw [e3, up_na hy]
      have hl3 : ∀ s : Int, 0 ≤ s → s < x + 1 → G3 282 s.toNat = L s := fun s s0 s1 => by
        by_cases e : s = x
        · rw [e]; exact v3
        · rw [e3, upG_nk (by omega)]; exact hl s s0 (by omega)
      have l3 : Low G3 W := fun k q0 q1 => by rw [o3 273 (by omega)]; exact l2 k q0 q1
      have cs : ∀ X : Nat, -100000 ≤ can 43 (shW tf W) (fun s => if s < x then L s else 0) X ∧ can 43 (shW tf W) (fun s => if s < x then L s else 0) X ≤ 100000 := fun X => by
        have := can_rng (D := shW tf W) (L := fun s => if s < x then L s else 0) (fun s s0 s1 => by
          have := lb s s0 s1
          show 0 ≤ (if s < x then L s else 0) ∧ (if s < x then L s else 0) ≤ 1000
          split <;> omega) (X := X)
        omega
      have eb : bump (fun s => if s < x then L s else 0) x (L x) = (fun s => if s < x + 1 then L s else 0) := by
        funext s
        unfold bump
        dsimp only
        by_cases e : s = x
        · rw [if_pos e, if_neg (by omega), if_pos (by omega), e]; omega
        · rw [if_neg e]
          by_cases c4 : s < x
          · rw [if_pos c4, if_pos (by omega)]
          · rw [if_neg c4, if_neg (by omega)]
      refine ⟨fun c3 => kk2 G3 c2 ⟨fun y hy => by rw [o3 y (by omega)]; exact o2 y hy, ?_, hn.congr (o3 281 (by omega)), hl3⟩, fun c3 => l_shows l3 (by rw [o3 272 (by omega)]; exact t2) (by omega) (m_brings ⟨x0, c2⟩ (by omega) shW_lt cs (hc.congr (o3 280 (by omega))) (fun G4 o4 hc4 => kk2 G4 c2 ⟨fun y hy => by rw [o4 y (by omega), o3 y (by omega)]; exact o2 y hy, by rw [← eb]; exact hc4, (hn.congr (o3 281 (by omega))).congr (o4 281 (by omega)), fun s s0 s1 => by rw [o4 282 (by omega)]; exact hl3 s s0 s1⟩))⟩
      have z : L x = 0 := by omega
      have ee : (fun s => if s < x then L s else 0) = (fun s => if s < x + 1 then L s else 0) := by
        funext s
        by_cases e : s = x
        · rw [e, if_neg (by omega), if_pos (by omega), z]
        · by_cases c4 : s < x
          · rw [if_pos c4, if_pos (by omega)]
          · rw [if_neg c4, if_neg (by omega)]
      rw [← ee]; exact hc.congr (o3 280 (by omega))
  · by_cases e : (X : Int) = x
    · have e2 : X = x.toNat := by omega
      refine ⟨?_, ?_⟩
      · rw [e6, up_na (by omega), e5, e2, upG_same]
      · rw [e6, e2, upG_same]
    · refine ⟨?_, ?_⟩
      · rw [e6, up_na (by omega), e5, upG_nk (by omega)]; exact (i2 X (by omega)).1
      · rw [e6, upG_nk (by omega), e5, up_na (by omega)]; exact (i2 X (by omega)).2
end MA
