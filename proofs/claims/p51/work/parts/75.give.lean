-- ===== PURE LAYER: digits of a hymn; the class gives a card away =====
def cntd (h e : Int) : Int := b2 (0 < h ∧ h % 10 = e) + b2 (0 < h / 10 ∧ h / 10 % 10 = e) + b2 (0 < h / 10 / 10 ∧ h / 10 / 10 % 10 = e)
theorem cntd_ge {h e : Int} : 0 ≤ cntd h e := by
  unfold cntd
  have a := b2_ge (p := 0 < h ∧ h % 10 = e)
  have b := b2_ge (p := 0 < h / 10 ∧ h / 10 % 10 = e)
  have c := b2_ge (p := 0 < h / 10 / 10 ∧ h / 10 / 10 % 10 = e)
  omega
theorem cntd_0 {h e : Int} (hh : h ≤ 0) : cntd h e = 0 := by
  unfold cntd
  rw [b2_f (by omega), b2_f (by omega), b2_f (by omega)]; rfl
theorem cntd_s {h e : Int} (h0 : 0 < h) (h1 : h ≤ 999) : cntd h e = b2 (h % 10 = e) + cntd (h / 10) e := by
  unfold cntd
  rw [b2_iff (p := 0 < h ∧ h % 10 = e) (q := h % 10 = e) ⟨fun w => w.2, fun w => ⟨h0, w⟩⟩, b2_f (p := 0 < h / 10 / 10 / 10 ∧ h / 10 / 10 / 10 % 10 = e) (by omega)]
  omega
def plusH (n : Int → Int) (h v : Int) : Int → Int := fun e => n e + v * cntd h e
section GV
variable {G G' : GH} {m : Int} {D : Int → Nat} {L n : Int → Int} {o d v h : Int}
theorem Mat.nn (M : Mat G m D L n) (d0 : 0 ≤ d) (d1 : d < 10) : 0 ≤ n d := by
  rw [← M.2.2.2.2.2 d d0 d1]
  exact sumZ_ge (fun i i0 i1 => (M.2.2.2.2.1 i d i0 i1 d0 d1).1)
theorem c_offerThat {Q : Int → Prop} (M : Mat G m D L n) (hd : 0 ≤ d ∧ d < 10) (hq : ∀ o, 0 ≤ o → o < m → 0 < shM G o d → Q o) (h0 : n d ≤ 0 → Q (-1)) : f_X2_offerThatShows d G Q := by
  have hm := M.2.1
  unfold f_X2_offerThatShows
  rw [M.1]
  refine ix_loop (I := fun x => ∀ o : Int, 0 ≤ o → o < x → shM G o d ≤ 0) 0 m hm.1 (fun o o0 o1 => by omega) (fun k x x0 x1 hI kk => ⟨fun c => h0 ?_, fun c => ⟨⟨by omega, by omega⟩, fun c2 => kk c (fun o o0 o1 => ?_), fun c2 => hq x x0 c c2⟩⟩)
  · rw [← M.2.2.2.2.2 d hd.1 hd.2]
    have z := sumZ_le (f := fun o => shM G o d) (c := 0) hm.1 (fun i i0 i1 => hI i i0 (by omega))
    omega
  · by_cases e : o = x
    · rw [e]; exact c2
    · exact hI o o0 (by omega)
theorem c_firstShown {Q : Int → Prop} (M : Mat G m D L n) (ho : 0 ≤ o ∧ o < m) (hu : 0 < useM G o) (hq : ∀ d, 0 ≤ d → d < 10 → 0 < shM G o d → Q d) : f_X2_firstShownBy o G Q := by
  have hm := M.2.1
  unfold f_X2_firstShownBy
  refine ix_loop (I := fun x => ∀ d : Int, 0 ≤ d → d < x → shM G o d ≤ 0) 0 10 (by omega) (fun d d0 d1 => by omega) (fun k x x0 x1 hI kk => ⟨fun c => ?_, fun c => ⟨⟨by omega, by omega⟩, fun c2 => kk c (fun d d0 d1 => ?_), fun c2 => hq x x0 c c2⟩⟩)
  · have z := sumZ_le (f := fun d => shM G o d) (c := 0) (x := 10) (by omega) (fun i i0 i1 => hI i i0 (by omega))
    have e : useM G o = sumZ (fun d => shM G o d) 10 := rfl
    omega
  · by_cases e : d = x
    · rw [e]; exact c2
    · exact hI d d0 (by omega)
/-- one card of the offer o less, or more -/
theorem Mat.less (M : Mat G m D L n) (ho : 0 ≤ o ∧ o < m) (hu : useM G o < L o) (hG : G' = upG G 212 o.toNat (L o - 1)) : Mat G' m D (bump L o (-1)) n := by
  obtain ⟨m1, m2, m3, m4, m5, m6⟩ := M
  have e4 : G' 214 = G 214 := by rw [hG, up_na (by omega)]
  have sl : 0 ≤ useM G o := sumZ_ge (fun i i0 i1 => (m5 o i ho.1 ho.2 i0 i1).1)
  refine ⟨by rw [hG, up_na (by omega)]; exact m1, m2, fun o' o0 o1 => ?_, fun o' o0 o1 => ?_, fun o' d' o0 o1 d0 d1 => ?_, fun d' d0 d1 => ?_⟩
  · have z := m3 o' o0 o1
    have e11 : G' 211 = G 211 := by rw [hG, up_na (by omega)]
    rw [e11]
    refine ⟨z.1, z.2.1, ?_⟩
    by_cases e : o' = o
    · rw [e] at z ⊢
      rw [hG, upG_same, bump_eq]; omega
    · rw [hG, upG_nk (by omega), bump_ne e]; exact z.2.2
  · have z := m4 o' o0 o1
    have e13 : G' 213 = G 213 := by rw [hG, up_na (by omega)]
    unfold useM shM at z hu ⊢
    rw [e13, e4]
    by_cases e : o' = o
    · rw [e] at z ⊢
      rw [bump_eq]; omega
    · rw [bump_ne e]; exact z
  · unfold shM
    rw [e4]; exact m5 o' d' o0 o1 d0 d1
  · unfold shM
    rw [e4]; exact m6 d' d0 d1
theorem Mat.more (M : Mat G m D (bump L o (-1)) n) (ho : 0 ≤ o ∧ o < m) (hl : L o ≤ 1000) (hG : G' = upG G 212 o.toNat (L o)) : Mat G' m D L n ∧ useM G' o < L o := by
  obtain ⟨m1, m2, m3, m4, m5, m6⟩ := M
  have e4 : G' 214 = G 214 := by rw [hG, up_na (by omega)]
  have u4 : ∀ o', useM G' o' = useM G o' := fun o' => by
    unfold useM shM
    rw [e4]
  have zo := m4 o ho.1 ho.2
  have lo := m3 o ho.1 ho.2
  rw [bump_eq] at zo lo
  refine ⟨⟨by rw [hG, up_na (by omega)]; exact m1, m2, fun o' o0 o1 => ?_, fun o' o0 o1 => ?_, fun o' d' o0 o1 d0 d1 => ?_, fun d' d0 d1 => ?_⟩, by rw [u4]; omega⟩
  · have z := m3 o' o0 o1
    have e11 : G' 211 = G 211 := by rw [hG, up_na (by omega)]
    rw [e11]
    refine ⟨z.1, z.2.1, ?_⟩
    by_cases e : o' = o
    · rw [e, hG, upG_same]; omega
    · rw [bump_ne e] at z
      rw [hG, upG_nk (by omega)]; exact z.2.2
  · have z := m4 o' o0 o1
    have e13 : G' 213 = G 213 := by rw [hG, up_na (by omega)]
    rw [u4, e13]
    by_cases e : o' = o
    · rw [e] at z ⊢
      omega
    · rw [bump_ne e] at z; exact z
  · unfold shM
    rw [e4]; exact m5 o' d' o0 o1 d0 d1
  · unfold shM
    rw [e4]; exact m6 d' d0 d1
theorem c_canSpare {Q : Int → GH → Prop} (M : Mat G m D L n) (ho : 0 ≤ o ∧ o < m) (hl : 0 < L o) (h1 : ∀ G' : GH, (∀ x, ¬ (212 ≤ x ∧ x ≤ 217) → G' x = G x) → Mat G' m D L n → useM G' o < L o → Q 1 G') (h0 : ∀ G' : GH, (∀ x, ¬ (215 ≤ x ∧ x ≤ 217) → G' x = G x) → ¬ hall m D (bump L o (-1)) n → Q 0 G') : f_X2_canSpare o G Q := by
  have hm := M.2.1
  have mo := M.2.2.1 o ho.1 ho.2
  have mu := M.2.2.2.1 o ho.1 ho.2
  unfold f_X2_canSpare
  refine ⟨⟨ho.1, by omega⟩, ?_⟩
  rw [mo.2.2.1, mu.1]
  refine ⟨fun c => ?_, fun c => h1 G (fun _ _ => rfl) M c⟩
  have full : useM G o = L o := by omega
  refine c_firstShown M ho (by omega) (fun e e0 e1 se => ⟨fun _ => ?_, fun c2 => by omega⟩)
  have sl := M.sh_le ho.1 ho.2 e0 e1
  have ine := (M.2.2.2.2.1 o e ho.1 ho.2 e0 e1).2 se
  refine c_change ⟨ho.1, by omega⟩ ⟨e0, e1⟩ ⟨by omega, by omega⟩ ⟨by omega, by omega⟩ (fun G1 c1 => ?_)
  have M1 := c1.mat M ho ⟨e0, e1⟩ (by omega) (by omega) (Or.inl (by omega))
  have mo1 := M1.2.2.1 o ho.1 ho.2
  have mu1 := M1.2.2.2.1 o ho.1 ho.2
  have cu := c1.2.2.2.2
  rw [mo1.2.2.1]
  refine ⟨⟨by omega, by omega⟩, fun G2 e2 => ?_⟩
  have M2 := M1.less ho (by omega) e2
  refine c_addDigit M2 ⟨e0, e1⟩ (fun G3 o3 M3 => ?_) (fun G3 o3 t3 => ?_)
  · rw [show bump (bump n e (-1)) e 1 = n from bump_cancel (v := -1)] at M3
    have g3 := (M3.2.2.1 o ho.1 ho.2).2.2.1
    rw [bump_eq] at g3
    rw [g3]
    refine ⟨⟨by omega, by omega⟩, fun G4 e4 => ⟨fun _ => ?_, fun c4 => by omega⟩⟩
    have k := M3.more (G' := G4) ho (by omega) (by rw [e4, show L o + -1 + 1 = L o by omega])
    exact h1 G4 (fun x hx => by rw [e4, up_na (by omega), o3 x (by omega), e2, up_na (by omega), c1.1 x (by omega) (by omega)]) k.1 k.2
  · obtain ⟨R, R1, R2, R3⟩ := t3
    have nh := hall_no ⟨e0, e1⟩ R1 R3 R2
    rw [show bump (bump n e (-1)) e 1 = n from bump_cancel (v := -1)] at nh
    have g3 : G3 212 o.toNat = L o - 1 := by rw [o3 212 (by omega), e2, upG_same]
    rw [g3]
    refine ⟨⟨by omega, by omega⟩, fun G4 e4 => ⟨fun c4 => by omega, fun _ => ?_⟩⟩
    have s4 : shM G4 o e = shM G o e - 1 := by
      show G4 214 _ = _
      rw [e4, up_na (by omega), o3 214 (by omega), e2, up_na (by omega)]
      exact c1.2.2.1
    have u4 : G4 213 o.toNat = G 213 o.toNat - 1 := by
      rw [e4, up_na (by omega), o3 213 (by omega), e2, up_na (by omega)]
      exact cu
    refine c_change ⟨ho.1, by omega⟩ ⟨e0, e1⟩ ⟨by omega, by omega⟩ ⟨by omega, by omega⟩ (fun G5 c5 => h0 G5 (fun x hx => ?_) nh)
    by_cases x2 : x = 212
    · rw [x2, c5.1 212 (by omega) (by omega)]
      funext i
      rw [e4]
      by_cases ci : i = o.toNat
      · rw [ci, upG_same, mo.2.2.1]; omega
      · rw [upG_nk ci, o3 212 (by omega), e2, upG_nk ci, c1.1 212 (by omega) (by omega)]
    · by_cases x3 : x = 213
      · rw [x3]
        funext i
        by_cases ci : i = o.toNat
        · rw [ci, c5.2.2.2.2]; omega
        · rw [c5.2.2.2.1 i ci, e4, up_na (by omega), o3 213 (by omega), e2, up_na (by omega), c1.2.2.2.1 i ci]
      · by_cases x4 : x = 214
        · rw [x4]
          funext i
          by_cases ci : i = ((o * 10) + e).toNat
          · rw [ci, c5.2.2.1]
            have s4' : G4 214 ((o * 10) + e).toNat = G 214 ((o * 10) + e).toNat - 1 := s4
            omega
          · rw [c5.2.1 i ci, e4, up_na (by omega), o3 214 (by omega), e2, up_na (by omega), c1.2.1 i ci]
        · rw [c5.1 x x3 x4, e4, up_na x2, o3 x (by omega), e2, up_na x2, c1.1 x x3 x4]
/-- the offer o can give a card for d -/
def okO (m : Int) (D : Int → Nat) (L n : Int → Int) (d o : Int) : Prop := 0 < L o ∧ inS (D o) d ∧ hall m D (bump L o (-1)) (bump n d (-1))
theorem c_giveAway {Q : Int → GH → Prop} (M : Mat G m D L n) (hd : 0 ≤ d ∧ d < 10) (hn : 0 < n d) (h : ∀ (o : Int) (G' : GH), 0 ≤ o → o < m → okO m D L n d o → (∀ o', 0 ≤ o' → o' < o → ¬ okO m D L n d o') → (∀ x, ¬ (212 ≤ x ∧ x ≤ 217) → G' x = G x) → Mat G' m D (bump L o (-1)) (bump n d (-1)) → Q o G') : f_X2_giveAway d G Q := by
  have hm := M.2.1
  unfold f_X2_giveAway
  refine c_offerThat M hd (fun f f0 f1 sf => ⟨fun _ => ?_, fun c2 => by omega⟩) (fun c => by omega)
  have sl := M.sh_le f0 f1 hd.1 hd.2
  have inf := (M.2.2.2.2.1 f d f0 f1 hd.1 hd.2).2 sf
  have mu := M.2.2.2.1 f f0 f1
  refine c_change ⟨f0, by omega⟩ hd ⟨by omega, by omega⟩ ⟨by omega, by omega⟩ (fun G1 c1 => ?_)
  have M1 := c1.mat M ⟨f0, f1⟩ hd (by omega) (by omega) (Or.inl (by omega))
  have mu1 := M1.2.2.2.1 f f0 f1
  have cu := c1.2.2.2.2
  refine up_loop (fun x G2 => (∀ y, ¬ (215 ≤ y ∧ y ≤ 217) → G2 y = G1 y) ∧ ∀ o', 0 ≤ o' → o' < x → ¬ okO m D L n d o') 0 f f0 ⟨fun _ _ => rfl, fun o' o0 o1 => by omega⟩ (fun k x G2 x0 x1 hI kk => ?_)
  obtain ⟨o2, no⟩ := hI
  have M2 : Mat G2 m D L (bump n d (-1)) := by
    obtain ⟨m1, m2, m3, m4, m5, m6⟩ := M1
    have e4 : G2 214 = G1 214 := o2 214 (by omega)
    refine ⟨by rw [o2 209 (by omega)]; exact m1, m2, fun o' o0 o1 => by rw [o2 211 (by omega), o2 212 (by omega)]; exact m3 o' o0 o1, fun o' o0 o1 => ?_, fun o' d' o0 o1 d0 d1 => ?_, fun d' d0 d1 => ?_⟩
    · rw [o2 213 (by omega)]
      unfold useM shM
      rw [e4]; exact m4 o' o0 o1
    · unfold shM
      rw [e4]; exact m5 o' d' o0 o1 d0 d1
    · unfold shM
      rw [e4]; exact m6 d' d0 d1
  have fr2 : ∀ y, ¬ (212 ≤ y ∧ y ≤ 217) → G2 y = G y := fun y hy => by rw [o2 y (by omega), c1.1 y (by omega) (by omega)]
  refine ⟨fun c => ⟨⟨f0, by omega⟩, ?_⟩, fun c => ⟨⟨x0, by omega⟩, ?_⟩⟩
  · have ex : x = f := by omega
    have u2 : useM G2 f < L f := by
      have e4 : G2 214 = G1 214 := o2 214 (by omega)
      have : useM G2 f = useM G1 f := by
        unfold useM shM
        rw [e4]
      omega
    have mo := M2.2.2.1 f f0 f1
    rw [mo.2.2.1]
    refine ⟨⟨by omega, by omega⟩, fun G3 e3 => ?_⟩
    have M3 := M2.less ⟨f0, f1⟩ u2 e3
    refine h f G3 f0 f1 ⟨by omega, inf, M3.hl⟩ (fun o' q0 q1 => no o' q0 (by omega)) (fun y hy => by rw [e3, up_na (by omega)]; exact fr2 y hy) M3
  · have xm : x < m := by omega
    have mo := M2.2.2.1 x x0 xm
    rw [mo.2.2.1, mo.1]
    have next : ¬ okO m D L n d x → ∀ G3 : GH, (∀ y, ¬ (215 ≤ y ∧ y ≤ 217) → G3 y = G2 y) → k (x + 1) G3 := fun nk G3 o3 => kk G3 c ⟨fun y hy => by rw [o3 y hy]; exact o2 y hy, fun o' q0 q1 => by
      by_cases e : o' = x
      · rw [e]; exact nk
      · exact no o' q0 (by omega)⟩
    have bt := bits0 mo.2.1 hd
    refine ⟨fun c2 => next (fun w => by have := w.1; omega) G2 (fun _ _ => rfl), fun c2 => ⟨fun c3 => next (fun w => bt.2.mp c3 w.2.1) G2 (fun _ _ => rfl), fun c3 => ?_⟩⟩
    have inx := bt.1.mp c3
    refine c_canSpare M2 ⟨x0, xm⟩ c2 (fun G4 o4 M4 u4 => ⟨fun c4 => by omega, fun _ => ?_⟩) (fun G4 o4 nh => ⟨fun _ => next (fun w => nh w.2.2) G4 o4, fun c4 => absurd rfl c4⟩)
    have mo4 := M4.2.2.1 x x0 xm
    rw [mo4.2.2.1]
    refine ⟨⟨by omega, by omega⟩, fun G5 e5 => ?_⟩
    have M5 := M4.less ⟨x0, xm⟩ u4 e5
    exact h x G5 x0 xm ⟨c2, inx, M5.hl⟩ no (fun y hy => by rw [e5, up_na (by omega), o4 y hy]; exact fr2 y hy) M5
-- the digits of a hymn
theorem c_dropDigits {Q : GH → Prop} {hy rest : Int} (hh : 0 ≤ hy ∧ hy ≤ 999) (hr : 0 < rest) (hc : rest = hy ∨ rest = hy / 10 ∨ rest = hy / 10 / 10) (M : Mat G m D L (fun e => n e + (cntd hy e - cntd rest e))) (hn : ∀ d, 0 ≤ d → d < 10 → 0 ≤ n d) (h : ∀ G' : GH, (∀ x, x ≠ 213 → x ≠ 214 → G' x = G x) → Mat G' m D L n → Q G') : f_X2_dropDigitsOf hy rest G Q := by
  have hm := M.2.1
  unfold f_X2_dropDigitsOf
  refine loopI2 (I := fun r G1 => (0 ≤ r ∧ r ≤ 999) ∧ (rest = r ∨ rest = r / 10 ∨ rest = r / 10 / 10) ∧ (∀ x, x ≠ 213 → x ≠ 214 → G1 x = G x) ∧ Mat G1 m D L (fun e => n e + (cntd r e - cntd rest e))) (μ := fun r _ => r.toNat) (fun k r G1 hI ih => ?_) hy G ⟨hh, hc, fun _ _ _ => rfl, M⟩
  obtain ⟨r1, r2, o1, M1⟩ := hI
  refine ⟨fun c => absurd hr (by omega), fun _ => ⟨fun c => h G1 o1 ?_, fun c => ⟨r1.1, ?_⟩⟩⟩
  · have e : r = rest := by omega
    rw [e] at M1
    have e2 : (fun e => n e + (cntd rest e - cntd rest e)) = n := by
      funext e
      omega
    rw [e2] at M1; exact M1
  · have r0 : 0 < r := by omega
    have hd : 0 ≤ r % 10 ∧ r % 10 < 10 := by omega
    have cs := fun e => cntd_s (e := e) r0 r1.2
    have le : ∀ e, cntd rest e ≤ cntd (r / 10) e := fun e => by
      rcases r2 with q | q | q
      · omega
      · rw [q]; exact Int.le_refl _
      · have := cntd_s (h := r / 10) (e := e) (by omega) (by omega)
        have b := b2_ge (p := r / 10 % 10 = e)
        rw [q]; omega
    have pos : 0 < n (r % 10) + (cntd r (r % 10) - cntd rest (r % 10)) := by
      have a := cs (r % 10)
      rw [b2_t rfl] at a
      have b := le (r % 10)
      have := hn (r % 10) hd.1 hd.2
      omega
    refine c_offerThat M1 hd (fun o o0 o2 so => ?_) (fun w => by
      have w2 : n (r % 10) + (cntd r (r % 10) - cntd rest (r % 10)) ≤ 0 := w
      omega)
    refine joinI1 (P := fun G4 => (∀ x, x ≠ 213 → x ≠ 214 → G4 x = G x) ∧ Mat G4 m D L (fun e => n e + (cntd (r / 10) e - cntd rest e))) (fun G4 hP => ih _ _ ⟨by omega, by omega, hP.1, hP.2⟩ (by omega)) (fun jj hj => ⟨fun c2 => by omega, fun _ => ?_⟩)
    have sl := M1.sh_le o0 o2 hd.1 hd.2
    have mu := M1.2.2.2.1 o o0 o2
    refine c_change ⟨o0, by omega⟩ hd ⟨by omega, by omega⟩ ⟨by omega, by omega⟩ (fun G4 c4 => hj G4 ⟨fun x x0 x1 => by rw [c4.1 x x0 x1]; exact o1 x x0 x1, ?_⟩)
    have M4 := c4.mat M1 ⟨o0, o2⟩ hd (by omega) (by omega) (Or.inl (by omega))
    have e2 : bump (fun e => n e + (cntd r e - cntd rest e)) (r % 10) (-1) = (fun e => n e + (cntd (r / 10) e - cntd rest e)) := by
      funext e
      unfold bump
      dsimp only
      have a := cs e
      by_cases q : e = r % 10
      · rw [b2_t q.symm] at a
        rw [if_pos q]; omega
      · rw [b2_f (fun w => q w.symm)] at a
        rw [if_neg q]; omega
    rw [e2] at M4; exact M4
theorem c_addDigits {Q : Int → GH → Prop} {hy : Int} (hh : 0 ≤ hy ∧ hy ≤ 999) (M : Mat G m D L n) (h1 : ∀ G' : GH, (∀ x, ¬ (213 ≤ x ∧ x ≤ 217) → G' x = G x) → Mat G' m D L (plusH n hy 1) → Q 1 G') (h0 : ∀ G' : GH, (∀ x, ¬ (213 ≤ x ∧ x ≤ 217) → G' x = G x) → Mat G' m D L n → ¬ hall m D L (plusH n hy 1) → Q 0 G') : f_X2_addDigitsOf hy G Q := by
  unfold f_X2_addDigitsOf
  refine loopI2 (I := fun r G1 => (0 ≤ r ∧ r ≤ 999) ∧ (r = hy ∨ r = hy / 10 ∨ r = hy / 10 / 10 ∨ r = 0) ∧ (∀ x, ¬ (213 ≤ x ∧ x ≤ 217) → G1 x = G x) ∧ (∀ e, cntd r e ≤ cntd hy e) ∧ Mat G1 m D L (fun e => n e + (cntd hy e - cntd r e))) (μ := fun r _ => r.toNat) (fun k r G1 hI ih => ?_) hy G ⟨hh, Or.inl rfl, fun _ _ => rfl, fun _ => Int.le_refl _, ?_⟩
  · obtain ⟨r1, r2, o1, hle, M1⟩ := hI
    refine ⟨fun c => h1 G1 o1 ?_, fun c => ⟨r1.1, ?_⟩⟩
    · have e2 : (fun e => n e + (cntd hy e - cntd r e)) = plusH n hy 1 := by
        funext e
        unfold plusH
        rw [cntd_0 (h := r) (by omega), Int.one_mul]; omega
      rw [e2] at M1; exact M1
    · have hd : 0 ≤ r % 10 ∧ r % 10 < 10 := by omega
      have cs := fun e => cntd_s (e := e) c r1.2
      refine c_addDigit M1 hd (fun G2 o2 M2 => ⟨fun _ => ih _ _ ⟨by omega, by omega, fun x hx => by rw [o2 x hx]; exact o1 x hx, fun e => ?_, ?_⟩ (by omega), fun c2 => by omega⟩) (fun G2 o2 t2 => ⟨fun c2 => absurd rfl c2, fun _ => ?_⟩)
      · have a := cs e
        have b := b2_ge (p := r % 10 = e)
        have := hle e
        omega
      · have e2 : bump (fun e => n e + (cntd hy e - cntd r e)) (r % 10) 1 = (fun e => n e + (cntd hy e - cntd (r / 10) e)) := by
          funext e
          unfold bump
          dsimp only
          have a := cs e
          by_cases q : e = r % 10
          · rw [b2_t q.symm] at a
            rw [if_pos q]; omega
          · rw [b2_f (fun w => q w.symm)] at a
            rw [if_neg q]; omega
        rw [e2] at M2; exact M2
      · obtain ⟨R, R1, R2, R3⟩ := t2
        have nh := hall_no hd R1 R3 R2
        have M2 : Mat G2 m D L (fun e => n e + (cntd hy e - cntd r e)) := by
          obtain ⟨m1, m2, m3, m4, m5, m6⟩ := M1
          have e4 : G2 214 = G1 214 := o2 214 (by omega)
          refine ⟨by rw [o2 209 (by omega)]; exact m1, m2, fun o' o0 o1 => by rw [o2 211 (by omega), o2 212 (by omega)]; exact m3 o' o0 o1, fun o' o0 o1 => ?_, fun o' d' o0 o1 d0 d1 => ?_, fun d' d0 d1 => ?_⟩
          · rw [o2 213 (by omega)]
            unfold useM shM
            rw [e4]; exact m4 o' o0 o1
          · unfold shM
            rw [e4]; exact m5 o' d' o0 o1 d0 d1
          · unfold shM
            rw [e4]; exact m6 d' d0 d1
        refine c_dropDigits hh c (by omega) M2 (fun d d0 d1 => M.nn d0 d1) (fun G3 o3 M3 => h0 G3 (fun x hx => by rw [o3 x (by omega) (by omega), o2 x (by omega)]; exact o1 x hx) M3 (fun w => nh (hall_mono w (fun e e0 e1 => ?_))))
        unfold bump plusH
        dsimp only
        have a := cs e
        have b := cntd_ge (h := r / 10) (e := e)
        have a2 := hle e
        rw [Int.one_mul]
        by_cases q : e = r % 10
        · rw [b2_t q.symm] at a
          rw [if_pos q]; omega
        · rw [b2_f (fun w => q w.symm)] at a
          rw [if_neg q]; omega
  · have e2 : (fun e => n e + (cntd hy e - cntd hy e)) = n := by
      funext e
      omega
    rw [e2]; exact M
end GV
