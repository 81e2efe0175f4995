-- ===== PURE LAYER: the class's matching in its rows; one card more or less; a way of the search is passed on =====
abbrev shM (G : GH) (o d : Int) : Int := G 214 ((o * 10) + d).toNat
abbrev useM (G : GH) (o : Int) : Int := sumZ (fun d => shM G o d) 10
def Mat (G : GH) (m : Int) (D : Int → Nat) (L n : Int → Int) : Prop :=
  G 209 0 = m ∧ (0 ≤ m ∧ m ≤ 43) ∧ (∀ o, 0 ≤ o → o < m → G 211 o.toNat = (D o : Int) ∧ D o < 1024 ∧ G 212 o.toNat = L o ∧ (0 ≤ L o ∧ L o ≤ 1000)) ∧
  (∀ o, 0 ≤ o → o < m → G 213 o.toNat = useM G o ∧ useM G o ≤ L o) ∧
  (∀ o d, 0 ≤ o → o < m → 0 ≤ d → d < 10 → 0 ≤ shM G o d ∧ (0 < shM G o d → inS (D o) d)) ∧
  (∀ d, 0 ≤ d → d < 10 → sumZ (fun o => shM G o d) m = n d)
theorem sumZ_elem {f : Int → Int} {j x : Int} (h0 : 0 ≤ j) (h1 : j < x) (h : ∀ i : Int, 0 ≤ i → i < x → 0 ≤ f i) : f j ≤ sumZ f x := by
  have e := sumZ_one (f := f) (g := fun i => if i = j then 0 else f i) h0 h1 (fun i _ _ hne => (if_neg hne).symm)
  have z : 0 ≤ sumZ (fun i => if i = j then 0 else f i) x := sumZ_ge (fun i i0 i1 => by
    have := h i i0 i1
    split <;> omega)
  have e2 : (if j = j then 0 else f j) = 0 := if_pos rfl
  rw [e2] at e
  omega
theorem bump_cancel {n : Int → Int} {a v : Int} : bump (bump n a v) a (-v) = n := by
  funext e
  unfold bump
  split <;> omega
section MT
variable {G G' : GH} {m : Int} {D : Int → Nat} {L n : Int → Int} {o d v : Int}
theorem Mat.hl (M : Mat G m D L n) : hall m D L n := hall_of_match (M := fun o d => shM G o d) (fun o d o0 o1 d0 d1 => M.2.2.2.2.1 o d o0 o1 d0 d1) (fun o o0 o1 => (M.2.2.2.1 o o0 o1).2) (fun d d0 d1 => M.2.2.2.2.2 d d0 d1) (fun o o0 o1 => (M.2.2.1 o o0 o1).2.1)
theorem Mat.sh_le (M : Mat G m D L n) (o0 : 0 ≤ o) (o1 : o < m) (d0 : 0 ≤ d) (d1 : d < 10) : 0 ≤ shM G o d ∧ shM G o d ≤ useM G o ∧ useM G o ≤ L o ∧ L o ≤ 1000 := by
  have h := M.2.2.2.2.1
  exact ⟨(h o d o0 o1 d0 d1).1, sumZ_elem (f := fun d => shM G o d) d0 d1 (fun i i0 i1 => (h o i o0 o1 i0 i1).1), (M.2.2.2.1 o o0 o1).2, (M.2.2.1 o o0 o1).2.2.2.2⟩
def Chg (G G' : GH) (o d v : Int) : Prop := (∀ x, x ≠ 213 → x ≠ 214 → G' x = G x) ∧ (∀ i, i ≠ ((o * 10) + d).toNat → G' 214 i = G 214 i) ∧ G' 214 ((o * 10) + d).toNat = G 214 ((o * 10) + d).toNat + v ∧ (∀ i, i ≠ o.toNat → G' 213 i = G 213 i) ∧ G' 213 o.toNat = G 213 o.toNat + v
theorem c_change {Q : GH → Prop} (ho : 0 ≤ o ∧ o < 43) (hd : 0 ≤ d ∧ d < 10) (r1 : inR (shM G o d + v)) (r2 : inR (G 213 o.toNat + v)) (h : ∀ G', Chg G G' o d v → Q G') : f_X2_change o d v G Q := by
  unfold f_X2_change
  refine ⟨⟨by omega, by omega⟩, r1, fun G1 e1 => ⟨ho, ?_⟩⟩
  have e13 : G1 213 = G 213 := by rw [e1, up_na (by omega)]
  rw [e13]
  refine ⟨r2, fun G2 e2 => h G2 ⟨fun x x0 x1 => by rw [e2, up_na x0, e1, up_na x1], fun i hi => by rw [e2, up_na (by omega), e1, upG_nk hi], by rw [e2, up_na (by omega), e1, upG_same], fun i hi => by rw [e2, upG_nk hi, e13], by rw [e2, upG_same]⟩⟩
theorem Chg.sh (c : Chg G G' o d v) {o' d' : Int} (ho : 0 ≤ o) (hd : 0 ≤ d ∧ d < 10) (o0 : 0 ≤ o') (d0 : 0 ≤ d') (d1 : d' < 10) (hne : ¬ (o' = o ∧ d' = d)) : shM G' o' d' = shM G o' d' := c.2.1 _ (by omega)
theorem Chg.mat (c : Chg G G' o d v) (M : Mat G m D L n) (ho : 0 ≤ o ∧ o < m) (hd : 0 ≤ d ∧ d < 10) (hv : 0 ≤ shM G o d + v) (hu : useM G o + v ≤ L o) (hin : v < 0 ∨ inS (D o) d) : Mat G' m D L (bump n d v) := by
  obtain ⟨m1, m2, m3, m4, m5, m6⟩ := M
  have sv : shM G' o d = shM G o d + v := c.2.2.1
  have us : useM G' o = useM G o + v := by
    have e := sumZ_one (f := fun d' => shM G' o d') (g := fun d' => shM G o d') hd.1 hd.2 (fun i i0 i1 hne => c.sh ho.1 hd ho.1 i0 i1 (fun w => hne w.2))
    have e2 : (fun d' => shM G' o d') d - (fun d' => shM G o d') d = v := by
      show shM G' o d - shM G o d = v
      omega
    unfold useM
    omega
  have uo : ∀ o', 0 ≤ o' → o' ≠ o → useM G' o' = useM G o' := fun o' o0 hne => sumZ_congr (fun i i0 i1 => c.sh ho.1 hd o0 i0 i1 (fun w => hne w.1))
  refine ⟨by rw [c.1 209 (by omega) (by omega)]; exact m1, m2, fun o' o0 o1 => by rw [c.1 211 (by omega) (by omega), c.1 212 (by omega) (by omega)]; exact m3 o' o0 o1, fun o' o0 o1 => ?_, fun o' d' o0 o1 d0 d1 => ?_, fun d' d0 d1 => ?_⟩
  · have z := m4 o' o0 o1
    by_cases e : o' = o
    · rw [e] at z ⊢
      rw [us, c.2.2.2.2]
      exact ⟨by omega, hu⟩
    · rw [uo o' o0 e, c.2.2.2.1 _ (by omega)]; exact z
  · have z := m5 o' d' o0 o1 d0 d1
    by_cases e : o' = o ∧ d' = d
    · rw [e.1, e.2] at z ⊢
      rw [sv]
      refine ⟨hv, fun w => ?_⟩
      rcases hin with q | q
      · exact z.2 (by omega)
      · exact q
    · rw [c.sh ho.1 hd o0 d0 d1 e]; exact z
  · by_cases e : d' = d
    · rw [e, bump_eq, ← m6 d hd.1 hd.2]
      rw [sumZ_one (f := fun o' => shM G' o' d) (g := fun o' => shM G o' d) ho.1 ho.2 (fun i i0 i1 hne => c.sh ho.1 hd i0 hd.1 hd.2 (fun w => hne w.1))]
      show _ + (shM G' o d - shM G o d) = _
      rw [sv]; omega
    · rw [bump_ne e, ← m6 d' d0 d1]
      exact sumZ_congr (fun i i0 i1 => c.sh ho.1 hd i0 d0 d1 (fun w => e w.2))
/-- a way of the search: digits by their places in the queue, how each was reached -/
def Way (G : GH) (m : Int) (D : Int → Nat) (q first : Int) : Prop := (1 ≤ q ∧ q ≤ 10) ∧ (∀ j : Int, 0 ≤ j → j < q → 0 ≤ G 215 j.toNat ∧ G 215 j.toNat < 10) ∧ (∀ i j : Int, 0 ≤ i → i < j → j < q → G 215 i.toNat ≠ G 215 j.toNat) ∧ G 215 0 = first ∧
  ∀ j : Int, 1 ≤ j → j < q → ∃ i : Int, (0 ≤ i ∧ i < j) ∧ G 216 (G 215 j.toNat).toNat = G 215 i.toNat ∧ (0 ≤ G 217 (G 215 j.toNat).toNat ∧ G 217 (G 215 j.toNat).toNat < m) ∧ 0 < shM G (G 217 (G 215 j.toNat).toNat) (G 215 j.toNat) ∧ inS (D (G 217 (G 215 j.toNat).toNat)) (G 215 i.toNat)
theorem c_passOn {Q : GH → Prop} {q first j0 : Int} (M : Mat G m D L n) (P : Way G m D q first) (hj : 0 ≤ j0 ∧ j0 < q) (ho : 0 ≤ o ∧ o < m) (hin : inS (D o) (G 215 j0.toNat)) (hu : useM G o < L o) (h : ∀ G' : GH, (∀ x, x ≠ 213 → x ≠ 214 → G' x = G x) → Mat G' m D L (bump n first 1) → Q G') : f_X2_passOn first (G 215 j0.toNat) o G Q := by
  obtain ⟨p1, p2, p3, p4, p5⟩ := P
  have hm := M.2.1
  have hq := p2 j0 hj.1 hj.2
  have sl := M.sh_le ho.1 ho.2 hq.1 hq.2
  have u3 := M.2.2.2.1 o ho.1 ho.2
  unfold f_X2_passOn
  refine c_change ⟨ho.1, by omega⟩ hq ⟨by omega, by omega⟩ ⟨by omega, by omega⟩ (fun G1 c1 => ?_)
  have M1 := c1.mat M ho hq (by omega) (by omega) (Or.inr hin)
  refine loopI3 (I := fun x4 x5 G2 => ∃ j : Int, (0 ≤ j ∧ j < q) ∧ x4 = G 215 j.toNat ∧ (0 ≤ x5 ∧ j + x5 ≤ 9) ∧ (∀ x, x ≠ 213 → x ≠ 214 → G2 x = G x) ∧ Mat G2 m D L (bump n (G 215 j.toNat) 1) ∧ (∀ i : Int, 1 ≤ i → i ≤ j → 0 < shM G2 (G 217 (G 215 i.toNat).toNat) (G 215 i.toNat))) (μ := fun _ x5 _ => (10 - x5).toNat) (fun k x4 x5 G2 hI ih => ?_) _ 0 G1 ⟨j0, hj, rfl, by omega, c1.1, M1, fun i i0 i1 => ?_⟩
  · obtain ⟨j, hj, e4, h5, o2, M2, hs⟩ := hI
    have hq4 := p2 j hj.1 hj.2
    refine ⟨fun c => by omega, fun _ => ⟨fun c => h G2 o2 (by rw [← c, e4]; exact M2), fun c => ⟨by rw [e4]; exact hq4, ?_⟩⟩⟩
    have j1 : 1 ≤ j := by
      refine Classical.byContradiction fun w => c ?_
      rw [e4, show j = 0 by omega]; exact p4
    obtain ⟨i, hi, w1, w2, w3, w4⟩ := p5 j j1 hj.2
    have hqi := p2 i hi.1 (by omega)
    have hne := p3 i j hi.1 hi.2 hj.2
    have s2 := hs j j1 (Int.le_refl _)
    rw [e4, o2 217 (by omega) (by omega), o2 216 (by omega) (by omega), w1]
    generalize ho' : G 217 (G 215 j.toNat).toNat = o' at w2 w3 w4 s2 ⊢
    have sl2 := M2.sh_le w2.1 w2.2 hq4.1 hq4.2
    have u2 := M2.2.2.2.1 o' w2.1 w2.2
    refine c_change ⟨w2.1, by omega⟩ hq4 ⟨by omega, by omega⟩ ⟨by omega, by omega⟩ (fun G3 c3 => ?_)
    have M3 := c3.mat M2 w2 hq4 (by omega) (by omega) (Or.inl (by omega))
    rw [bump_cancel] at M3
    have u3' := M3.2.2.2.1 o' w2.1 w2.2
    have cu := c3.2.2.2.2
    have sl3 := M3.sh_le w2.1 w2.2 hqi.1 hqi.2
    rw [c3.1 217 (by omega) (by omega), o2 217 (by omega) (by omega), ho']
    refine c_change ⟨w2.1, by omega⟩ hqi ⟨by omega, by omega⟩ ⟨by omega, by omega⟩ (fun G4 c4 => ?_)
    have M4 := c4.mat M3 w2 hqi (by omega) (by omega) (Or.inr w4)
    refine ih _ _ _ ⟨i, ⟨hi.1, by omega⟩, rfl, by omega, fun x x0 x1 => by rw [c4.1 x x0 x1, c3.1 x x0 x1, o2 x x0 x1], M4, fun i' i0 i1 => ?_⟩ (by omega)
    have a := p5 i' i0 (by omega)
    obtain ⟨_, _, _, a3, _, _⟩ := a
    have hqi' := p2 i' (by omega) (by omega)
    have hne' := p3 i' j (by omega) (by omega) hj.2
    have s3 : shM G3 (G 217 (G 215 i'.toNat).toNat) (G 215 i'.toNat) = shM G2 (G 217 (G 215 i'.toNat).toNat) (G 215 i'.toNat) := c3.sh w2.1 hq4 a3.1 hqi'.1 hqi'.2 (fun w => hne' w.2)
    have s4 := hs i' i0 (by omega)
    by_cases e : G 217 (G 215 i'.toNat).toNat = o' ∧ G 215 i'.toNat = G 215 i.toNat
    · have c42 : shM G4 o' (G 215 i.toNat) = shM G3 o' (G 215 i.toNat) + 1 := c4.2.2.1
      rw [e.1, e.2] at s3 s4 ⊢
      omega
    · rw [c4.sh w2.1 hqi a3.1 hqi'.1 hqi'.2 e, s3]; exact s4
  · obtain ⟨_, _, _, a3, a4, _⟩ := p5 i i0 (by omega)
    have hqi' := p2 i (by omega) (by omega)
    by_cases e : G 217 (G 215 i.toNat).toNat = o ∧ G 215 i.toNat = G 215 j0.toNat
    · have c42 : shM G1 o (G 215 j0.toNat) = shM G o (G 215 j0.toNat) + 1 := c1.2.2.1
      rw [e.1, e.2] at a4 ⊢
      omega
    · rw [c1.sh ho.1 hq a3.1 hqi'.1 hqi'.2 e]; exact a4
end MT
