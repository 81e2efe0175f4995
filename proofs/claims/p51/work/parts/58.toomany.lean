-- ===== PURE LAYER: the class takes down what hangs too often =====
abbrev rankC (G : GH) (r : Nat) (s P : Int) : Int := sumZ (fun P' => b2 (G r P'.toNat = s)) P
abbrev fallC (G : GH) (a : Nat) (c : Int → Int) (P : Int) : Prop := G (a + 17) P.toNat ≠ -1 ∧ c (G (a + 17) P.toNat) ≤ rankC G (a + 17) (G (a + 17) P.toNat) P
theorem rank_mono {G : GH} {r : Nat} {s : Int} {P : Int} (h0 : 0 ≤ P) : ∀ n : Nat, rankC G r s P ≤ rankC G r s (P + n)
  | 0 => by rw [show P + ((0 : Nat) : Int) = P by omega]; exact Int.le_refl _
  | n + 1 => by
    have ih := rank_mono (G := G) (r := r) (s := s) h0 n
    rw [show P + ((n + 1 : Nat) : Int) = (P + n) + 1 by omega]
    unfold rankC at ih ⊢
    rw [sumZ_s (by omega)]
    have : 0 ≤ b2 (G r (P + (n : Int)).toNat = s) := b2_ge
    omega
theorem rank_le {G : GH} {r : Nat} {s P Q : Int} (h0 : 0 ≤ P) (h : P ≤ Q) : rankC G r s P ≤ rankC G r s Q := by
  have := rank_mono (G := G) (r := r) (s := s) h0 (Q - P).toNat
  rw [show P + ((Q - P).toNat : Int) = Q by omega] at this
  exact this
theorem rank_rng {G : GH} {r : Nat} {s P : Int} (h0 : 0 ≤ P) : 0 ≤ rankC G r s P ∧ rankC G r s P ≤ P := by
  refine ⟨sumZ_ge (fun _ _ _ => b2_ge), ?_⟩
  have := sumZ_le (f := fun P' => b2 (G r P'.toNat = s)) (c := 1) h0 (fun _ _ _ => b2_le)
  unfold rankC
  omega
theorem c_cardDown {a0 : Nat} {G : GH} {Q : GH → Prop} {p s v : Int} (hp : 0 ≤ p ∧ p < 54) (hs : G (a0 + 3) p.toNat = s) (hs2 : 0 ≤ s ∧ s < 42) (hv : G (a0 + 5) s.toNat = v) (hv2 : inR (v - 1)) (h : ∀ G' : GH, (∀ x, ¬ (a0 + 2 ≤ x ∧ x ≤ a0 + 5) → G' x = G x) → (∀ i, i ≠ s.toNat → G' (a0 + 5) i = G (a0 + 5) i) → G' (a0 + 5) s.toNat = v - 1 →
    (∀ i, i ≠ p.toNat → G' (a0 + 2) i = G (a0 + 2) i ∧ G' (a0 + 3) i = G (a0 + 3) i ∧ G' (a0 + 4) i = G (a0 + 4) i) → (G' (a0 + 2) p.toNat = -1 ∧ G' (a0 + 3) p.toNat = -1 ∧ G' (a0 + 4) p.toNat = -1) → Q G') : f_X0_takeCardDown a0 p G Q := by
  unfold f_X0_takeCardDown
  rw [hs, hv]
  refine ⟨hp, hs2, hv2, fun G1 e1 G2 e2 G3 e3 G4 e4 => h G4 (fun x hx => ?_) (fun i hi => ?_) ?_ (fun i hi => ⟨?_, ?_, ?_⟩) ⟨?_, ?_, ?_⟩⟩
  · rw [e4, up_na (by omega), e3, up_na (by omega), e2, up_na (by omega), e1, up_na (by omega)]
  · rw [e4, up_na (by omega), e3, up_na (by omega), e2, up_na (by omega), e1, upG_nk hi]
  · rw [e4, up_na (by omega), e3, up_na (by omega), e2, up_na (by omega), e1, upG_same]
  · rw [e4, up_na (by omega), e3, up_na (by omega), e2, upG_nk hi, e1, up_na (by omega)]
  · rw [e4, up_na (by omega), e3, upG_nk hi, e2, up_na (by omega), e1, up_na (by omega)]
  · rw [e4, upG_nk hi, e3, up_na (by omega), e2, up_na (by omega), e1, up_na (by omega)]
  · rw [e4, up_na (by omega), e3, up_na (by omega), e2, upG_same]
  · rw [e4, up_na (by omega), e3, upG_same]
  · rw [e4, upG_same]
theorem c_tooMany {a : Nat} {G : GH} {Q : Int → GH → Prop} {c : Int → Int} (hcs : ∀ P : Int, 0 ≤ P → P < 54 → -1 ≤ G (a + 17) P.toNat ∧ G (a + 17) P.toNat < 42) (hT : ∀ s : Int, 0 ≤ s → s < 42 → G (a + 19) s.toNat = rankC G (a + 17) s 54) (hc : ∀ s : Int, 0 ≤ s → s < 42 → G (a + 5) s.toNat = c s ∧ 0 ≤ c s)
    (h : ∀ G' : GH, (∀ x, ¬ (a + 16 ≤ x ∧ x ≤ a + 19) → G' x = G x) → (∀ P : Int, 0 ≤ P → P < 54 → (fallC G a c P → G' (a + 16) P.toNat = -1 ∧ G' (a + 17) P.toNat = -1 ∧ G' (a + 18) P.toNat = -1) ∧ (¬ fallC G a c P → G' (a + 16) P.toNat = G (a + 16) P.toNat ∧ G' (a + 17) P.toNat = G (a + 17) P.toNat ∧ G' (a + 18) P.toNat = G (a + 18) P.toNat)) →
      (∀ s : Int, 0 ≤ s → s < 42 → G' (a + 19) s.toNat = min (rankC G (a + 17) s 54) (c s)) → Q (sumZ (fun P => b2 (fallC G a c P)) 54) G') : f_X7_takeTooManyDown a G Q := by
  unfold f_X7_takeTooManyDown
  refine loopI3 (I := fun x1 x2 G1 => (-1 ≤ x2 ∧ x2 < 54) ∧ (0 ≤ x1 ∧ x1 ≤ 53 - x2) ∧ x1 + sumZ (fun P => b2 (fallC G a c P)) (x2 + 1) = sumZ (fun P => b2 (fallC G a c P)) 54 ∧ (∀ x, ¬ (a + 16 ≤ x ∧ x ≤ a + 19) → G1 x = G x) ∧
    (∀ P : Int, 0 ≤ P → P ≤ x2 → G1 (a + 16) P.toNat = G (a + 16) P.toNat ∧ G1 (a + 17) P.toNat = G (a + 17) P.toNat ∧ G1 (a + 18) P.toNat = G (a + 18) P.toNat) ∧
    (∀ P : Int, x2 < P → 0 ≤ P → P < 54 → (fallC G a c P → G1 (a + 16) P.toNat = -1 ∧ G1 (a + 17) P.toNat = -1 ∧ G1 (a + 18) P.toNat = -1) ∧ (¬ fallC G a c P → G1 (a + 16) P.toNat = G (a + 16) P.toNat ∧ G1 (a + 17) P.toNat = G (a + 17) P.toNat ∧ G1 (a + 18) P.toNat = G (a + 18) P.toNat)) ∧
    (∀ s : Int, 0 ≤ s → s < 42 → G1 (a + 19) s.toNat = max (rankC G (a + 17) s (x2 + 1)) (min (rankC G (a + 17) s 54) (c s)))) (μ := fun _ x2 _ => (x2 + 1).toNat) (fun k x1 x2 G1 hI ih => ?_) 0 53 G ⟨by omega, by omega, by rw [show (53 : Int) + 1 = 54 by omega]; omega, fun _ _ => rfl, fun _ _ _ => ⟨rfl, rfl, rfl⟩, fun P q0 _ q1 => by omega, fun s s0 s1 => by rw [hT s s0 s1, show (53 : Int) + 1 = 54 by omega]; omega⟩
  obtain ⟨hx, hx1, hs, ho, hb, hd, hg⟩ := hI
  refine ⟨fun q => ?_, fun q => ?_⟩
  · have e : x2 = -1 := by omega
    subst e
    rw [show (-1 : Int) + 1 = 0 by omega, sumZ_0, Int.add_zero] at hs
    rw [hs]
    refine h G1 ho (fun P p0 p1 => hd P (by omega) p0 p1) (fun s s0 s1 => ?_)
    have z := hg s s0 s1
    have r := rank_rng (G := G) (r := a + 17) (s := s) (P := 54) (by omega)
    have c0 := (hc s s0 s1).2
    rw [show rankC G (a + 17) s (-1 + 1) = 0 from rfl] at z
    omega
  · obtain ⟨b1, b2', b3⟩ := hb x2 q (Int.le_refl _)
    have cs := hcs x2 q (by omega)
    rw [sumZ_s q] at hs
    rw [b2']
    have h5 : ∀ s : Int, G1 (a + 5) s.toNat = G (a + 5) s.toNat := fun s => by rw [ho (a + 5) (by omega)]
    -- nothing falls here
    have stay : ¬ fallC G a c x2 → (∀ s : Int, 0 ≤ s → s < 42 → max (rankC G (a + 17) s (x2 + 1)) (min (rankC G (a + 17) s 54) (c s)) = max (rankC G (a + 17) s x2) (min (rankC G (a + 17) s 54) (c s))) → k x1 (x2 + (-1)) G1 := fun nf hm => by
      rw [b2_f nf, Int.add_zero] at hs
      refine ih _ _ _ ⟨by omega, by omega, by rw [show x2 + (-1) + 1 = x2 by omega]; exact hs, ho, fun P p0 p1 => hb P p0 (by omega), fun P p0 p1 p2 => ?_, fun s s0 s1 => ?_⟩ (by omega)
      · by_cases e : P = x2
        · rw [e]
          exact ⟨fun f => absurd f nf, fun _ => ⟨b1, b2', b3⟩⟩
        · exact hd P (by omega) p1 p2
      · rw [show x2 + (-1) + 1 = x2 by omega, ← hm s s0 s1]; exact hg s s0 s1
    have rk : ∀ s, rankC G (a + 17) s (x2 + 1) = rankC G (a + 17) s x2 + b2 (G (a + 17) x2.toNat = s) := fun s => sumZ_s q
    refine ⟨⟨q, by omega⟩, fun e => stay (fun f => f.1 e) (fun s s0 s1 => ?_), fun e => ⟨⟨by omega, by omega⟩, ?_⟩⟩
    · rw [rk s, b2_f (by omega), Int.add_zero]
    · have s0 : 0 ≤ G (a + 17) x2.toNat := by omega
      obtain ⟨s, hsx⟩ : ∃ s, G (a + 17) x2.toNat = s := ⟨_, rfl⟩
      rw [hsx] at cs e s0 b2'
      rw [hsx]
      have z := hg s s0 cs.2
      have c0 := hc s s0 cs.2
      have l := rank_le (G := G) (r := a + 17) (s := s) (P := x2 + 1) (Q := 54) (by omega) (by omega)
      have rr := rank_rng (G := G) (r := a + 17) (s := s) (P := x2) q
      have r1 := rk s
      rw [b2_t hsx] at r1
      rw [z, h5, c0.1]
      refine ⟨fun t => stay (fun f => ?_) (fun s' s0' s1' => ?_), fun t => ?_⟩
      · have f2 := f.2
        rw [hsx] at f2
        omega
      · by_cases es : s' = s
        · rw [es]; omega
        · rw [rk s', b2_f (fun x => es (x.symm.trans hsx)), Int.add_zero]
      · have fall : fallC G a c x2 := by
          refine ⟨by rw [hsx]; exact e, ?_⟩
          rw [hsx]; omega
        refine c_cardDown (a0 := a + 14) (p := x2) (s := s) (v := rankC G (a + 17) s (x2 + 1)) ⟨q, by omega⟩ b2' ⟨s0, cs.2⟩ ?_ ⟨by omega, by omega⟩ (fun G2 o2 g2 g2v p2 p2v => ⟨⟨by omega, by omega⟩, ?_⟩)
        · show G1 (a + 19) s.toNat = _
          omega
        · rw [b2_t fall] at hs
          refine ih _ _ _ ⟨by omega, by omega, by rw [show x2 + (-1) + 1 = x2 by omega]; omega, fun x hx => by rw [o2 x (by omega)]; exact ho x hx, fun P p0 p1 => ?_, fun P p0 p1 p3 => ?_, fun s' s0' s1' => ?_⟩ (by omega)
          · have z2 := p2 P.toNat (by omega)
            have z3 := hb P p0 (by omega)
            exact ⟨z2.1.trans z3.1, z2.2.1.trans z3.2.1, z2.2.2.trans z3.2.2⟩
          · by_cases ep : P = x2
            · rw [ep]
              exact ⟨fun _ => p2v, fun nf => absurd fall nf⟩
            · have z2 := p2 P.toNat (by omega)
              have z3 := hd P (by omega) p1 p3
              exact ⟨fun f => ⟨z2.1.trans (z3.1 f).1, z2.2.1.trans (z3.1 f).2.1, z2.2.2.trans (z3.1 f).2.2⟩, fun f => ⟨z2.1.trans (z3.2 f).1, z2.2.1.trans (z3.2 f).2.1, z2.2.2.trans (z3.2 f).2.2⟩⟩
          · rw [show x2 + (-1) + 1 = x2 by omega]
            by_cases es : s' = s
            · rw [es]
              have : G2 (a + 19) s.toNat = rankC G (a + 17) s (x2 + 1) - 1 := g2v
              omega
            · have : G2 (a + 19) s'.toNat = G1 (a + 19) s'.toNat := g2 _ (by omega)
              rw [this, hg s' s0' s1', rk s', b2_f (fun x => es (x.symm.trans hsx)), Int.add_zero]
