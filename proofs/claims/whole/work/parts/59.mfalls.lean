-- ===== PURE LAYER: the reference's falls =====
def LoB (W : WT) : Prop := (0 ≤ W 6 ∧ W 6 ≤ 12) ∧ ∀ l, 0 ≤ l → l < W 6 → 0 ≤ loanW W l 2 ∧ loanW W l 2 ≤ 60
theorem WF.loB {n : Int} {W : WT} (h : WF n W) : LoB W := ⟨h.lo, fun l l0 l1 => by have := h.ln l l0 l1; omega⟩
section MB
variable {G : GH} {Q : Int → Prop}
theorem LoB.rng {W : WT} (h : LoB W) {f d x : Int} (hx0 : 0 ≤ x) (hx : x ≤ W 6) : 0 ≤ sumZ (fun l => if loanW W l 0 = f ∧ loanW W l 1 = d then loanW W l 2 else 0) x ∧ sumZ (fun l => if loanW W l 0 = f ∧ loanW W l 1 = d then loanW W l 2 else 0) x ≤ 60 * x := by
  constructor
  · refine sumZ_ge (fun i h0 h1 => ?_)
    have := h.2 i h0 (by omega)
    split <;> omega
  · refine sumZ_le hx0 (fun i h0 h1 => ?_)
    have := h.2 i h0 (by omega)
    split <;> omega
theorem m_borrowedOf {f d : Int} (h : LoB (G 273)) (hq : Q (borW (G 273) f d)) : f_X10_borrowedOf f d G Q := by
  unfold f_X10_borrowedOf
  have hl := h.1
  refine sum_loop (fun l => if loanW (G 273) l 0 = f ∧ loanW (G 273) l 1 = d then loanW (G 273) l 2 else 0) (G 273 6) hl.1 (fun k acc x h0 h1 hacc kk => ?_)
  have hr := h.rng (f := f) (d := d) h0 h1
  refine ⟨fun c => ?_, fun c => ?_⟩
  · have e : x = G 273 6 := by omega
    subst e
    rw [hacc, Int.zero_add]; exact hq
  · have kk := kk c
    have hln := h.2 x h0 c
    refine p10_ofLoan ⟨h0, by omega⟩ ⟨by omega, by omega⟩ ⟨fun c1 => ?_, fun c1 => ?_⟩
    · rw [if_neg (fun q => c1 q.1)] at kk
      exact ⟨⟨by omega, by omega⟩, kk⟩
    · refine p10_ofLoan ⟨h0, by omega⟩ ⟨by omega, by omega⟩ ⟨fun c2 => ?_, fun c2 => ?_⟩
      · rw [if_neg (fun q => c2 q.2)] at kk
        exact ⟨⟨by omega, by omega⟩, kk⟩
      · rw [if_pos ⟨c1, c2⟩] at kk
        exact p10_ofLoan ⟨h0, by omega⟩ ⟨by omega, by omega⟩ ⟨⟨by omega, by omega⟩, kk⟩
theorem m_count {s : Int} (h : LoB (G 273)) (hs : 0 ≤ s ∧ s < 42) (hq : Q (cntW (-1) (G 273) s)) : f_X10_count s G Q := by
  unfold f_X10_count
  refine ⟨fun c => p10_isOwn ⟨fun c1 => ?_, fun c1 => ?_⟩, fun c => by omega⟩
  · have := b2_eq0 c1
    rw [cnt_bor (by omega) hs.2] at hq
    exact p10_friendOf ⟨by omega, by omega⟩ (p10_digitOf ⟨by omega, by omega⟩ (m_borrowedOf h hq))
  · have := b2_ne0 c1
    rw [cnt_own hs.1 this] at hq
    refine ⟨fun c2 => ?_, fun c2 => ?_⟩
    · rw [if_neg (by omega)] at hq; exact hq
    · rw [if_pos c2] at hq
      exact p10_cardAt ⟨by omega, by omega⟩ ⟨by omega, by omega⟩ ⟨⟨by omega, by omega⟩, hq⟩
end MB
abbrev rankW (W : WT) (s p : Int) : Int := sumZ (fun p' => b2 (plaW W p' 1 = s)) p
theorem rankW_s {W : WT} {s p : Int} (h : 0 ≤ p) : rankW W s (p + 1) = rankW W s p + b2 (plaW W p 1 = s) := sumZ_s h
theorem rankW_mono {W : WT} {s : Int} {P : Int} (h0 : 0 ≤ P) : ∀ n : Nat, rankW W s P ≤ rankW W s (P + n)
  | 0 => by rw [show P + ((0 : Nat) : Int) = P by omega]; exact Int.le_refl _
  | n + 1 => by
    have ih := rankW_mono (W := W) (s := s) h0 n
    rw [show P + ((n + 1 : Nat) : Int) = (P + n) + 1 by omega, rankW_s (by omega)]
    have : 0 ≤ b2 (plaW W (P + (n : Int)) 1 = s) := b2_ge
    omega
theorem rankW_le {W : WT} {s P Q : Int} (h0 : 0 ≤ P) (h : P ≤ Q) : rankW W s P ≤ rankW W s Q := by
  have := rankW_mono (W := W) (s := s) h0 (Q - P).toNat
  rw [show P + ((Q - P).toNat : Int) = Q by omega] at this
  exact this
theorem rankW_rng {W : WT} {s P : Int} (h0 : 0 ≤ P) : 0 ≤ rankW W s P ∧ rankW W s P ≤ P := by
  refine ⟨sumZ_ge (fun _ _ _ => b2_ge), ?_⟩
  have := sumZ_le (f := fun P' => b2 (plaW W P' 1 = s)) (c := 1) h0 (fun _ _ _ => b2_le)
  unfold rankW
  omega
/-- place p comes down -/
theorem m_comesDown {G : GH} {Q : GH → Prop} {p : Int} (hp : 0 ≤ p ∧ p < 54) (h : ∀ G' : GH, (∀ x, x ≠ 273 → G' x = G x) → (∀ k, ¬ ((276 + 3 * p).toNat ≤ k ∧ k < (276 + 3 * p).toNat + 3) → G' 273 k = G 273 k) → (∀ k, (276 + 3 * p).toNat ≤ k → k < (276 + 3 * p).toNat + 3 → G' 273 k = -1) → Q G') : f_X10_comesDown p G Q := by
  unfold f_X10_comesDown
  refine up_loop (fun x G1 => (∀ y, y ≠ 273 → G1 y = G y) ∧ (∀ k, ¬ ((276 + 3 * p).toNat ≤ k ∧ k < (276 + 3 * p).toNat + 3) → G1 273 k = G 273 k) ∧ (∀ k : Nat, (276 + 3 * p).toNat ≤ k → (k : Int) < 276 + 3 * p + x → G1 273 k = -1)) 0 3 (by omega) ⟨fun _ _ => rfl, fun _ _ => rfl, fun k k0 k1 => by omega⟩ (fun k x G1 h0 h1 hI kk => ⟨fun c => ?_, fun c => p10_placeAt (by omega) (by omega) ⟨⟨by omega, by omega⟩, fun G2 e2 => kk G2 c ⟨fun y hy => ?_, fun k k0 => ?_, fun k k0 k1 => ?_⟩⟩⟩)
  · obtain ⟨i1, i2, i3⟩ := hI
    exact h G1 i1 i2 (fun k k0 k1 => i3 k k0 (by omega))
  · rw [e2, up_na hy]; exact hI.1 y hy
  · rw [e2, upG_nk (by omega)]; exact hI.2.1 k k0
  · by_cases e : (k : Int) = 276 + 3 * p + x
    · rw [e2, show k = (276 + 3 * p + x).toNat by omega, upG_same]
    · rw [e2, upG_nk (by omega)]; exact hI.2.2 k k0 (by omega)
/-- W' is W in which the places p with F p are empty -/
def Fell (F : Int → Prop) (W' W : WT) : Prop := (∀ k, k < 276 ∨ 438 ≤ k → W' k = W k) ∧ ∀ p, 0 ≤ p → p < 54 → (F p → plaW W' p 0 = -1 ∧ plaW W' p 1 = -1 ∧ plaW W' p 2 = -1) ∧ (¬ F p → plaW W' p 0 = plaW W p 0 ∧ plaW W' p 1 = plaW W p 1 ∧ plaW W' p 2 = plaW W p 2)
theorem m_falls {G : GH} {Q : Int → GH → Prop} {s c : Int} (hb : LoB (G 273)) (hs : 0 ≤ s ∧ s < 42) (hc : cntW (-1) (G 273) s = c) (hc2 : 0 ≤ c ∧ c ≤ 100000) (h : ∀ G' : GH, (∀ x, x ≠ 273 → G' x = G x) → Fell (fun p => plaW (G 273) p 1 = s ∧ c ≤ rankW (G 273) s p) (G' 273) (G 273) → Q (max 0 (hgW (G 273) s - c)) G') : f_X10_falls s G Q := by
  unfold f_X10_falls
  refine p10_hanging (m_count hb hs ?_)
  rw [hc]
  have eT : hgW (G 273) s = rankW (G 273) s 54 := rfl
  have rT := rankW_rng (W := G 273) (s := s) (P := 54) (by omega)
  refine ⟨⟨by omega, by omega⟩, ?_⟩
  rw [eT]
  rw [eT] at h
  refine loopI3 (I := fun x3 x4 G1 => (-1 ≤ x4 ∧ x4 < 54) ∧ x3 = max 0 (rankW (G 273) s (x4 + 1) - min (rankW (G 273) s 54) c) ∧ (∀ x, x ≠ 273 → G1 x = G x) ∧ (∀ k, k < 276 ∨ 438 ≤ k → G1 273 k = G 273 k) ∧ (∀ k : Nat, 276 ≤ k → (k : Int) < 276 + 3 * (x4 + 1) → G1 273 k = G 273 k) ∧
    (∀ p, x4 < p → 0 ≤ p → p < 54 → (plaW (G 273) p 1 = s ∧ c ≤ rankW (G 273) s p → plaW (G1 273) p 0 = -1 ∧ plaW (G1 273) p 1 = -1 ∧ plaW (G1 273) p 2 = -1) ∧ (¬ (plaW (G 273) p 1 = s ∧ c ≤ rankW (G 273) s p) → plaW (G1 273) p 0 = plaW (G 273) p 0 ∧ plaW (G1 273) p 1 = plaW (G 273) p 1 ∧ plaW (G1 273) p 2 = plaW (G 273) p 2)))
    (μ := fun _ x4 _ => (x4 + 1).toNat) (fun k x3 x4 G1 hI ih => ?_) _ 53 G ⟨by omega, by rw [show (53 : Int) + 1 = 54 by omega]; omega, fun _ _ => rfl, fun _ _ => rfl, fun _ _ _ => rfl, fun p p0 _ p1 => by omega⟩
  obtain ⟨hx, h3, ho, hout, hin, hd⟩ := hI
  -- the places up to x4 are as they were
  have low : ∀ p, 0 ≤ p → p ≤ x4 → plaW (G1 273) p 0 = plaW (G 273) p 0 ∧ plaW (G1 273) p 1 = plaW (G 273) p 1 ∧ plaW (G1 273) p 2 = plaW (G 273) p 2 := fun p p0 p1 => ⟨hin _ (by omega) (by omega), hin _ (by omega) (by omega), hin _ (by omega) (by omega)⟩
  -- none of them falls once x3 = 0
  have fin : x3 ≤ 0 → Q (max 0 (rankW (G 273) s 54 - c)) G1 := fun z => by
    refine h G1 ho ⟨hout, fun p p0 p1 => ?_⟩
    by_cases cp : x4 < p
    · exact hd p cp p0 p1
    · refine ⟨fun f => ?_, fun _ => low p p0 (by omega)⟩
      have r1 := rankW_s (W := G 273) (s := s) p0
      rw [b2_t f.1] at r1
      have r2 := rankW_le (W := G 273) (s := s) (P := p + 1) (Q := x4 + 1) (by omega) (by omega)
      have r3 := rankW_le (W := G 273) (s := s) (P := p + 1) (Q := 54) (by omega) (by omega)
      have := f.2
      omega
  refine ⟨fun q => fin ?_, fun q => ⟨fun z => fin z, fun z => p10_placeAt (by omega) (by omega) ⟨⟨by omega, by omega⟩, fun e => ?_, fun e => ?_⟩⟩⟩
  · have : x4 = -1 := by omega
    rw [this, show (-1 : Int) + 1 = 0 by omega, show rankW (G 273) s 0 = 0 from rfl] at h3
    omega
  · have e1 : plaW (G 273) x4 1 = s := (low x4 q (Int.le_refl _)).2.1.symm.trans e
    have r1 := rankW_s (W := G 273) (s := s) q
    rw [b2_t e1] at r1
    have r3 := rankW_le (W := G 273) (s := s) (P := x4 + 1) (Q := 54) (by omega) (by omega)
    refine m_comesDown ⟨q, by omega⟩ (fun G2 o2 p2 v2 => ih _ _ _ ⟨by omega, by rw [show x4 + (-1) + 1 = x4 by omega]; omega, fun x hx => by rw [o2 x hx]; exact ho x hx, fun k hk => by rw [p2 k (by omega)]; exact hout k hk, fun k k0 k1 => by rw [p2 k (by omega)]; exact hin k k0 (by omega), fun p p0 p1 p3 => ?_⟩ (by omega))
    by_cases ep : p = x4
    · rw [ep]
      refine ⟨fun _ => ⟨v2 _ (by omega) (by omega), v2 _ (by omega) (by omega), v2 _ (by omega) (by omega)⟩, fun nf => absurd ⟨e1, by omega⟩ nf⟩
    · have z2 : ∀ h9 : Int, 0 ≤ h9 → h9 < 3 → plaW (G2 273) p h9 = plaW (G1 273) p h9 := fun h9 a0 a1 => p2 _ (by omega)
      rw [z2 0 (by omega) (by omega), z2 1 (by omega) (by omega), z2 2 (by omega) (by omega)]
      exact hd p (by omega) p1 p3
  · have e1 : ¬ plaW (G 273) x4 1 = s := fun y => e ((low x4 q (Int.le_refl _)).2.1.trans y)
    have r1 := rankW_s (W := G 273) (s := s) q
    rw [b2_f e1] at r1
    refine ih _ _ _ ⟨by omega, by rw [show x4 + (-1) + 1 = x4 by omega]; omega, ho, hout, fun k k0 k1 => hin k k0 (by omega), fun p p0 p1 p3 => ?_⟩ (by omega)
    by_cases ep : p = x4
    · rw [ep]
      exact ⟨fun f => absurd f.1 e1, fun _ => low x4 q (Int.le_refl _)⟩
    · exact hd p (by omega) p1 p3
