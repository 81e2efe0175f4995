-- ===== PURE LAYER: what falls on both sides is the same =====
theorem sumZ_trunc {f : Int → Int} {x N : Int} (h0 : 0 ≤ x) (h1 : x ≤ N) : sumZ (fun i => if i < x then f i else 0) N = sumZ f x := by
  unfold sumZ
  rw [sumN_cut (m := x.toNat) (K := N.toNat) (by omega) (fun i i0 i1 => if_neg (by omega))]
  exact sumN_congr _ (fun i i0 i1 => if_pos (by omega))
section FG
variable {G G' : GH} {h : Nat} {W W' : WT} {n : Int}
/-- the order of the places is the same on both sides -/
theorem WF.order (hW : WF n W) {b b' i i' : Int} (b0 : 0 ≤ b) (b1 : b < 3) (b0' : 0 ≤ b') (b1' : b' < 3) (i0 : 0 ≤ i) (i1 : i < 18) (i0' : 0 ≤ i') (i1' : i' < 18) (c : actv W 3 b i) (c' : actv W 3 b' i') : 18 * b' + i' < 18 * b + i ↔ 3 * frstW W b' + i' < 3 * frstW W b + i := by
  have f0 := frst_0 (W := W); have f1 := frst_1 (W := W); have f2 := frst_2 (W := W)
  obtain ⟨c1, c2⟩ := c
  obtain ⟨c1', c2'⟩ := c'
  have q0 : 0 < W 0 → 1 ≤ rowW W 0 ∧ rowW W 0 ≤ 6 := fun q => hW.ro 0 (by omega) q
  have q1 : 1 < W 0 → 1 ≤ rowW W 1 ∧ rowW W 1 ≤ 6 := fun q => hW.ro 1 (by omega) q
  have q2 : 2 < W 0 → 1 ≤ rowW W 2 ∧ rowW W 2 ≤ 6 := fun q => hW.ro 2 (by omega) q
  have e : b = 0 ∨ b = 1 ∨ b = 2 := by omega
  have e' : b' = 0 ∨ b' = 1 ∨ b' = 2 := by omega
  rcases e with rfl | rfl | rfl <;> rcases e' with rfl | rfl | rfl <;> omega
theorem HangS.rank (hW : WF n W) (hH : HangS G h W) {s b i : Int} (s0 : 0 ≤ s) (b0 : 0 ≤ b) (b1 : b < 3) (i0 : 0 ≤ i) (i1 : i < 18) (c : actv W 3 b i) : rankC G (h + 3) s (18 * b + i) = rankW W s (3 * frstW W b + i) := by
  have fr := hW.frst b0 (by have := c.1; omega)
  have c2 := c.2
  have rb := hW.ro b b0 c.1
  have fs := frst_s (W := W) b0
  have fr1 := hW.frst (b := b + 1) (by omega) (by have := c.1; omega)
  have al := hW.allR
  have k := blk_sum hW (m := 3) (Or.inr rfl) (f := fun P => if P < 18 * b + i then b2 (G (h + 3) P.toNat = s) else 0) (f' := fun p => if p < 3 * frstW W b + i then b2 (plaW W p 1 = s) else 0) (fun b' i' b0' b1' i0' i1' => ⟨fun c' => ?_, fun c' => ?_⟩) (fun p p0 p1 => ?_)
  · rw [sumZ_trunc (by omega) (by omega), sumZ_trunc (by omega) (by omega)] at k
    exact k
  · have o := hW.order b0 b1 b0' b1' i0 i1 i0' (by omega) c c'
    have e := ((hH.2 b' i' b0' b1' i0' (by omega)).1 c').2.1
    show (if 18 * b' + i' < 18 * b + i then b2 (G (h + 3) (18 * b' + i').toNat = s) else 0) = (if 3 * frstW W b' + i' < 3 * frstW W b + i then b2 (plaW W (3 * frstW W b' + i') 1 = s) else 0)
    rw [e]
    by_cases q : 18 * b' + i' < 18 * b + i
    · rw [if_pos q, if_pos (o.mp q)]
    · rw [if_neg q, if_neg (fun q2 => q (o.mpr q2))]
  · have e := ((hH.2 b' i' b0' b1' i0' (by omega)).2 c').2.1
    show (if 18 * b' + i' < 18 * b + i then b2 (G (h + 3) (18 * b' + i').toNat = s) else 0) = 0
    rw [e, b2_f (by omega)]
    split <;> rfl
  · have z := hW.pf p p0 (by omega)
    have pl := hW.pl p (by omega) (by omega)
    show (if p < 3 * frstW W b + i then b2 (plaW W p 1 = s) else 0) = 0
    rw [pl.2.2.2.1.mp z, b2_f (by omega)]
    split <;> rfl
theorem HangS.rng (hW : WF n W) (hH : HangS G h W) {P : Int} (P0 : 0 ≤ P) (P1 : P < 54) : -1 ≤ G (h + 3) P.toNat ∧ G (h + 3) P.toNat < 42 := by
  have e : P = 18 * (P / 18) + P % 18 := by omega
  have z := hH.2 (P / 18) (P % 18) (by omega) (by omega) (by omega) (by omega)
  rw [← e] at z
  by_cases c : actv W 3 (P / 18) (P % 18)
  · have fr := hW.frst (b := P / 18) (by omega) (by have := c.1; omega)
    rw [(z.1 c).2.1]
    exact (hW.pl _ (by omega) (by omega)).2.1
  · rw [(z.2 c).2.1]; omega
theorem HangS.fall (hW : WF n W) (hH : HangS G h W) {a : Nat} (ha : h = a + 14) {c : Int → Int} {b i : Int} (b0 : 0 ≤ b) (b1 : b < 3) (i0 : 0 ≤ i) (i1 : i < 18) : (actv W 3 b i → (fallC G a c (18 * b + i) ↔ fallW W c (3 * frstW W b + i))) ∧ (¬ actv W 3 b i → ¬ fallC G a c (18 * b + i)) := by
  subst ha
  refine ⟨fun q => ?_, fun q => ?_⟩
  · have e : G (a + 17) (18 * b + i).toNat = plaW W (3 * frstW W b + i) 1 := ((hH.2 b i b0 b1 i0 i1).1 q).2.1
    have fr := hW.frst b0 (by have := q.1; omega)
    have pl := hW.pl (3 * frstW W b + i) (by omega) (by omega)
    unfold fallC fallW
    rw [e]
    by_cases z : plaW W (3 * frstW W b + i) 1 = -1
    · exact ⟨fun y => absurd z y.1, fun y => absurd z y.1⟩
    · have r : rankC G (a + 17) (plaW W (3 * frstW W b + i) 1) (18 * b + i) = rankW W (plaW W (3 * frstW W b + i) 1) (3 * frstW W b + i) := hH.rank hW (by omega) b0 b1 i0 i1 q
      rw [r]
  · have e : G (a + 17) (18 * b + i).toNat = -1 := ((hH.2 b i b0 b1 i0 i1).2 q).2.1
    exact fun y => y.1 e
theorem HangS.falls_sum (hW : WF n W) (hH : HangS G h W) {a : Nat} (ha : h = a + 14) {c : Int → Int} : sumZ (fun P => b2 (fallC G a c P)) 54 = sumZ (fun p => b2 (fallW W c p)) 54 := by
  have k := blk_sum hW (m := 3) (Or.inr rfl) (f := fun P => b2 (fallC G a c P)) (f' := fun p => b2 (fallW W c p)) (fun b i b0 b1 i0 i1 => ⟨fun q => ?_, fun q => ?_⟩) (fun p p0 p1 => ?_)
  · exact k
  · exact b2_iff ((hH.fall hW ha b0 b1 i0 (by omega)).1 q)
  · exact b2_f ((hH.fall hW ha b0 b1 i0 (by omega)).2 q)
  · have al := hW.allR
    have z := hW.pf p p0 (by omega)
    have pl := hW.pl p (by omega) (by omega)
    exact b2_f (fun q => q.1 (pl.2.2.2.1.mp z))
/-- the Hanging of the class after both fell -/
theorem HangS.fell (hW : WF n W) (hH : HangS G h W) {a : Nat} (ha : h = a + 14) {c : Int → Int} (e0 : W' 0 = W 0) (er : EqR 12 15 W' W) (eh : EqR 438 456 W' W) (hf : ∀ p, 0 ≤ p → p < 54 → (fallW W c p → plaW W' p 0 = -1 ∧ plaW W' p 1 = -1 ∧ plaW W' p 2 = -1) ∧ (¬ fallW W c p → plaW W' p 0 = plaW W p 0 ∧ plaW W' p 1 = plaW W p 1 ∧ plaW W' p 2 = plaW W p 2))
    (g1 : G' (a + 15) = G (a + 15)) (g : ∀ P : Int, 0 ≤ P → P < 54 → (fallC G a c P → G' (a + 16) P.toNat = -1 ∧ G' (a + 17) P.toNat = -1 ∧ G' (a + 18) P.toNat = -1) ∧ (¬ fallC G a c P → G' (a + 16) P.toNat = G (a + 16) P.toNat ∧ G' (a + 17) P.toNat = G (a + 17) P.toNat ∧ G' (a + 18) P.toNat = G (a + 18) P.toNat)) : HangS G' h W' := by
  subst ha
  refine ⟨fun b r b0 b1 r0 r1 => ⟨fun q => ?_, fun q => ?_⟩, fun b i b0 b1 i0 i1 => ⟨fun q => ?_, fun q => ?_⟩⟩
  · have q := (act_of e0 er b0 b1).mp q
    have f := hW.frst b0 (by have := q.1; omega)
    rw [rR_frst er (by omega), rR_hun eh (by omega) (by omega), show a + 14 + 1 = a + 15 by omega, g1]
    exact (hH.1 b r b0 b1 r0 r1).1 q
  · rw [show a + 14 + 1 = a + 15 by omega, g1]
    exact (hH.1 b r b0 b1 r0 r1).2 (fun q2 => q ((act_of e0 er b0 b1).mpr q2))
  · have q := (act_of e0 er b0 b1).mp q
    have f := hW.frst b0 (by have := q.1; omega)
    rw [rR_frst er (by omega)]
    have fi := (hH.fall hW rfl (c := c) b0 b1 i0 i1).1 q
    have gp := g (18 * b + i) (by omega) (by omega)
    have fp := hf (3 * frstW W b + i) (by omega) (by omega)
    have old := (hH.2 b i b0 b1 i0 i1).1 q
    by_cases y : fallW W c (3 * frstW W b + i)
    · have g2 := gp.1 (fi.mpr y)
      have f2 := fp.1 y
      exact ⟨g2.1.trans f2.1.symm, g2.2.1.trans f2.2.1.symm, g2.2.2.trans f2.2.2.symm⟩
    · have g2 := gp.2 (fun w => y (fi.mp w))
      have f2 := fp.2 y
      exact ⟨g2.1.trans (old.1.trans f2.1.symm), g2.2.1.trans (old.2.1.trans f2.2.1.symm), g2.2.2.trans (old.2.2.trans f2.2.2.symm)⟩
  · have q' : ¬ actv W 3 b i := fun q2 => q ((act_of e0 er b0 b1).mpr q2)
    have g2 := (g (18 * b + i) (by omega) (by omega)).2 ((hH.fall hW rfl (c := c) b0 b1 i0 i1).2 q')
    have old := (hH.2 b i b0 b1 i0 i1).2 q'
    exact ⟨g2.1.trans old.1, g2.2.1.trans old.2.1, g2.2.2.trans old.2.2⟩
end FG
