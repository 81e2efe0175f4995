-- ===== PURE LAYER: a loan ends as a function of W; the class's loans; giveBack =====
def endW (V : WT) (l : Int) : WT := fun k => if k = 6 then V 6 - 1 else if k = ((51 + (11 * loanW V l 0)) + (1 + loanW V l 1)).toNat then V k + loanW V l 2 else if 84 + 4 * l ≤ (k : Int) ∧ (k : Int) < 84 + 4 * (V 6 - 1) then V (k + 4) else V k
section EW
variable {V U U' : WT} {l f d m x y z : Int}
theorem endW_is (hf : loanW V l 0 = f) (hf2 : 0 ≤ f ∧ f ≤ 2) (hd : loanW V l 1 = d) (hd2 : 0 ≤ d ∧ d ≤ 9) (hm : loanW V l 2 = m) (hl : 0 ≤ l ∧ l < V 6) : Ended (endW V l) V l f d m := by
  refine ⟨fun k k0 k1 k2 k3 => ?_, ?_, ?_, fun k k0 k1 => ?_, hf, hd, hm⟩
  · unfold endW
    rw [hf, hd, hm, if_neg k1, if_neg k2, if_neg k3]
  · unfold endW
    rw [if_pos rfl]
  · show endW V l ((51 + (11 * f)) + (1 + d)).toNat = V ((51 + (11 * f)) + (1 + d)).toNat + m
    unfold endW
    rw [hf, hd, hm, if_neg (by omega), if_pos rfl]
  · unfold endW
    rw [hf, hd, hm, if_neg (by omega), if_neg (by omega), if_pos ⟨k0, k1⟩]
theorem Ended.flr (q : Ended U' U l f d m) (h : FLr U y) (hl : 0 ≤ l ∧ l < U 6) (hy : y ≤ l + 1) (hz : z = y ∨ z = l) : FLr U' z := by
  have h6 := h.1
  have h4 := h.2.1
  have hll := h.2.2.2 l hl.1 hl.2
  have e0 := q.2.2.2.2.1
  have e1 := q.2.2.2.2.2.1
  have e2 := q.2.2.2.2.2.2
  rw [e0, e1, e2] at hll
  have hf3 : 0 ≤ f ∧ f < 3 := by omega
  have hd := hll.2.1
  have u4 : U' 4 = U 4 := q.out6 hl h6.2 hf3 hd 4 (by omega) (by omega) (by omega)
  have u6 : U' 6 = U 6 - 1 := q.2.1
  refine ⟨by omega, by omega, fun f' f0 f1 => ?_, fun i i0 i1 => ?_⟩
  · rw [u4] at f1
    have fd := h.2.2.1 f' f0 f1
    rw [q.fri0 hl h6.2 hf3 hd f0 (by omega) (by omega) (by omega) (by omega)]
    refine ⟨fd.1, fun d' d0 d1 => ?_⟩
    have fdd := fd.2 d' d0 d1
    rw [q.bor hl h6.2 hf3 hd]
    by_cases c : f' = f ∧ d' = d
    · have e3 := q.2.2.1
      rw [c.1, c.2] at fdd
      rw [if_pos c, c.1, c.2, e3]
      have : 0 ≤ friW U f (1 + d) := fdd.1
      omega
    · rw [if_neg c, q.fri0 hl h6.2 hf3 hd f0 (by omega) (by omega) (by omega) (by omega)]
      omega
  · rw [u6] at i1
    rw [u4]
    by_cases c : i < l
    · rw [q.low hl h6.2 hf3 hd i0 c (by omega) (by omega), q.low hl h6.2 hf3 hd i0 c (by omega) (by omega), q.low hl h6.2 hf3 hd i0 c (by omega) (by omega), q.low hl h6.2 hf3 hd i0 c (by omega) (by omega)]
      have w := h.2.2.2 i i0 (by omega)
      exact ⟨w.1, w.2.1, w.2.2.1, w.2.2.2.1, fun q9 => w.2.2.2.2 (by omega)⟩
    · rw [q.high hl (by omega) i1 (by omega) (by omega), q.high hl (by omega) i1 (by omega) (by omega), q.high hl (by omega) i1 (by omega) (by omega), q.high hl (by omega) i1 (by omega) (by omega)]
      have w := h.2.2.2 (i + 1) (by omega) (by omega)
      exact ⟨w.1, w.2.1, w.2.2.1, w.2.2.2.1, fun q9 => w.2.2.2.2 (by omega)⟩
/-- the class's loans show U, those below x with a service more -/
def RLo (G : GH) (U : WT) (x : Int) : Prop := G 3 8 = U 6 ∧ (∀ f d : Int, 0 ≤ f → f < U 4 → 0 ≤ d → d < 10 → G 8 ((f * 10) + d).toNat = friW U f (1 + d)) ∧ (∀ s : Int, 0 ≤ s → s < 42 → G 6 s.toNat = cntW (-1) U s) ∧
  (∀ l : Int, 0 ≤ l → l < U 6 → G 9 l.toNat = loanW U l 0 * 10 + loanW U l 1 ∧ G 10 l.toNat = loanW U l 2 ∧ G 11 l.toNat = loanW U l 3 + (if l < x then 1 else 0))
theorem RepS.rl {G : GH} {W : WT} (r : RepS G 1 W) : RLo G W 0 := ⟨r.lo, fun f d f0 f1 d0 d1 => (r.fd f f0 f1).2 d d0 d1, r.ct, fun l l0 l1 => by
  rw [if_neg (by omega), Int.add_zero]; exact r.ln l l0 l1⟩
theorem RLo.ends {G : GH} {Q : GH → Prop} (R : RLo G U x) (F : FLr U y) (hl : 0 ≤ l ∧ l < U 6) (hx : x ≤ l) (cb : ∀ s, 0 ≤ s → s < 42 → 0 ≤ cntW (-1) U s ∧ cntW (-1) U s ≤ 720) (q : Ended U' U l f d m)
    (h : ∀ G' : GH, (∀ z, z ≠ 3 → z ≠ 6 → ¬ (8 ≤ z ∧ z ≤ 11) → G' z = G z) → (∀ k, k ≠ 8 → G' 3 k = G 3 k) → RLo G' U' x → Q G') : f_X8_endLoan 3 l G Q := by
  have h6 := F.1
  have h4 := F.2.1
  have hll := F.2.2.2 l hl.1 hl.2
  have e0 := q.2.2.2.2.1
  have e1 := q.2.2.2.2.2.1
  have e2 := q.2.2.2.2.2.2
  rw [e0, e1, e2] at hll
  have hf3 : 0 ≤ f ∧ f < 3 := by omega
  have hd := hll.2.1
  have fdl := (F.2.2.1 f hf3.1 hll.1.2).2 d hd.1 (by omega)
  have br := F.loB.rng (f := f) (d := d) h6.1 (Int.le_refl _)
  have bb : borW U f d = sumZ (fun l => if loanW U l 0 = f ∧ loanW U l 1 = d then loanW U l 2 else 0) (U 6) := rfl
  have u4 : U' 4 = U 4 := q.out6 hl h6.2 hf3 hd 4 (by omega) (by omega) (by omega)
  have u6 : U' 6 = U 6 - 1 := q.2.1
  obtain ⟨R1, R2, R3, R4⟩ := R
  have k9 := R4 l hl.1 hl.2
  rw [e0, e1, e2] at k9
  have k8 := R2 f d hf3.1 hll.1.2 hd.1 (by omega)
  have c0 := cb (12 + (f * 10 + d)) (by omega) (by omega)
  have k6 := R3 (12 + (f * 10 + d)) (by omega) (by omega)
  refine c_endLoan (a0 := 3) (n := U 6) (kd := f * 10 + d) (mn := m) (t := friW U f (1 + d)) (b := cntW (-1) U (12 + (f * 10 + d))) hl h6.2 R1 k9.1 (by omega) k9.2.1 k8 k6 ⟨by omega, by omega⟩ ⟨by omega, by omega⟩ (fun G' o p p8 s sv t tv lo hi => ?_)
  refine h G' (fun z z0 z1 z2 => o z z0 (by omega) (by omega)) p ⟨by rw [u6]; exact p8, fun f' d' f0 f1 d0 d1 => ?_, fun s' s0 s1 => ?_, fun i i0 i1 => ?_⟩
  · rw [u4] at f1
    by_cases c : f' = f ∧ d' = d
    · rw [c.1, c.2, q.2.2.1]; exact sv
    · rw [q.fri0 hl h6.2 hf3 hd f0 (by omega) (by omega) (by omega) (by omega)]
      exact (s _ (by omega)).trans (R2 f' d' f0 f1 d0 d1)
  · rw [q.cnt hl h6.2 hf3 hd s' s0 s1]
    by_cases c : s' = 12 + (f * 10 + d)
    · rw [if_pos c, c]; exact tv
    · rw [if_neg c, Int.sub_zero]
      exact (t _ (by omega)).trans (R3 s' s0 s1)
  · rw [u6] at i1
    by_cases c : i < l
    · rw [q.low hl h6.2 hf3 hd i0 c (by omega) (by omega), q.low hl h6.2 hf3 hd i0 c (by omega) (by omega), q.low hl h6.2 hf3 hd i0 c (by omega) (by omega), q.low hl h6.2 hf3 hd i0 c (by omega) (by omega)]
      have w := lo i.toNat (by omega)
      have v := R4 i i0 (by omega)
      exact ⟨w.1.trans v.1, w.2.1.trans v.2.1, w.2.2.trans v.2.2⟩
    · rw [q.high hl (by omega) i1 (by omega) (by omega), q.high hl (by omega) i1 (by omega) (by omega), q.high hl (by omega) i1 (by omega) (by omega), q.high hl (by omega) i1 (by omega) (by omega)]
      have w := hi i.toNat (by omega) (by omega)
      have v := R4 (i + 1) (by omega) (by omega)
      rw [show (i + 1).toNat = i.toNat + 1 by omega, if_neg (by omega)] at v
      rw [if_neg (by omega)]
      exact ⟨w.1.trans v.1, w.2.1.trans v.2.1, w.2.2.trans v.2.2⟩
end EW
section A11
variable {j : Nat} {G : GH} {K : GH → Prop} {L : Nat} {xs : Nat → Int32} {i4 : Int}
end A11
