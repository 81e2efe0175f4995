-- ===== PURE LAYER: a loan ends as a function of W; the class's loans; giveBack =====
def endW (V : WT) (l : Int) : WT := fun k => if k = 6 then V 6 - 1 else if k = ((51 + (11 * loanW V l 0)) + (1 + loanW V l 1)).toNat then V k + loanW V l 2 else if 84 + 4 * l ≤ (k : Int) ∧ (k : Int) < 84 + 4 * (V 6 - 1) then V (k + 4) else V k
section EW
variable {V U U' : WT} {l f d m x y z : Int}
theorem endW_is (hf : loanW V l 0 = f) (hf2 : 0 ≤ f ∧ f ≤ 2) (hd : loanW V l 1 = d) (hd2 : 0 ≤ d ∧ d ≤ 9) (hm : loanW V l 2 = m) (hl : 0 ≤ l ∧ l < V 6) : Ended (endW V l) V l f d m := by
  refine ⟨fun k k0 k1 k2 k3 => ?_, ?_, ?_, fun k k0 k1 => ?_, hf, hd, hm⟩
  · unfold endW
    rw [hf, hd, hm, if_neg k1, if_neg k2, if_neg k3]
  · unfold endW
    rw [if_pos rfl]
  · show endW V l ((51 + (11 * f)) + (1 + d)).toNat = V ((51 + (11 * f)) + (1 + d)).toNat + m
    unfold endW
    rw [hf, hd, hm, if_neg (by omega), if_pos rfl]
  · unfold endW
    rw [hf, hd, hm, if_neg (by omega), if_neg (by omega), if_pos ⟨k0, k1⟩]
theorem m_ends2 {G : GH} {Q : GH → Prop} {n t : Int} (hl : 0 ≤ l ∧ l < n) (hn2 : n ≤ 12) (hn : G 273 6 = n) (hf : loanW (G 273) l 0 = f) (hf2 : 0 ≤ f ∧ f ≤ 2) (hd : loanW (G 273) l 1 = d) (hd2 : 0 ≤ d ∧ d ≤ 9) (hm : loanW (G 273) l 2 = m) (ht : friW (G 273) f (1 + d) = t) (r1 : inR (t + m))
    (h : ∀ G' : GH, (∀ x, x ≠ 273 → G' x = G x) → G' 273 = endW (G 273) l → Q G') : f_X10_ends l G Q := by
  refine m_ends hl hn2 hn hf hf2 hd hd2 hm ht r1 (fun G' o w w6 wf ws => h G' o (funext fun k => ?_))
  have wf2 : G' 273 ((51 + (11 * f)) + (1 + d)).toNat = t + m := wf
  have ht2 : G 273 ((51 + (11 * f)) + (1 + d)).toNat = t := ht
  unfold endW
  rw [hf, hd, hm, hn]
  by_cases c1 : k = 6
  · rw [if_pos c1, c1, w6]
  · rw [if_neg c1]
    by_cases c2 : k = ((51 + (11 * f)) + (1 + d)).toNat
    · rw [if_pos c2, c2, wf2, ht2]
    · rw [if_neg c2]
      by_cases c3 : 84 + 4 * l ≤ (k : Int) ∧ (k : Int) < 84 + 4 * (n - 1)
      · rw [if_pos c3]; exact ws k c3.1 c3.2
      · rw [if_neg c3]; exact w k c1 c2 c3
theorem Ended.flr (q : Ended U' U l f d m) (h : FLr U y) (hl : 0 ≤ l ∧ l < U 6) (hy : y ≤ l + 1) (hz : z = y ∨ z = l) : FLr U' z := by
  have h6 := h.1
  have h4 := h.2.1
  have hll := h.2.2.2 l hl.1 hl.2
  have e0 := q.2.2.2.2.1
  have e1 := q.2.2.2.2.2.1
  have e2 := q.2.2.2.2.2.2
  rw [e0, e1, e2] at hll
  have hf3 : 0 ≤ f ∧ f < 3 := by omega
  have hd := hll.2.1
  have u4 : U' 4 = U 4 := q.out6 hl h6.2 hf3 hd 4 (by omega) (by omega) (by omega)
  have u6 : U' 6 = U 6 - 1 := q.2.1
  refine ⟨by omega, by omega, fun f' f0 f1 => ?_, fun i i0 i1 => ?_⟩
  · rw [u4] at f1
    have fd := h.2.2.1 f' f0 f1
    rw [q.fri0 hl h6.2 hf3 hd f0 (by omega) (by omega) (by omega) (by omega)]
    refine ⟨fd.1, fun d' d0 d1 => ?_⟩
    have fdd := fd.2 d' d0 d1
    rw [q.bor hl h6.2 hf3 hd]
    by_cases c : f' = f ∧ d' = d
    · have e3 := q.2.2.1
      rw [c.1, c.2] at fdd
      rw [if_pos c, c.1, c.2, e3]
      have : 0 ≤ friW U f (1 + d) := fdd.1
      omega
    · rw [if_neg c, q.fri0 hl h6.2 hf3 hd f0 (by omega) (by omega) (by omega) (by omega)]
      omega
  · rw [u6] at i1
    rw [u4]
    by_cases c : i < l
    · rw [q.low hl h6.2 hf3 hd i0 c (by omega) (by omega), q.low hl h6.2 hf3 hd i0 c (by omega) (by omega), q.low hl h6.2 hf3 hd i0 c (by omega) (by omega), q.low hl h6.2 hf3 hd i0 c (by omega) (by omega)]
      have w := h.2.2.2 i i0 (by omega)
      exact ⟨w.1, w.2.1, w.2.2.1, w.2.2.2.1, fun q9 => w.2.2.2.2 (by omega)⟩
    · rw [q.high hl (by omega) i1 (by omega) (by omega), q.high hl (by omega) i1 (by omega) (by omega), q.high hl (by omega) i1 (by omega) (by omega), q.high hl (by omega) i1 (by omega) (by omega)]
      have w := h.2.2.2 (i + 1) (by omega) (by omega)
      exact ⟨w.1, w.2.1, w.2.2.1, w.2.2.2.1, fun q9 => w.2.2.2.2 (by omega)⟩
/-- the class's loans show U, those below x with a service more -/
def RLo (G : GH) (U : WT) (x : Int) : Prop := G 3 8 = U 6 ∧ (∀ f d : Int, 0 ≤ f → f < U 4 → 0 ≤ d → d < 10 → G 8 ((f * 10) + d).toNat = friW U f (1 + d)) ∧ (∀ s : Int, 0 ≤ s → s < 42 → G 6 s.toNat = cntW (-1) U s) ∧
  (∀ l : Int, 0 ≤ l → l < U 6 → G 9 l.toNat = loanW U l 0 * 10 + loanW U l 1 ∧ G 10 l.toNat = loanW U l 2 ∧ G 11 l.toNat = loanW U l 3 + (if l < x then 1 else 0))
theorem RepS.rl {G : GH} {W : WT} (r : RepS G 1 W) : RLo G W 0 := ⟨r.lo, fun f d f0 f1 d0 d1 => (r.fd f f0 f1).2 d d0 d1, r.ct, fun l l0 l1 => by
  rw [if_neg (by omega), Int.add_zero]; exact r.ln l l0 l1⟩
theorem RLo.ends {G : GH} {Q : GH → Prop} (R : RLo G U x) (F : FLr U y) (hl : 0 ≤ l ∧ l < U 6) (hx : x ≤ l) (cb : ∀ s, 0 ≤ s → s < 42 → 0 ≤ cntW (-1) U s ∧ cntW (-1) U s ≤ 720) (q : Ended U' U l f d m)
    (h : ∀ G' : GH, (∀ z, z ≠ 3 → z ≠ 6 → ¬ (8 ≤ z ∧ z ≤ 11) → G' z = G z) → (∀ k, k ≠ 8 → G' 3 k = G 3 k) → RLo G' U' x → Q G') : f_X8_endLoan 3 l G Q := by
  have h6 := F.1
  have h4 := F.2.1
  have hll := F.2.2.2 l hl.1 hl.2
  have e0 := q.2.2.2.2.1
  have e1 := q.2.2.2.2.2.1
  have e2 := q.2.2.2.2.2.2
  rw [e0, e1, e2] at hll
  have hf3 : 0 ≤ f ∧ f < 3 := by omega
  have hd := hll.2.1
  have fdl := (F.2.2.1 f hf3.1 hll.1.2).2 d hd.1 (by omega)
  have br := F.loB.rng (f := f) (d := d) h6.1 (Int.le_refl _)
  have bb : borW U f d = sumZ (fun l => if loanW U l 0 = f ∧ loanW U l 1 = d then loanW U l 2 else 0) (U 6) := rfl
  have u4 : U' 4 = U 4 := q.out6 hl h6.2 hf3 hd 4 (by omega) (by omega) (by omega)
  have u6 : U' 6 = U 6 - 1 := q.2.1
  obtain ⟨R1, R2, R3, R4⟩ := R
  have k9 := R4 l hl.1 hl.2
  rw [e0, e1, e2] at k9
  have k8 := R2 f d hf3.1 hll.1.2 hd.1 (by omega)
  have c0 := cb (12 + (f * 10 + d)) (by omega) (by omega)
  have k6 := R3 (12 + (f * 10 + d)) (by omega) (by omega)
  refine c_endLoan (a0 := 3) (n := U 6) (kd := f * 10 + d) (mn := m) (t := friW U f (1 + d)) (b := cntW (-1) U (12 + (f * 10 + d))) hl h6.2 R1 k9.1 (by omega) k9.2.1 k8 k6 ⟨by omega, by omega⟩ ⟨by omega, by omega⟩ (fun G' o p p8 s sv t tv lo hi => ?_)
  refine h G' (fun z z0 z1 z2 => o z z0 (by omega) (by omega)) p ⟨by rw [u6]; exact p8, fun f' d' f0 f1 d0 d1 => ?_, fun s' s0 s1 => ?_, fun i i0 i1 => ?_⟩
  · rw [u4] at f1
    by_cases c : f' = f ∧ d' = d
    · rw [c.1, c.2, q.2.2.1]; exact sv
    · rw [q.fri0 hl h6.2 hf3 hd f0 (by omega) (by omega) (by omega) (by omega)]
      exact (s _ (by omega)).trans (R2 f' d' f0 f1 d0 d1)
  · rw [q.cnt hl h6.2 hf3 hd s' s0 s1]
    by_cases c : s' = 12 + (f * 10 + d)
    · rw [if_pos c, c]; exact tv
    · rw [if_neg c, Int.sub_zero]
      exact (t _ (by omega)).trans (R3 s' s0 s1)
  · rw [u6] at i1
    by_cases c : i < l
    · rw [q.low hl h6.2 hf3 hd i0 c (by omega) (by omega), q.low hl h6.2 hf3 hd i0 c (by omega) (by omega), q.low hl h6.2 hf3 hd i0 c (by omega) (by omega), q.low hl h6.2 hf3 hd i0 c (by omega) (by omega)]
      have w := lo i.toNat (by omega)
      have v := R4 i i0 (by omega)
      exact ⟨w.1.trans v.1, w.2.1.trans v.2.1, w.2.2.trans v.2.2⟩
    · rw [q.high hl (by omega) i1 (by omega) (by omega), q.high hl (by omega) i1 (by omega) (by omega), q.high hl (by omega) i1 (by omega) (by omega), q.high hl (by omega) i1 (by omega) (by omega)]
      have w := hi i.toNat (by omega) (by omega)
      have v := R4 (i + 1) (by omega) (by omega)
      rw [show (i + 1).toNat = i.toNat + 1 by omega, if_neg (by omega)] at v
      rw [if_neg (by omega)]
      exact ⟨w.1.trans v.1, w.2.1.trans v.2.1, w.2.2.trans v.2.2⟩
end EW
section A11
variable {j : Nat} {G : GH} {K : GH → Prop} {L : Nat} {xs : Nat → Int32} {i4 : Int}
theorem arm_31 (h : Rel j G) (hK : ∀ G', Rel (j + 1) G' → K G') (hL : 0 ≤ i4 ∧ i4 + 5 ≤ L) : f_law_31 L xs i4 G K := by
  refine ⟨⟨by omega, by omega⟩, ?_⟩
  generalize (xs ((i4 + 1)).toNat).toInt = l
  have hW := h.wf
  have hR := h.rp
  have hlo := hW.lo
  have hfr := hW.fr
  have e38 : G 3 8 = G 273 6 := hR.lo
  unfold f_L_giveBack f_X9_giveBack
  rw [e38]
  refine ⟨⟨by omega, by omega⟩, c_within (c_needI (fun a => ?_) (fun a => ⟨rfl, ?_⟩))⟩
  · have hl : 0 ≤ l ∧ l < G 273 6 := by omega
    have ln := hW.ln l hl.1 hl.2
    have q : Ended (endW (G 273) l) (G 273) l (loanW (G 273) l 0) (loanW (G 273) l 1) (loanW (G 273) l 2) := endW_is rfl (by omega) rfl ln.2.1 rfl hl
    have ou := q.out6 hl hlo.2 (by omega) ln.2.1
    have oh : OutH (endW (G 273) l) (G 273) := fun k k0 k1 k2 k3 => ou k k0 k1 k3
    have fl : FLr (endW (G 273) l) 0 := q.flr hW.flr hl (by omega) (Or.inl rfl)
    have e8 : endW (G 273) l 8 = G 273 8 := ou 8 (by omega) (by omega) (by omega)
    have h8 := hW.he
    refine c_keep hW hR h.hi (fun G1 kc => ?_)
    have r1 := kc.rep1 h.hi hR
    refine RLo.ends r1.rl hW.flr hl hl.1 (fun s s0 s1 => cnt_rng hW ⟨s0, s1⟩) q (fun G2 o2 p2 rl => ?_)
    have r2 : RepS G2 1 (endW (G 273) l) := by
      refine oh.rep hW r1 (fun x x0 x1 x2 x3 => o2 x (by omega) (by omega) (by omega)) (fun k hk => by rw [o2 1 (by omega) (by omega) (by omega)]) (by rw [o2 1 (by omega) (by omega) (by omega), e8]; exact r1.he) (fun k hk => p2 k hk) rl.1 rl.2.2.1 (fun f f0 f1 => ⟨?_, fun d d0 d1 => rl.2.1 f d f0 f1 d0 d1⟩) (fun i i0 i1 => ?_)
      · have u4 : endW (G 273) l 4 = G 273 4 := ou 4 (by omega) (by omega) (by omega)
        rw [u4] at f1
        rw [q.fri0 hl hlo.2 (by omega) ln.2.1 f0 (by omega) (by omega) (by omega) (by omega), o2 _ (by omega) (by omega) (by omega)]
        exact (r1.fd f f0 f1).1
      · have w := rl.2.2.2 i i0 i1
        rw [if_neg (by omega), Int.add_zero] at w
        exact w
    refine c_fallen hW oh fl (r1.hs.congr (fun x x1 x2 => o2 x (by omega) (by omega) (by omega))) r2 (fun G3 o3 r3 G4 e4 => ?_)
    have m4 : G4 273 = G 273 := by rw [e4, up_na (by omega), o3 273 (by omega), o2 273 (by omega) (by omega) (by omega), kc.row h.hi (by omega)]
    have t4 : G4 272 = G 272 := by rw [e4, up_na (by omega), o3 272 (by omega), o2 272 (by omega) (by omega) (by omega), kc.row h.hi (by omega)]
    have mm : MV G4 (G 273) := ⟨m4, by rw [t4]; exact h.2.2.1⟩
    refine mv_noLoan mm hW (fun _ => z01 ?_) (fun c2 => absurd a c2)
    have wm : (upG G4 272 0 0) 273 = G 273 := by rw [up_na (by omega), m4]
    have g6 : (upG G4 272 0 0) 272 6 = G 272 6 := by rw [upG_nk (by omega), t4]
    refine m_keeps (by rw [g6]; exact h.hi.1) (fun G5 km => ?_)
    have w5 : G5 273 = G 273 := by rw [km.w, wm]
    have fdl := (hW.fd _ ln.1.1 ln.1.2).2 (loanW (G 273) l 1) ln.2.1.1 (by omega)
    have br := (hW.loan_rng (f := loanW (G 273) l 0) (d := loanW (G 273) l 1) hlo.1 (Int.le_refl _)).1
    have bb : borW (G 273) (loanW (G 273) l 0) (loanW (G 273) l 1) = sumZ (fun i => if loanW (G 273) i 0 = loanW (G 273) l 0 ∧ loanW (G 273) i 1 = loanW (G 273) l 1 then loanW (G 273) i 2 else 0) (G 273 6) := rfl
    refine m_ends2 (n := G 273 6) (f := loanW (G 273) l 0) (d := loanW (G 273) l 1) (m := loanW (G 273) l 2) (t := friW (G 273) (loanW (G 273) l 0) (1 + loanW (G 273) l 1)) hl hlo.2 (by rw [w5]) (by rw [w5]) (by omega) (by rw [w5]) ln.2.1 (by rw [w5]) (by rw [w5]) ⟨by omega, by omega⟩ (fun G6 o6 w6 => ?_)
    rw [w5] at w6
    have cb := fun s (s0 : 0 ≤ s) (s1 : s < 42) => fl.cnt hW (oh 3 (by omega) (by omega) (by omega) (by omega)) (fun k q0 q1 => oh k (by omega) (by omega) (by omega) (by omega)) s0 s1
    refine m_allFall (by rw [w6]; exact fl.loB) (fun p p0 p1 => ?_) (fun s s0 s1 => ?_) (fun G7 o7 f7 => ?_)
    · rw [w6]
      have e9 : plaW (endW (G 273) l) p 1 = plaW (G 273) p 1 := oh _ (by omega) (by omega) (by omega) (by omega)
      rw [e9]; exact (hW.pl p p0 p1).2.1
    · rw [w6]
      have := cb s s0 s1
      omega
    · rw [w6] at f7 ⊢
      refine tail_ok (K := K) ?_ (fun _ => ?_) (hK _ ?_)
      · rw [o7 272 (by omega), o6 272 (by omega), km.2.1 0 (by omega), upG_same]
      · rw [o7 285 (by omega), o6 285 (by omega), km.1 285 (by omega) (by omega), up_na (by omega), e4, upG_same]
      · refine h.acted kc (Gc := G3) (Gm0 := upG G4 272 0 0) (Gm := G5) (fun x q q1 => ?_) (fun k q => ?_) (fun x q => ?_) (fun k q => ?_) km (fun x q q1 => ?_) (fun k q => ?_) (fallen_wf hW (by omega) oh fl (by rw [e8]; omega) f7) (r3 _ f7)
        · rw [o3 x (by omega), o2 x (by omega) (by omega) (by omega)]
        · rw [o3 272 (by omega), o2 272 (by omega) (by omega) (by omega)]
        · rw [up_na (by unfold ownA at q; omega), e4, up_na (by unfold ownA at q; omega)]
        · rw [upG_nk (by unfold ownK at q; omega), e4, up_na (by omega)]
        · rw [o7 x q1, o6 x q1]
        · rw [o7 272 (by omega), o6 272 (by omega)]
  · have mm : MV G (G 273) := ⟨rfl, h.2.2.1⟩
    refine mv_noLoan mm hW (fun c2 => absurd c2 a) (fun _ => z10 (thrown_is h hK (by omega)))
end A11
