-- ===== PURE LAYER: canShow, missing =====
theorem lackV_congr {S S' : Int} {D D' : Int → Nat} {L L' n : Int → Int} (h : ∀ X : Nat, can S D L X = can S' D' L' X) : lackV S D L n = lackV S' D' L' n := by
  have e : (fun X : Int => need n X.toNat - can S D L X.toNat) = (fun X : Int => need n X.toNat - can S' D' L' X.toNat) := funext fun X => by rw [h]
  unfold lackV
  rw [e]
def cFr (W : WT) (s : Int) : Int := cntW (-1) W s - hgW W s
section CS
variable {W : WT} {j : Int} {G : GH}
theorem cFr_rng (hW : WF j W) {s : Int} (s0 : 0 ≤ s) (s1 : s < 43) : 0 ≤ cFr W s ∧ cFr W s ≤ 720 := by
  unfold cFr
  have r := rankW_rng (W := W) (s := s) (P := 54) (by omega)
  have e : hgW W s = rankW W s 54 := rfl
  by_cases c : s = 42
  · have z : hgW W s = 0 := sumN_zero 54 (fun p p0 p1 => b2_f (by
      have := (hW.pl p p0 (by omega)).2.1
      omega))
    have z2 : cntW (-1) W s = 0 := by
      unfold cntW
      rw [if_pos c, if_pos rfl]
    omega
  · have a := hW.hc s s0 (by omega)
    have b := cnt_rng hW (s := s) ⟨s0, by omega⟩
    omega
theorem c_offerFree {Q : GH → Prop} (hW : WF j W) (hR : RepS G 1 W) (h : ∀ (G' : GH) (m : Int), (∀ y, ¬ (209 ≤ y ∧ y ≤ 214) → G' y = G y) → OfI G' m (shW (-1) W) (cFr W) 42 → Q G') : f_X4_offerFree 3 15 G Q := by
  unfold f_X4_offerFree
  intro G1 e1 G2 e2
  refine up_loop (fun x G3 => ∃ m : Int, (∀ y, ¬ (209 ≤ y ∧ y ≤ 214) → G3 y = G y) ∧ OfI G3 m (shW (-1) W) (cFr W) x) 0 42 (by omega) ⟨0, fun y hy => by rw [e2, flG_na (by omega), e1, up_na (by omega)], ⟨by rw [e2, flG_na (by omega), e1, upG_same], by omega, fun o o0 o1 => by omega, fun o o' o0 oo o1 => by omega, fun s s0 s1 => by omega, fun g => rfl, fun k hk => by rw [e2, flG_at hk]⟩⟩ (fun k x G3 x0 x1 hI kk => ?_)
  obtain ⟨m, o3, q3⟩ := hI
  have r3 : RepS G3 1 W := hR.congr (fun y y0 y1 => o3 y (by omega))
  refine ⟨fun c => ?_, fun c => ⟨⟨x0, c⟩, ?_⟩⟩
  · rw [show x = 42 by omega] at q3
    exact h G3 m o3 q3
  · have e6 : G3 6 x.toNat = cntW (-1) W x := r3.ct x x0 c
    have e20 : G3 20 x.toNat = hgW W x := r3.hg x x0 c
    have cf := cFr_rng hW (s := x) x0 (by omega)
    have ef : cntW (-1) W x - hgW W x = cFr W x := rfl
    have r := rankW_rng (W := W) (s := x) (P := 54) (by omega)
    have eh : hgW W x = rankW W x 54 := rfl
    show (G3 6 x.toNat ≤ 0 → _) ∧ (0 < G3 6 x.toNat → f_X8_digitsOf 3 x G3 (fun r => inR (G3 6 x.toNat - G3 20 x.toNat) ∧ f_X2_offer x r (G3 6 x.toNat - G3 20 x.toNat) G3 (fun G4 => k (x + 1) G4)))
    rw [e6, e20, ef]
    refine ⟨fun c2 => kk G3 c ⟨m, o3, q3.skip x0 (by omega)⟩, fun c2 => ?_⟩
    have hi : isSort W x := Classical.byContradiction fun q => by rw [cnt_none ⟨x0, c⟩ q] at c2; omega
    refine c_digitsOf (a := 1) hW r3 hi ⟨⟨by omega, by omega⟩, ?_⟩
    exact c_offer (i1 := x) (dx := ((shW (-1) W x : Nat) : Int)) (Q := fun G4 => k (x + 1) G4) q3 ⟨x0, by omega⟩ (if_neg (by omega)) rfl (fun G4 m' o4 p4 q4 => kk G4 c ⟨m', fun y hy => by rw [o4 y (by omega)]; exact o3 y hy, q4⟩)
end CS
section AC
variable {j : Nat} {G : GH} {K : GH → Prop} {L : Nat} {xs : Nat → Int32} {i4 : Int}
-- missing
theorem Mat.congr5 {G G' : GH} {m : Int} {D : Int → Nat} {L n : Int → Int} (M : Mat G m D L n) (o : ∀ x, ¬ (215 ≤ x ∧ x ≤ 217) → G' x = G x) : Mat G' m D L n := M.congrG (fun y _ y1 => o y (by omega))
def nT (W : WT) (s : Int) : Nat → (Int → Int)
  | 0 => fun _ => 0
  | r + 1 => plusH (nT W s r) (dueW W s (r : Int)) 1
theorem nT_s {W : WT} {s r : Int} (h : 0 ≤ r) : nT W s (r + 1).toNat = plusH (nT W s r.toNat) (dueW W s r) 1 := by
  have e : nT W s (r.toNat + 1) = plusH (nT W s r.toNat) (dueW W s ((r.toNat : Nat) : Int)) 1 := rfl
  rw [show (r + 1).toNat = r.toNat + 1 by omega, e, show ((r.toNat : Nat) : Int) = r by omega]
theorem nT_b {W : WT} {s d : Int} : ∀ r : Nat, 0 ≤ nT W s r d ∧ nT W s r d ≤ 3 * (r : Int)
  | 0 => ⟨Int.le_refl _, Int.le_refl _⟩
  | r + 1 => by
    have ih := nT_b (W := W) (s := s) (d := d) r
    have c := cntd_3 (h := dueW W s (r : Int)) (e := d)
    show 0 ≤ nT W s r d + 1 * cntd (dueW W s (r : Int)) d ∧ nT W s r d + 1 * cntd (dueW W s (r : Int)) d ≤ 3 * ((r + 1 : Nat) : Int)
    omega
/-- what is matched, what is wanted, a tight set that has all that is missing -/
def MI (G : GH) (m : Int) (D : Int → Nat) (L N : Int → Int) (miss : Int) : Prop := ∃ (n' : Int → Int) (T : Nat), Mat G m D L n' ∧ T < 1024 ∧ tight m D L n' T ∧ (∀ d, 0 ≤ d → d < 10 → n' d ≤ N d ∧ (¬ inS T d → n' d = N d)) ∧ miss = sumZ (fun d => N d - n' d) 10
section MIS
variable {G : GH} {m miss d : Int} {D : Int → Nat} {L N : Int → Int}
theorem MI.step {Q : Int → GH → Prop} (I : MI G m D L N miss) (hd : 0 ≤ d ∧ d < 10) (h1 : ∀ G' : GH, (∀ x, ¬ (213 ≤ x ∧ x ≤ 217) → G' x = G x) → MI G' m D L (bump N d 1) miss → Q 1 G') (h0 : ∀ G' : GH, (∀ x, ¬ (213 ≤ x ∧ x ≤ 217) → G' x = G x) → MI G' m D L (bump N d 1) (miss + 1) → Q 0 G') : f_X2_addDigit d G Q := by
  obtain ⟨n', T, M, hT, tT, hn, hm⟩ := I
  refine c_addDigit M hd (fun G' o M' => h1 G' o ?_) (fun G' o t => h0 G' (fun x hx => o x (by omega)) ?_)
  · have dT : ¬ inS T d := fun w => hall_no hd hT tT w M'.hl
    refine ⟨bump n' d 1, T, M', hT, ?_, fun e e0 e1 => ?_, ?_⟩
    · unfold tight at tT ⊢
      rw [need_bump hd, if_neg dT, tT]; omega
    · have z := hn e e0 e1
      by_cases q : e = d
      · rw [q] at z ⊢
        rw [bump_eq, bump_eq]
        exact ⟨by omega, fun w => by have := z.2 w; omega⟩
      · rw [bump_ne q, bump_ne q]; exact z
    · rw [hm]
      refine sumZ_congr (fun e e0 e1 => ?_)
      by_cases q : e = d
      · rw [q, bump_eq, bump_eq]; omega
      · rw [bump_ne q, bump_ne q]
  · obtain ⟨R, R1, R2, R3⟩ := t
    have M' : Mat G' m D L n' := M.congr5 o
    refine ⟨n', T ||| R, M', or_lt hT R1, tight_or (fun o o0 o1 => (M.2.2.1 o o0 o1).2.2.2.1) (fun o o0 o1 => (M.2.2.1 o o0 o1).2.1) M.hl hT R1 tT R3, fun e e0 e1 => ?_, ?_⟩
    · have z := hn e e0 e1
      by_cases q : e = d
      · rw [q] at z ⊢
        rw [bump_eq]
        exact ⟨by omega, fun w => absurd (inS_or.mpr (Or.inr R2)) w⟩
      · rw [bump_ne q]
        exact ⟨z.1, fun w => z.2 (fun w2 => w (inS_or.mpr (Or.inl w2)))⟩
    · rw [sumZ_one (f := fun e => bump N d 1 e - n' e) (g := fun e => N e - n' e) hd.1 hd.2 (fun e e0 e1 q => by
        show bump N d 1 e - n' e = N e - n' e
        rw [bump_ne q]), ← hm]
      show miss + 1 = miss + ((bump N d 1 d - n' d) - (N d - n' d))
      rw [bump_eq]; omega
theorem MI.is (I : MI G m D L N miss) : lackV m D L N = miss := by
  obtain ⟨n', T, M, hT, tT, hn, hm⟩ := I
  have m0 : 0 ≤ miss := by
    rw [hm]
    exact sumZ_ge (fun e e0 e1 => by have := (hn e e0 e1).1; omega)
  have up : ∀ X : Nat, X < 1024 → need N X - can m D L X ≤ miss := fun X hX => by
    have k := M.hl X hX
    have s : need N X ≤ need n' X + miss := by
      rw [hm]
      unfold need
      rw [← sumZ_add]
      refine sumZ_mono (fun e e0 e1 => ?_)
      have := (hn e e0 e1).1
      show (if inS X e then N e else 0) ≤ (if inS X e then n' e else 0) + (N e - n' e)
      by_cases c : inS X e
      · rw [if_pos c, if_pos c]; omega
      · rw [if_neg c, if_neg c]; omega
    omega
  have at' : need N T - can m D L T = miss := by
    have s : need N T = need n' T + miss := by
      rw [hm]
      unfold need
      rw [← sumZ_add]
      refine sumZ_congr (fun e e0 e1 => ?_)
      have z := (hn e e0 e1).2
      show (if inS T e then N e else 0) = (if inS T e then n' e else 0) + (N e - n' e)
      by_cases c : inS T e
      · rw [if_pos c, if_pos c]; omega
      · rw [if_neg c, if_neg c, z c]; omega
    unfold tight at tT
    omega
  have k1 : lackV m D L N ≤ miss := maxN_le m0 1024 (fun i hi => by
    show need N (i : Int).toNat - can m D L (i : Int).toNat ≤ miss
    rw [Int.toNat_natCast]
    exact up i hi)
  have k2 := maxN_up (f := fun X => need N X.toNat - can m D L X.toNat) 1024 T hT
  have k3 : need N (T : Int).toNat - can m D L (T : Int).toNat ≤ lackV m D L N := k2
  rw [Int.toNat_natCast] at k3
  omega
end MIS
theorem due_neg {W : WT} {s r : Int} {n : Int → Int} (h : dueW W s r = -1) : plusH n (dueW W s r) 1 = n := by
  funext e
  unfold plusH
  rw [h, cntd_0 (by omega)]; omega
theorem c_countMissing {W0 : WT} {Q : Int → GH → Prop} {s n : Int} (hW : WF n W0) (hs : 0 ≤ s ∧ s < W0 5) (hR : RepS G 1 W0) (h : ∀ G' : GH, CQ G G' → Q (lackV 43 (shW (-1) W0) (cntW (-1) W0) (nT W0 s (allRW W0).toNat)) G') : f_X4_countMissing 1 s G Q := by
  have bo := hW.bo
  have al := hW.allR
  have lb := cnt43 (tf := -1) hW (by omega)
  have hz : ∀ x, 0 ≤ x → x < 43 → cntW (-1) W0 x ≤ 0 → cntW (-1) W0 x = 0 := fun x x0 x1 w => by
    have := lb x x0 x1
    omega
  unfold f_X4_countMissing
  refine c_offerAll (tf := -1) hW hR (fun G1 m o1 q1 => ?_)
  have q43 := q1.skip (x := 42) (by omega) (by
    unfold cntW
    rw [if_pos rfl, if_pos rfl]; exact Int.le_refl _)
  have lk := q43.lk
  have M := q43.mat (fun _ _ _ => shW_lt) (fun x x0 x1 => (lb x x0 x1).2)
  have I0 : MI G1 m (fun o => shW (-1) W0 (sgm G1 o)) (fun o => cntW (-1) W0 (sgm G1 o)) (nT W0 s (frstW W0 0).toNat) 0 := by
    refine ⟨fun _ => 0, 0, M, by omega, ?_, fun d d0 d1 => ⟨Int.le_refl _, fun _ => rfl⟩, ?_⟩
    · have e1 : need (fun _ => 0) 0 = 0 := sumZ_zero (fun i _ _ => if_neg inS_0)
      have e2 : can m (fun o => shW (-1) W0 (sgm G1 o)) (fun o => cntW (-1) W0 (sgm G1 o)) 0 = 0 := sumZ_zero (fun i i0 i1 => if_neg (fun w => w (Nat.and_zero _)))
      unfold tight
      rw [e1, e2]
    · rfl
  have rep : ∀ G2 : GH, (∀ y, ¬ (213 ≤ y ∧ y ≤ 217) → G2 y = G1 y) → RepS G2 1 W0 := fun G2 o2 => hR.congr (fun x x0 x1 => by rw [o2 x (by omega), o1 x (by omega)])
  -- how many can be missing
  have mb : ∀ (G2 : GH) (N : Int → Int) (x : Int), MI G2 m (fun o => shW (-1) W0 (sgm G1 o)) (fun o => cntW (-1) W0 (sgm G1 o)) N x → (∀ d, 0 ≤ d → d < 10 → N d ≤ 1000) → -1 ≤ x ∧ x ≤ 100000 := fun G2 N x I nb => by
    obtain ⟨n', T, M2, _, _, hn, hm⟩ := I
    have a := sumZ_ge (f := fun d => N d - n' d) (x := 10) (fun e e0 e1 => by have := (hn e e0 e1).1; omega)
    have b := sumZ_le (f := fun d => N d - n' d) (c := 1000) (x := 10) (by omega) (fun e e0 e1 => by
      have := nb e e0 e1
      have := M2.nn e0 e1
      show N e - n' e ≤ 1000
      omega)
    omega
  refine loopI3 (I := fun x3 x4 G2 => (0 ≤ x4 ∧ x4 ≤ W0 0) ∧ (∀ y, ¬ (213 ≤ y ∧ y ≤ 217) → G2 y = G1 y) ∧ MI G2 m (fun o => shW (-1) W0 (sgm G1 o)) (fun o => cntW (-1) W0 (sgm G1 o)) (nT W0 s (frstW W0 x4).toNat) x3) (μ := fun _ x4 _ => (W0 0 - x4).toNat) (fun k1 x3 x4 G2 hI ih => ?_) 0 0 G1 ⟨by omega, fun _ _ => rfl, I0⟩
  obtain ⟨hx, o2, I2⟩ := hI
  have e10 : G2 1 0 = W0 0 := (rep G2 o2).bo
  rw [e10]
  refine ⟨fun c => ?_, fun c => ?_⟩
  · have ex : x4 = W0 0 := by omega
    rw [ex] at I2
    have v := I2.is
    rw [lackV_congr (fun X => lk.canE (L := cntW (-1) W0) hz)] at v
    have q := h G2 (fun x hx => by rw [o2 x (by omega), o1 x (by omega)])
    have ea : allRW W0 = frstW W0 (W0 0) := rfl
    rw [ea, v] at q
    exact q
  · have rb := hW.ro x4 hx.1 c
    have fr := hW.frst hx.1 (by omega)
    have fs := frst_s (W := W0) hx.1
    have fr1 := hW.frst (b := x4 + 1) (by omega) (by omega)
    refine loopI3 (I := fun x3' x5 G3 => (0 ≤ x5 ∧ x5 ≤ rowW W0 x4) ∧ (∀ y, ¬ (213 ≤ y ∧ y ≤ 217) → G3 y = G1 y) ∧ MI G3 m (fun o => shW (-1) W0 (sgm G1 o)) (fun o => cntW (-1) W0 (sgm G1 o)) (nT W0 s (frstW W0 x4 + x5).toNat) x3') (μ := fun _ x5 _ => (rowW W0 x4 - x5).toNat) (fun k2 x3' x5 G3 hI3 ih3 => ?_) x3 0 G2 ⟨by omega, o2, by rw [Int.add_zero]; exact I2⟩
    obtain ⟨hx5, o3, I3⟩ := hI3
    have r3 := rep G3 o3
    have g2 : G3 2 x4.toNat = rowW W0 x4 := r3.ro x4 hx.1 c
    show (0 ≤ x4 ∧ x4 < 3) ∧ ((G3 2 x4.toNat ≤ x5 → _) ∧ (x5 < G3 2 x4.toNat → _))
    rw [g2]
    refine ⟨⟨hx.1, by omega⟩, fun c5 => ih _ _ _ ⟨by omega, o3, ?_⟩ (by omega), fun c5 => ?_⟩
    · have ex5 : x5 = rowW W0 x4 := by omega
      rw [fs, ← ex5]; exact I3
    · have dr := due_rng hW hs (r := frstW W0 x4 + x5) ⟨by omega, by omega⟩
      have ns := nT_s (W := W0) (s := s) (r := frstW W0 x4 + x5) (by omega)
      refine c_hymnFor hW r3 hs ⟨hx.1, c⟩ ⟨hx5.1, c5⟩ ?_
      refine loopI3 (I := fun x3'' r G4 => ((0 ≤ r ∧ r ≤ 999) ∨ (r = -1 ∧ dueW W0 s (frstW W0 x4 + x5) = -1)) ∧ (∀ y, ¬ (213 ≤ y ∧ y ≤ 217) → G4 y = G1 y) ∧ (∀ e, cntd r e ≤ cntd (dueW W0 s (frstW W0 x4 + x5)) e) ∧ MI G4 m (fun o => shW (-1) W0 (sgm G1 o)) (fun o => cntW (-1) W0 (sgm G1 o)) (fun e => nT W0 s (frstW W0 x4 + x5).toNat e + (cntd (dueW W0 s (frstW W0 x4 + x5)) e - cntd r e)) x3'') (μ := fun _ r _ => r.toNat) (fun k3 x3'' r G4 hI4 ih4 => ?_) x3' _ G3 ⟨?_, o3, fun _ => Int.le_refl _, ?_⟩
      · obtain ⟨hr, o4, hle, I4⟩ := hI4
        refine ⟨fun c6 => ih3 _ _ _ ⟨by omega, o4, ?_⟩ (by omega), fun c6 => ⟨by omega, ?_⟩⟩
        · rw [show frstW W0 x4 + (x5 + 1) = frstW W0 x4 + x5 + 1 by omega, ns]
          have e2 : (fun e => nT W0 s (frstW W0 x4 + x5).toNat e + (cntd (dueW W0 s (frstW W0 x4 + x5)) e - cntd r e)) = plusH (nT W0 s (frstW W0 x4 + x5).toNat) (dueW W0 s (frstW W0 x4 + x5)) 1 := by
            funext e
            unfold plusH
            rw [cntd_0 (h := r) (by omega), Int.one_mul]; omega
          rw [e2] at I4; exact I4
        · have hr2 : r ≤ 999 := by omega
          have cs := fun e => cntd_s (e := e) c6 hr2
          have e2 : bump (fun e => nT W0 s (frstW W0 x4 + x5).toNat e + (cntd (dueW W0 s (frstW W0 x4 + x5)) e - cntd r e)) (r % 10) 1 = (fun e => nT W0 s (frstW W0 x4 + x5).toNat e + (cntd (dueW W0 s (frstW W0 x4 + x5)) e - cntd (r / 10) e)) := by
            funext e
            unfold bump
            dsimp only
            have a := cs e
            by_cases q : e = r % 10
            · rw [b2_t q.symm] at a
              rw [if_pos q]; omega
            · rw [b2_f (fun w => q w.symm)] at a
              rw [if_neg q]; omega
          have hle2 : ∀ e, cntd (r / 10) e ≤ cntd (dueW W0 s (frstW W0 x4 + x5)) e := fun e => by
            have a := cs e
            have b := b2_ge (p := r % 10 = e)
            have := hle e
            omega
          have bnd := mb G4 _ _ I4 (fun d d0 d1 => by
            have a := nT_b (W := W0) (s := s) (d := d) (frstW W0 x4 + x5).toNat
            have b := cntd_3 (h := dueW W0 s (frstW W0 x4 + x5)) (e := d)
            have c := cntd_ge (h := r) (e := d)
            show nT W0 s (frstW W0 x4 + x5).toNat d + (cntd (dueW W0 s (frstW W0 x4 + x5)) d - cntd r d) ≤ 1000
            omega)
          refine I4.step (by omega) (fun G5 o5 I5 => ?_) (fun G5 o5 I5 => ?_)
          · rw [e2] at I5
            exact joinI1 (P := fun v => v = x3'') (fun v hv => by rw [hv]; exact ih4 _ _ _ ⟨Or.inl (by omega), fun y hy => by rw [o5 y hy]; exact o4 y hy, hle2, I5⟩ (by omega)) (fun jj hj => ⟨fun _ => hj _ rfl, fun w => by omega⟩)
          · rw [e2] at I5
            exact joinI1 (P := fun v => v = x3'' + 1) (fun v hv => by rw [hv]; exact ih4 _ _ _ ⟨Or.inl (by omega), fun y hy => by rw [o5 y hy]; exact o4 y hy, hle2, I5⟩ (by omega)) (fun jj hj => ⟨fun w => absurd rfl w, fun _ => ⟨⟨by omega, by omega⟩, hj _ rfl⟩⟩)
      · rcases dr with w | w
        · exact Or.inr ⟨w, w⟩
        · exact Or.inl (by omega)
      · have e2 : (fun e => nT W0 s (frstW W0 x4 + x5).toNat e + (cntd (dueW W0 s (frstW W0 x4 + x5)) e - cntd (dueW W0 s (frstW W0 x4 + x5)) e)) = nT W0 s (frstW W0 x4 + x5).toNat := by
          funext e
          omega
        rw [e2]; exact I3
end AC
