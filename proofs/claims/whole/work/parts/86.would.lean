-- ===== PURE LAYER: would, bestBuy =====
theorem c_countCards2 {G : GH} {h9 : Nat} {Q : Int → Prop} (hq : Q (sumZ (fun p => b2 (G (h9 + 2) p.toNat ≠ -1)) 54)) : f_X0_countCards h9 G Q := by
  unfold f_X0_countCards
  refine cnt_loop (fun p => G (h9 + 2) p.toNat ≠ -1) 54 ⟨by omega, by omega⟩ (fun k acc x h0 h1 ha he ht hf => ⟨fun c => ?_, fun c => ⟨⟨h0, c⟩, fun c1 => ?_, fun c1 => ⟨⟨by omega, by omega⟩, ht c c1⟩⟩⟩)
  · rw [he (by omega)]; exact hq
  · have := hf c (fun q => q c1); rw [Int.add_zero] at this; exact this
theorem hng_ah {W : WT} {tf s : Int} : ahW (hngW tf W s) = sumZ (fun p => b2 (ddV tf W s p ≠ -1)) 54 := sumZ_congr (fun p p0 p1 => by
  rw [hng_pla p0 p1 (by omega) (by omega), plV_0])
def woV (W : WT) (s w : Int) : Int := if w = 0 then rhV (-1) W s (allRW W) else if w = 1 then roV (-1) W s (allRW W) else if w = 2 then wkV (-1) W s else if w = 3 then ahW (hngW (-1) W s) else if w = 4 then tuW (hngW (-1) W s) else if w = 5 then baW (hngW (-1) W s) else boW (hngW (-1) W s)
theorem wo_cases {A0 A1 A2 A3 A4 A5 A6 : Prop} {w : Int} (hw : 0 ≤ w ∧ w ≤ 6) (h6 : w = 6 → A6) (h0 : w = 0 → A0) (h1 : w = 1 → A1) (h2 : w = 2 → A2) (h3 : w = 3 → A3) (h4 : w = 4 → A4) (h5 : w = 5 → A5) : ((w < 0 ∨ 5 < w) → A6) ∧ ((w = 0 → A0) ∧ ((w = 1 → A1) ∧ ((w = 2 → A2) ∧ ((w = 3 → A3) ∧ ((w = 4 → A4) ∧ (w = 5 → A5)))))) :=
  ⟨fun c => h6 (by omega), h0, h1, h2, h3, h4, h5⟩
section AW1
variable {j : Nat} {G : GH} {K : GH → Prop} {L : Nat} {xs : Nat → Int32} {i4 : Int}
theorem arm_18 (h : Rel j G) (hK : ∀ G', Rel (j + 1) G' → K G') (hj : j < 512) (hL : 0 ≤ i4 ∧ i4 + 5 ≤ L) : f_law_18 L xs i4 G K := by
  have hW := h.wf
  have hR := h.rp
  have bo := hW.bo
  have al := hW.allR
  refine ⟨⟨by omega, by omega⟩, ⟨by omega, by omega⟩, ?_⟩
  generalize (xs ((i4 + 1)).toNat).toInt = s
  generalize (xs ((i4 + 2)).toNat).toInt = w
  refine arm_q (L := fun Q => f_L_would s w G Q) (M := fun G1 Q => f_X10_would s w G1 Q) (if 0 ≤ s ∧ s < G 273 5 then (if 0 ≤ w ∧ w ≤ 6 then 0 else 2) else 1) (woV (G 273) s w) h hK (fun Q q0 q1 => ?_) (fun G1 Q e q => ?_)
  · refine c_needService hW hR (fun a => c_within (c_needA (fun b => ?_) (fun b => Or.inr ⟨rfl, ?_⟩))) (fun a => Or.inl ⟨rfl, ?_⟩)
    · rw [if_pos a, if_pos b] at q0
      have hW' : WF ((j : Int) + 1) (hngW (-1) (G 273) s) := hng_wf hW (Int.le_refl _) a
      refine c_think hW a (by omega) hR (fun G1 m qc ch => ?_)
      refine joinI1 (P := fun G3 => CQ G G3 ∧ (w < 4 → Chosen G3 218 (-1) (G 273) s m) ∧ (4 ≤ w → HangS G3 218 (hngW (-1) (G 273) s))) (fun G3 hP => ?_) (fun jj hj => ⟨fun c => hj G1 ⟨qc, fun _ => ch, fun c2 => by omega⟩, fun c => c_chooseCards hW a (qc.rep hR) ch (fun G4 o4 f4 => hj G4 ⟨fun x hx => by rw [o4 x (by omega) (by omega)]; exact qc x hx, fun c2 => by omega, fun _ => plan_hs hW (ch.2.1.congr (o4 _ (by omega) (by omega)) (o4 _ (by omega) (by omega))) f4⟩)⟩)
      obtain ⟨q3, l3, h3⟩ := hP
      refine wo_cases b (fun c => c_countBorrowed hW' (h3 (by omega)) (fun G5 e5 => ?_)) (fun c G5 e5 => ?_) (fun c G5 e5 => ?_) (fun c => c_workTo (fun G5 e5 => ?_)) (fun c => c_countCards2 (fun G5 e5 => ?_)) (fun c => c_countTurned hW' (h3 (by omega)) (fun G5 e5 => ?_)) (fun c => c_countBacks hW' (h3 (by omega)) (fun G5 e5 => ?_))
      · have ev : woV (G 273) s w = boW (hngW (-1) (G 273) s) := by rw [c]; rfl
        rw [e5, ← ev]; exact q0 rfl G3 q3
      · have ev : woV (G 273) s w = rhV (-1) (G 273) s (allRW (G 273)) := by rw [c]; rfl
        rw [e5, (l3 (by omega)).1.1, ← ev]; exact q0 rfl G3 q3
      · have ev : woV (G 273) s w = roV (-1) (G 273) s (allRW (G 273)) := by rw [c]; rfl
        rw [e5, (l3 (by omega)).1.2.1, ← ev]; exact q0 rfl G3 q3
      · have ev : woV (G 273) s w = wkV (-1) (G 273) s := by rw [c]; rfl
        rw [e5, work_is hW (q3.rep hR).hs (l3 (by omega)).2.1, ← ev]; exact q0 rfl G3 q3
      · have ev : woV (G 273) s w = ahW (hngW (-1) (G 273) s) := by rw [c]; rfl
        rw [e5, pd_sum hW (l3 (by omega)).2.1 (fun x => b2 (x ≠ -1)) (b2_f (fun z => z rfl)), ← hng_ah, ← ev]; exact q0 rfl G3 q3
      · have ev : woV (G 273) s w = tuW (hngW (-1) (G 273) s) := by rw [c]; rfl
        rw [e5, ← ev]; exact q0 rfl G3 q3
      · have ev : woV (G 273) s w = baW (hngW (-1) (G 273) s) := by rw [c]; rfl
        rw [e5, ← ev]; exact q0 rfl G3 q3
    · rw [if_pos a, if_neg b] at q1
      exact q1 (by omega)
    · rw [if_neg a] at q1
      exact q1 (by omega)
  · have m0 : MV G1 (G 273) := ⟨e 273 (by omega) (by omega), by rw [e 272 (by omega) (by omega)]; exact h.2.2.1⟩
    refine mv_noService m0 hW (fun a => z01' (p10_in (p10_th (fun b => z01 ?_) (fun b => z10 ?_)))) (fun a => z10' ?_)
    · have a' : 0 ≤ s ∧ s < G 273 5 := by omega
      rw [if_pos a', if_pos b] at q
      refine m_tries (n := (j : Int)) (tf := -1) (W := G 273) (by omega) hW a' (by omega) (m0.th (t := 0)).2 (m0.th (t := 0)).1 (fun G3 o3 q3 f3 w3 a3 => ?_)
      have fin : ∀ v, v = woV (G 273) s w → f_X10_comesBack v G3 (fun r_6 G_4 => Q r_6 G_4) := fun v ev => m_back (W := G 273) w3 (fun k hk => hng_high hk) a3 (fun G' o' w' => by
        rw [ev]
        refine q G' ⟨fun x x0 x1 x2 => ?_, fun k hk => ?_⟩
        · by_cases c : x = 273
          · rw [c, w']; exact (m0.th (t := 0)).1.symm
          · rw [o' x c, o3 x x0 c x1 x2]
        · rw [o' 272 (by omega), q3 k hk])
      refine wo_cases b (fun c => p10_borrowedOnes ?_) (fun c => ?_) (fun c => ?_) (fun c => ?_) (fun c => p10_allHanging ?_) (fun c => p10_turnedOnes ?_) (fun c => p10_backs ?_)
      · rw [w3]; exact fin _ (by rw [c]; rfl)
      · exact fin _ (by rw [f3.1, c]; rfl)
      · exact fin _ (by rw [f3.2.1, c]; rfl)
      · exact fin _ (by rw [f3.2.2.2, c]; rfl)
      · rw [w3]; exact fin _ (by rw [c]; rfl)
      · rw [w3]; exact fin _ (by rw [c]; rfl)
      · rw [w3]; exact fin _ (by rw [c]; rfl)
    · have a' : 0 ≤ s ∧ s < G 273 5 := by omega
      rw [if_pos a', if_neg b] at q
      rw [up_up]
      exact q _ RQ.rfl'
    · have a' : ¬ (0 ≤ s ∧ s < G 273 5) := by omega
      rw [if_neg a'] at q
      exact q _ RQ.rfl'
-- bestBuy
def bbN (W : WT) (s : Int) : Nat → Int × Int
  | 0 => (-1, rhV (-1) W s (allRW W))
  | k + 1 => if (bbN W s k).2 < rhV (k : Int) W s (allRW W) then ((k : Int), rhV (k : Int) W s (allRW W)) else bbN W s k
theorem bbN_s {W : WT} {s x : Int} (h : 0 ≤ x) : bbN W s (x + 1).toNat = if (bbN W s x.toNat).2 < rhV x W s (allRW W) then (x, rhV x W s (allRW W)) else bbN W s x.toNat := by
  have e : bbN W s (x.toNat + 1) = if (bbN W s x.toNat).2 < rhV ((x.toNat : Nat) : Int) W s (allRW W) then (((x.toNat : Nat) : Int), rhV ((x.toNat : Nat) : Int) W s (allRW W)) else bbN W s x.toNat := rfl
  rw [show (x + 1).toNat = x.toNat + 1 by omega, e, show ((x.toNat : Nat) : Int) = x by omega]
theorem m_rowsWith {G : GH} {W : WT} {n s d : Int} {Q : Int → GH → Prop} (hn : n ≤ 1000) (hW : WF n W) (hs : 0 ≤ s ∧ s < W 5) (hd : -1 ≤ d ∧ d ≤ 9) (m : MV G W) (h : ∀ G' : GH, RQ G G' → Q (rhV d W s (allRW W)) G') : f_X10_rowsWith s d G Q := by
  intro G1 e1
  have w1 : G1 273 = W := by rw [e1, up_na (by omega)]; exact m.1
  have t1 : G1 272 17 = d := by rw [e1, upG_same]
  refine m_tryBack hn hW hs hd t1 w1 (fun G3 => G3 272 22) (fun G3 G' f3 q3 f4 G4 e4 => ?_)
  rw [f3.1]
  refine h G4 ⟨fun x x0 x1 x2 => by rw [e4, up_na x0, q3.1 x x0 x1 x2, e1, up_na x0], fun k hk => ?_⟩
  by_cases c : k = 17
  · rw [c, e4, upG_same]; exact m.2.symm
  · rw [e4, upG_nk c, q3.2 k hk, e1, upG_nk c]
theorem arm_21 (h : Rel j G) (hK : ∀ G', Rel (j + 1) G' → K G') (hj : j < 512) (hL : 0 ≤ i4 ∧ i4 + 5 ≤ L) : f_law_21 L xs i4 G K := by
  have hW := h.wf
  have hR := h.rp
  refine ⟨⟨by omega, by omega⟩, ?_⟩
  generalize (xs ((i4 + 1)).toNat).toInt = s
  refine arm_q (L := fun Q => f_L_bestBuy s G Q) (M := fun G1 Q => f_X10_bestBuy s G1 Q) (if 0 ≤ s ∧ s < G 273 5 then 0 else 1) (bbN (G 273) s 10).1 h hK (fun Q q0 q1 => ?_) (fun G1 Q e q => ?_)
  · refine c_needService hW hR (fun a => ?_) (fun a => ⟨rfl, ?_⟩)
    · rw [if_pos a] at q0
      refine c_think hW a (by omega) hR (fun G1 m qc ch => ?_)
      refine loopI4 (I := fun x2 x3 x4 G2 => (0 ≤ x4 ∧ x4 ≤ 10) ∧ CQ G G2 ∧ (x3, x2) = bbN (G 273) s x4.toNat) (μ := fun _ _ x4 _ => (10 - x4).toNat) (fun k x2 x3 x4 G2 hI ih => ?_) _ (-1) 0 G1 ⟨by omega, qc, by rw [ch.1.1]; rfl⟩
      obtain ⟨hx, q2, he⟩ := hI
      have es := bbN_s (W := G 273) (s := s) hx.1
      rw [← he] at es
      refine ⟨fun c G3 e3 => ?_, fun c => c_think hW a (by omega) (q2.rep hR) (fun G3 m3 q3 ch3 => ?_)⟩
      · have e10 : x4 = 10 := by omega
        rw [e10] at he
        have e9 : bbN (G 273) s 10 = (x3, x2) := he.symm
        rw [e9] at q0
        rw [e3]; exact q0 rfl G2 q2
      · rw [ch3.1.1]
        refine ⟨fun c2 => ih _ _ _ _ ⟨by omega, q2.trans q3, ?_⟩ (by omega), fun c2 => ih _ _ _ _ ⟨by omega, q2.trans q3, ?_⟩ (by omega)⟩
        · rw [es, if_neg (by omega)]
        · rw [es, if_pos c2]
    · rw [if_neg a] at q1
      exact q1 (by omega)
  · have m0 : MV G1 (G 273) := ⟨e 273 (by omega) (by omega), by rw [e 272 (by omega) (by omega)]; exact h.2.2.1⟩
    refine mv_noService m0 hW (fun a => z01 ?_) (fun a => z10 ?_)
    · have a' : 0 ≤ s ∧ s < G 273 5 := by omega
      rw [if_pos a'] at q
      have m1 : MV (upG G1 272 0 0) (G 273) := m0.th
      generalize upG G1 272 0 0 = G2 at q m1 ⊢
      have mv : ∀ G3, RQ G2 G3 → MV G3 (G 273) := fun G3 q3 => ⟨by rw [q3.1 273 (by omega) (by omega) (by omega)]; exact m1.1, by rw [q3.2 17 (by omega)]; exact m1.2⟩
      refine m_rowsWith (n := (j : Int)) (by omega) hW a' (by omega) m1 (fun G3 q3 => ?_)
      refine loopI4 (I := fun x2 x3 x4 G4 => (0 ≤ x4 ∧ x4 ≤ 10) ∧ RQ G2 G4 ∧ (x2, x3) = bbN (G 273) s x4.toNat) (μ := fun _ _ x4 _ => (10 - x4).toNat) (fun k x2 x3 x4 G4 hI ih => ?_) (-1) _ 0 G3 ⟨by omega, q3, rfl⟩
      obtain ⟨hx, q4, he⟩ := hI
      have es := bbN_s (W := G 273) (s := s) hx.1
      rw [← he] at es
      refine ⟨fun c => ?_, fun c => m_rowsWith (n := (j : Int)) (by omega) hW a' (by omega) (mv G4 q4) (fun G5 q5 => ⟨fun c2 => ih _ _ _ _ ⟨by omega, q4.trans q5, ?_⟩ (by omega), fun c2 => ih _ _ _ _ ⟨by omega, q4.trans q5, ?_⟩ (by omega)⟩)⟩
      · have e10 : x4 = 10 := by omega
        rw [e10] at he
        have e9 : bbN (G 273) s 10 = (x2, x3) := he.symm
        rw [e9] at q
        exact q G4 q4
      · rw [es, if_pos c2]
      · rw [es, if_neg (by omega)]
    · have a' : ¬ (0 ≤ s ∧ s < G 273 5) := by omega
      rw [if_neg a'] at q
      exact q _ RQ.rfl'
end AW1
