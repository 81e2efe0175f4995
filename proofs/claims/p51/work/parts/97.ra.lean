-- ===== p51, PURE LAYER: what would be: what the class answers =====
def tuF (W : WT) : UInt32 := if ahW W = 0 then FP.fconst0 else FP.fdiv (FP.i2f (zI (tuW W))) (FP.i2f (zI (ahW W)))
section RA
variable {j : Int} {G : GH} {W : WT} {s : Int} {Q : Int → GH → Prop} {X : String → GH → Prop}
theorem e_would {w : Int} (hW : WF j W) (hR : RepS G 1 W) (hs : 0 ≤ s ∧ s < W 5) (hw : 0 ≤ w ∧ w ≤ 6) (h : ∀ G2, CQ G G2 → Q (woV W s w) G2) : f_X9_would s w G Q X := by
  have hW' : WF (j + 1) (hngW (-1) W s) := hng_wf hW (Int.le_refl _) hs
  unfold f_X9_would
  refine c_needService hW hR (fun a => c_within (c_needA (fun b => ?_) (fun b => absurd hw b))) (fun a => absurd hs a)
  refine c_think hW a (by omega) hR (fun G1 m qc ch => ?_)
  refine joinI1 (P := fun G3 => CQ G G3 ∧ (w < 4 → Chosen G3 218 (-1) W s m) ∧ (4 ≤ w → HangS G3 218 (hngW (-1) W s))) (fun G3 hP => ?_) (fun jj hj => ⟨fun c => hj G1 ⟨qc, fun _ => ch, fun c2 => by omega⟩, fun c => c_chooseCards hW a (qc.rep hR) ch (fun G4 o4 f4 => hj G4 ⟨fun x hx => by rw [o4 x (by omega) (by omega)]; exact qc x hx, fun c2 => by omega, fun _ => plan_hs hW (ch.2.1.congr (o4 _ (by omega) (by omega)) (o4 _ (by omega) (by omega))) f4⟩)⟩)
  obtain ⟨q3, l3, h3⟩ := hP
  have q0 := h G3 q3
  refine wo_cases b (fun c => c_countBorrowed hW' (h3 (by omega)) ?_) (fun c => ?_) (fun c => ?_) (fun c => c_workTo ?_) (fun c => c_countCards2 ?_) (fun c => c_countTurned hW' (h3 (by omega)) ?_) (fun c => c_countBacks hW' (h3 (by omega)) ?_)
  · have ev : woV W s w = boW (hngW (-1) W s) := by rw [c]; rfl
    rw [← ev]; exact q0
  · have ev : woV W s w = rhV (-1) W s (allRW W) := by rw [c]; rfl
    rw [(l3 (by omega)).1.1, ← ev]; exact q0
  · have ev : woV W s w = roV (-1) W s (allRW W) := by rw [c]; rfl
    rw [(l3 (by omega)).1.2.1, ← ev]; exact q0
  · have ev : woV W s w = wkV (-1) W s := by rw [c]; rfl
    rw [work_is hW (q3.rep hR).hs (l3 (by omega)).2.1, ← ev]; exact q0
  · have ev : woV W s w = ahW (hngW (-1) W s) := by rw [c]; rfl
    rw [pd_sum hW (l3 (by omega)).2.1 (fun x => b2 (x ≠ -1)) (b2_f (fun z => z rfl)), ← hng_ah, ← ev]; exact q0
  · have ev : woV W s w = tuW (hngW (-1) W s) := by rw [c]; rfl
    rw [← ev]; exact q0
  · have ev : woV W s w = baW (hngW (-1) W s) := by rw [c]; rfl
    rw [← ev]; exact q0
theorem e_outAt (hW : WF j W) (hR : RepS G 1 W) (hs : 0 ≤ s ∧ s < W 5) (h : ∀ G2, CQ G G2 → Q (foC W (foN (-1) W s (allRW W).toNat)) G2) : f_X9_outAt s G Q X := by
  refine c_needService hW hR (fun a => c_think hW a (by omega) hR (fun G1 m qc ch => ?_)) (fun a => absurd hs a)
  rw [ch.1.2.2]
  exact h G1 qc
theorem e_missing (hW : WF j W) (hR : RepS G 1 W) (hs : 0 ≤ s ∧ s < W 5) (h : ∀ G2, CQ G G2 → Q (lackV 43 (shW (-1) W) (cntW (-1) W) (nT W s (allRW W).toNat)) G2) : f_X9_missing s G Q X :=
  c_needService hW hR (fun a => c_countMissing hW a hR h) (fun a => absurd hs a)
theorem e_bestBuy (hW : WF j W) (hR : RepS G 1 W) (hs : 0 ≤ s ∧ s < W 5) (h : ∀ G2, CQ G G2 → Q (bbN W s 10).1 G2) : f_X9_bestBuy s G Q X := by
  refine c_needService hW hR (fun a => c_think hW a (by omega) hR (fun G1 m qc ch => ?_)) (fun a => absurd hs a)
  refine loopI4 (I := fun x2 x3 x4 G2 => (0 ≤ x4 ∧ x4 ≤ 10) ∧ CQ G G2 ∧ (x3, x2) = bbN W s x4.toNat) (μ := fun _ _ x4 _ => (10 - x4).toNat) (fun k x2 x3 x4 G2 hI ih => ?_) _ (-1) 0 G1 ⟨by omega, qc, by rw [ch.1.1]; rfl⟩
  obtain ⟨hx, q2, he⟩ := hI
  have es := bbN_s (W := W) (s := s) hx.1
  rw [← he] at es
  refine ⟨fun c => ?_, fun c => c_think hW a (by omega) (q2.rep hR) (fun G3 m3 q3 ch3 => ?_)⟩
  · have e10 : x4 = 10 := by omega
    rw [e10] at he
    have e9 : bbN W s 10 = (x3, x2) := he.symm
    rw [e9] at h
    exact h G2 q2
  · rw [ch3.1.1]
    refine ⟨fun c2 => ih _ _ _ _ ⟨by omega, q2.trans q3, ?_⟩ (by omega), fun c2 => ih _ _ _ _ ⟨by omega, q2.trans q3, ?_⟩ (by omega)⟩
    · rw [es, if_neg (by omega)]
    · rw [es, if_pos c2]
theorem e_easiest (hW : WF j W) (hR : RepS G 1 W) (h : ∀ G2, CQ G G2 → Q (eaN W (W 5).toNat).1 G2) : f_X9_easiest G Q := by
  have se := hW.se
  unfold f_X9_easiest
  refine loopI4 (I := fun x1 x2 x3 G1 => (0 ≤ x3 ∧ x3 ≤ W 5) ∧ CQ G G1 ∧ (x1, x2) = eaN W x3.toNat) (μ := fun _ _ x3 _ => (W 5 - x3).toNat) (fun k x1 x2 x3 G1 hI ih => ?_) (-1) 0 0 G ⟨by omega, fun _ _ => rfl, rfl⟩
  obtain ⟨hx, qc, he⟩ := hI
  have e12 : G1 12 0 = W 5 := (qc.rep hR).se
  have es := eaN_s (W := W) hx.1
  rw [← he] at es
  rw [e12]
  refine ⟨fun c => ?_, fun c => c_think hW ⟨hx.1, c⟩ (by omega) (qc.rep hR) (fun G2 m q2 ch => c_workTo ?_)⟩
  · have e : x3 = W 5 := by omega
    rw [e] at he
    rw [← he] at h
    exact h G1 qc
  · have wi := work_is (tf := -1) (s := x3) hW (((qc.trans q2).rep hR).hs) ch.2.1
    rw [wi]
    refine ⟨fun c2 => ih _ _ _ _ ⟨by omega, qc.trans q2, ?_⟩ (by omega), fun c2 => ⟨fun c3 => ih _ _ _ _ ⟨by omega, qc.trans q2, ?_⟩ (by omega), fun c3 => ih _ _ _ _ ⟨by omega, qc.trans q2, ?_⟩ (by omega)⟩⟩
    · rw [es, if_pos (Or.inl c2)]
    · rw [es, if_neg (by omega)]
    · rw [es, if_pos (Or.inr c3)]
theorem e_workFrom {f : Int} (hW : WF j W) (hR : RepS G 1 W) (hf : 0 ≤ f ∧ f < W 5) (hs : 0 ≤ s ∧ s < W 5) (h : ∀ G2, CQ G G2 → Q (sumZ (fun p => wk1 (ddV (-1) W f p) (ddV (-1) W s p)) 54) G2) : f_X9_workFrom f s G Q X := by
  refine c_needService hW hR (fun a => c_needService hW hR (fun b => ?_) (fun b => absurd hs b)) (fun a => absurd hf a)
  refine c_chooseRows (tf := -1) (Or.inr rfl) hW a (by omega) hR (fun G1 m1 o1 ch1 => ?_)
  have r1 : RepS G1 1 W := hR.congr (fun x x0 x1 => o1 x (by omega) (by omega))
  refine c_chooseRows (tf := -1) (Or.inl rfl) hW b (by omega) r1 (fun G2 m2 o2 ch2 => c_workTo ?_)
  have pd1 : PlanD G2 224 (-1) W f (allRW W) := ch1.2.1.congr (o2 _ (by omega) (by omega)) (o2 _ (by omega) (by omega))
  rw [work_two hW pd1 ch2.2.1]
  exact h G2 (fun x hx => by rw [o2 x (by omega) (by omega), o1 x (by omega) (by omega)])
theorem e_turned {Q : UInt32 → Prop} (hW : WF j W) (hR : RepS G 1 W) (q : Q (tuF W)) : f_X9_turned G Q := by
  have ra : 0 ≤ ahW W ∧ ahW W ≤ 54 := cnt54
  have ir : inR (ahW W) := ⟨by omega, by omega⟩
  unfold tuF at q
  refine c_countCards hW hR.hs ⟨fun c => c_countTurned hW hR.hs ⟨n32_of (f_quot ir c), ?_⟩, fun c => ?_⟩
  · rw [if_neg c] at q; exact q
  · rw [if_pos c] at q; exact q
/-- the snapshot 0 shows W -/
def Sn (G : GH) (W : WT) : Prop := G 207 0 = 1 ∧ RepS G 232 W
theorem Sn.congr {G2 : GH} (h : Sn G W) (e : ∀ x, x = 207 ∨ (232 ≤ x ∧ x < 252) → G2 x = G x) : Sn G2 W := ⟨by rw [e 207 (Or.inl rfl)]; exact h.1, h.2.congr (fun x x0 x1 => e x (by omega))⟩
theorem e_save (hW : WF j W) (hR : RepS G 1 W) (h : ∀ v G2, (∀ x, x ≠ 207 → ¬ (232 ≤ x ∧ x < 252) → G2 x = G x) → Sn G2 W → Q v G2) : f_X9_saveSnapshot 0 G Q X := by
  unfold f_X9_saveSnapshot
  refine c_within (c_needA (fun _ => ⟨by omega, ?_⟩) (fun a => absurd (show (0 : Int) ≤ 0 ∧ (0 : Int) ≤ 1 by omega) a))
  show f_X7_copyFrom 232 1 G _
  refine c_copy7 (by omega) (by rw [hR.sp]; exact hW.sp) (by rw [hR.tu]; exact hW.tu) (fun G1 o1 c1 G2 e2 => ?_)
  have r1 := RepS.copy hW c1 hR
  exact h _ G2 (fun x x0 x1 => by rw [e2, up_na x0, o1 x (by omega)]) ⟨by rw [e2]; exact upG_same _ _ _ _, r1.congr (fun x x0 x1 => by rw [e2, up_na (by omega)])⟩
theorem e_rest (hW : WF j W) (hS : Sn G W) (h : ∀ v G2, (∀ x, x ≠ 44 → ¬ (1 ≤ x ∧ x < 21) → G2 x = G x) → G2 44 2 = 0 → G2 44 1 = G 44 1 → RepS G2 1 W → Q v G2) : f_X9_restoreSnapshot 0 G Q X := by
  unfold f_X9_restoreSnapshot
  obtain ⟨h1, h2⟩ := hS
  have h1' : G 207 (0 : Int).toNat = 1 := h1
  refine c_within (c_needA (fun _ => ⟨by omega, fun _ => ?_, fun c => by omega⟩) (fun a => absurd (show (0 : Int) ≤ 0 ∧ (0 : Int) ≤ 1 by omega) a))
  show f_X7_copyFrom 1 232 G _
  refine c_copy7 (by omega) (by rw [h2.sp]; exact hW.sp) (by rw [h2.tu]; exact hW.tu) (fun G1 o1 c1 G2 e2 => ?_)
  have r1 := RepS.copy hW c1 h2
  exact h _ G2 (fun x x0 x1 => by rw [e2, up_na x0, o1 x (by omega)]) (by rw [e2, upG_same]) (by rw [e2, upG_nk (by omega), o1 44 (by omega)]) (r1.congr (fun x x0 x1 => by rw [e2, up_na (by omega)]))
end RA
