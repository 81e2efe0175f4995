-- ===== PURE LAYER: what would be: arms =====
def RQ (G G' : GH) : Prop := (∀ x, x ≠ 272 → x ≠ 274 → ¬ (280 ≤ x ∧ x ≤ 283) → G' x = G x) ∧ (∀ k, ¬ (22 ≤ k ∧ k ≤ 25) → G' 272 k = G 272 k)
theorem RQ.rfl' {G : GH} : RQ G G := ⟨fun _ _ _ _ => rfl, fun _ _ => rfl⟩
theorem RQ.trans {G G' G'' : GH} (a : RQ G G') (b : RQ G' G'') : RQ G G'' := ⟨fun x x0 x1 x2 => (b.1 x x0 x1 x2).trans (a.1 x x0 x1 x2), fun k hk => (b.2 k hk).trans (a.2 k hk)⟩
def CQ (G G' : GH) : Prop := ∀ x, ¬ (208 ≤ x ∧ x ≤ 229) → G' x = G x
theorem CQ.trans {G G' G'' : GH} (a : CQ G G') (b : CQ G' G'') : CQ G G'' := fun x hx => (b x hx).trans (a x hx)
theorem arm_q {j : Nat} {G : GH} {K : GH → Prop} {L : (Int → GH → Prop) → Prop} {M : GH → (Int → GH → Prop) → Prop} (t v : Int) (h : Rel j G) (hK : ∀ G', Rel (j + 1) G' → K G')
    (hL : ∀ Q : Int → GH → Prop, (t = 0 → ∀ G1, CQ G G1 → Q 0 (upG G1 285 0 v)) → (t ≠ 0 → Q t G) → L Q)
    (hM : ∀ (G1 : GH) (Q : Int → GH → Prop), (∀ x, ¬ (208 ≤ x ∧ x ≤ 229) → x ≠ 285 → G1 x = G x) → (∀ G', RQ (upG G1 272 0 t) G' → Q (if t = 0 then v else 0) G') → M G1 Q) :
    L (fun r1 G1 => M G1 (tailP K r1)) := by
  have fin : ∀ G1 : GH, (∀ x, ¬ (208 ≤ x ∧ x ≤ 229) → x ≠ 285 → G1 x = G x) → ∀ G', RQ (upG G1 272 0 t) G' → Rel (j + 1) G' := fun G1 e G' q => by
    refine h.next (fun a ha => ?_) (fun k hk => ?_)
    · unfold ownA at ha
      rw [q.1 a (by omega) (by omega) (by omega), up_na (by omega), e a (by omega) (by omega)]
    · unfold ownK at hk
      rw [q.2 k (by omega), upG_nk (by omega), e 272 (by omega) (by omega)]
  refine hL _ (fun ht G1 q1 => ?_) (fun ht => ?_)
  · have e1 : ∀ x, ¬ (208 ≤ x ∧ x ≤ 229) → x ≠ 285 → upG G1 285 0 v x = G x := fun x x0 x1 => by rw [up_na x1]; exact q1 x x0
    refine hM _ _ e1 (fun G' q => tail_ok ?_ (fun _ => ?_) (hK _ (fin _ e1 G' q)))
    · rw [q.2 0 (by omega), upG_same, ht]
    · rw [q.1 285 (by omega) (by omega) (by omega), up_na (by omega), upG_same, if_pos ht]
  · refine hM _ _ (fun _ _ _ => rfl) (fun G' q => tail_ok ?_ (fun w => absurd w ht) (hK _ (fin _ (fun _ _ _ => rfl) G' q)))
    rw [q.2 0 (by omega), upG_same]
theorem arm_q0 {j : Nat} {G : GH} {K : GH → Prop} {L : (Int → GH → Prop) → Prop} {M : GH → (Int → GH → Prop) → Prop} (v : Int) (h : Rel j G) (hK : ∀ G', Rel (j + 1) G' → K G')
    (hL : ∀ Q : Int → GH → Prop, (∀ G1, CQ G G1 → Q v G1) → L Q)
    (hM : ∀ (G1 : GH) (Q : Int → GH → Prop), CQ G G1 → (∀ G', RQ (upG G1 272 0 0) G' → Q v G') → M G1 Q) :
    L (fun r1 G1 => M G1 (tail0 K r1)) := by
  refine hL _ (fun G1 q1 => hM _ _ q1 (fun G' q => tail0_ok rfl (hK _ (h.next (fun a ha => ?_) (fun k hk => ?_)))))
  · unfold ownA at ha
    rw [q.1 a (by omega) (by omega) (by omega), up_na (by omega), q1 a (by omega)]
  · unfold ownK at hk
    rw [q.2 k (by omega), upG_nk (by omega), q1 272 (by omega)]
def F4 (tf : Int) (W : WT) (s : Int) (G : GH) : Prop := G 272 22 = rhV tf W s (allRW W) ∧ G 272 23 = roV tf W s (allRW W) ∧ G 272 24 = foN tf W s (allRW W).toNat ∧ G 272 25 = wkV tf W s
section AQ
variable {tf : Int} {W : WT} {s n : Int} {G : GH}
theorem m_tries {Q : GH → Prop} (hn : n ≤ 1000) (hW : WF n W) (hs : 0 ≤ s ∧ s < W 5) (ht : -1 ≤ tf ∧ tf ≤ 9) (ht2 : G 272 17 = tf) (hw : G 273 = W)
    (h : ∀ G' : GH, (∀ x, x ≠ 272 → x ≠ 273 → x ≠ 274 → ¬ (280 ≤ x ∧ x ≤ 283) → G' x = G x) → (∀ k, ¬ (22 ≤ k ∧ k ≤ 25) → G' 272 k = G 272 k) → F4 tf W s G' → G' 273 = hngW tf W s → (∀ k, k < 456 → G' 274 k = W k) → Q G') : f_X10_tries s G Q := by
  unfold f_X10_tries
  refine m_goesAside (fun G1 o1 v1 => m_hangsService hn hW hs ht (by rw [o1 272 (by omega)]; exact ht2) (by rw [o1 273 (by omega)]; exact hw) (fun G2 o2 q2 f2 w2 => ?_))
  refine h G2 (fun x x0 x1 x2 x3 => by rw [o2 x x0 x1 x3, o1 x x2]) (fun k hk => by rw [q2 k hk, o1 272 (by omega)]) f2 w2 (fun k hk => ?_)
  rw [o2 274 (by omega) (by omega) (by omega), v1 k hk, hw]
theorem m_back {Q : Int → GH → Prop} {v : Int} {W' : WT} (hw : G 273 = W') (hw2 : ∀ k, 456 ≤ k → W' k = W k) (ha : ∀ k, k < 456 → G 274 k = W k) (h : ∀ G' : GH, (∀ x, x ≠ 273 → G' x = G x) → G' 273 = W → Q v G') : f_X10_comesBack v G Q := by
  refine m_comesBack (fun G' o v1 v2 => h G' o (funext fun k => ?_))
  by_cases c : k < 456
  · rw [v1 k c, ha k c]
  · rw [v2 k (by omega), hw, hw2 k (by omega)]
theorem hng_high {k : Nat} (hk : 456 ≤ k) : hngW tf W s k = W k := by
  unfold hngW
  rw [if_neg (by omega), if_neg (by omega), if_neg (by omega), if_neg (by omega), if_neg (by omega), if_neg (by omega), if_neg (by omega)]
theorem m_tryBack {Q : Int → GH → Prop} (hn : n ≤ 1000) (hW : WF n W) (hs : 0 ≤ s ∧ s < W 5) (ht : -1 ≤ tf ∧ tf ≤ 9) (ht2 : G 272 17 = tf) (hw : G 273 = W) (v : GH → Int) (h : ∀ G3 G' : GH, F4 tf W s G3 → RQ G G' → F4 tf W s G' → Q (v G3) G') : f_X10_tries s G (fun G3 => f_X10_comesBack (v G3) G3 Q) := by
  refine m_tries hn hW hs ht ht2 hw (fun G3 o3 q3 f3 w3 a3 => m_back (W := W) w3 (fun k hk => hng_high hk) a3 (fun G' o w => h G3 G' f3 ⟨fun x x0 x1 x2 => ?_, fun k hk => ?_⟩ ?_))
  · by_cases c : x = 273
    · rw [c, w, hw]
    · rw [o x c, o3 x x0 c x1 x2]
  · rw [o 272 (by omega), q3 k hk]
  · unfold F4
    rw [o 272 (by omega)]; exact f3
theorem CQ.rep {G1 : GH} (q : CQ G G1) (hR : RepS G 1 W) : RepS G1 1 W := hR.congr (fun x x0 x1 => q x (by omega))
/-- the class's rows, chosen for a thought -/
theorem c_think {Q : GH → Prop} (hW : WF n W) (hs : 0 ≤ s ∧ s < W 5) (ht : -1 ≤ tf ∧ tf ≤ 9) (hR : RepS G 1 W) (h : ∀ (G' : GH) (m : Int), CQ G G' → Chosen G' 218 tf W s m → Q G') : f_X4_chooseRows 1 s tf 218 G Q :=
  c_chooseRows (Or.inl rfl) hW hs ht hR (fun G' m o c => h G' m (fun x hx => o x (by omega) (by omega)) c)
end AQ
section AQ2
variable {j : Nat} {G : GH} {K : GH → Prop} {L : Nat} {xs : Nat → Int32} {i4 : Int}
theorem mq_up {G : GH} {t : Int} : ∀ x, x ≠ 272 → (upG G 272 0 t) x = G x := fun _ hx => up_na hx
theorem arm_19 (h : Rel j G) (hK : ∀ G', Rel (j + 1) G' → K G') (hj : j < 512) (hL : 0 ≤ i4 ∧ i4 + 5 ≤ L) : f_law_19 L xs i4 G K := by
  have hW := h.wf
  have hR := h.rp
  have bo := hW.bo
  have al := hW.allR
  refine ⟨⟨by omega, by omega⟩, ?_⟩
  generalize (xs ((i4 + 1)).toNat).toInt = s
  refine arm_q (L := fun Q => f_L_outAt s G Q) (M := fun G1 Q => f_X10_outAt s G1 Q) (if 0 ≤ s ∧ s < G 273 5 then 0 else 1) (foC (G 273) (foN (-1) (G 273) s (allRW (G 273)).toNat)) h hK (fun Q q0 q1 => ?_) (fun G1 Q e q => ?_)
  · refine c_needService hW hR (fun a => ?_) (fun a => ⟨rfl, ?_⟩)
    · rw [if_pos a] at q0
      refine c_think hW a (by omega) hR (fun G1 m qc ch G2 e2 => ?_)
      rw [e2, ch.1.2.2]
      exact q0 rfl G1 qc
    · rw [if_neg a] at q1
      exact q1 (by omega)
  · have m0 : MV G1 (G 273) := ⟨e 273 (by omega) (by omega), by rw [e 272 (by omega) (by omega)]; exact h.2.2.1⟩
    refine mv_noService m0 hW (fun a => z01 ?_) (fun a => z10 ?_)
    · have a' : 0 ≤ s ∧ s < G 273 5 := by omega
      rw [if_pos a'] at q
      refine m_tryBack (n := (j : Int)) (by omega) hW a' (by omega) (m0.th (t := 0)).2 (m0.th (t := 0)).1 (fun _ => 0) (fun G3 G' f3 q3 f4 => ?_)
      have q' := q G' q3
      rw [if_pos rfl] at q'
      have fr := foN_rng (tf := -1) (W := G 273) (s := s) (allRW (G 273)).toNat
      have l4 : Low G' (G 273) := fun k _ _ => by rw [q3.1 273 (by omega) (by omega) (by omega), up_na (by omega), m0.1]
      rw [f4.2.2.1]
      refine ⟨fun c => ?_, fun c => ?_⟩
      · have r0 : 0 ≤ foN (-1) (G 273) s (allRW (G 273)).toNat ∧ foN (-1) (G 273) s (allRW (G 273)).toNat < allRW (G 273) := by omega
        have bd := hW.bd r0.1 r0.2
        have fb := hW.frst (b := bdW (G 273) (foN (-1) (G 273) s (allRW (G 273)).toNat)) bd.1 (by omega)
        refine l_boardOf l4 hW r0 (l_firstRow l4 hW ⟨bd.1, by omega⟩ ⟨⟨by omega, by omega⟩, ?_⟩)
        unfold foC at q'
        rw [if_neg c] at q'
        rw [show 100 * bdW (G 273) (foN (-1) (G 273) s (allRW (G 273)).toNat) + foN (-1) (G 273) s (allRW (G 273)).toNat - frstW (G 273) (bdW (G 273) (foN (-1) (G 273) s (allRW (G 273)).toNat)) = 100 * bdW (G 273) (foN (-1) (G 273) s (allRW (G 273)).toNat) + (foN (-1) (G 273) s (allRW (G 273)).toNat - frstW (G 273) (bdW (G 273) (foN (-1) (G 273) s (allRW (G 273)).toNat))) by omega]
        exact q'
      · unfold foC at q'
        rw [if_pos c] at q'
        exact q'
    · have a' : ¬ (0 ≤ s ∧ s < G 273 5) := by omega
      rw [if_neg a'] at q
      exact q _ RQ.rfl'
-- firstOut
def fvI (W : WT) (v : Int) : Prop := (v = -1 ∧ ∀ s, 0 ≤ s → s < W 5 → roV (-1) W s (allRW W) ≤ 0) ∨ ((0 ≤ v ∧ v < W 5) ∧ 0 < roV (-1) W v (allRW W) ∧ ∀ s, 0 ≤ s → s < v → roV (-1) W s (allRW W) ≤ 0)
theorem fvI_one {W : WT} {v v' : Int} (a : fvI W v) (b : fvI W v') : v = v' := by
  rcases a with ⟨a1, a2⟩ | ⟨a1, a2, a3⟩ <;> rcases b with ⟨b1, b2⟩ | ⟨b1, b2, b3⟩
  · omega
  · have := a2 v' b1.1 b1.2
    omega
  · have := b2 v a1.1 a1.2
    omega
  · rcases Int.lt_trichotomy v v' with q | q | q
    · have := b3 v a1.1 q
      omega
    · exact q
    · have := a3 v' b1.1 q
      omega
theorem arm_22 (h : Rel j G) (hK : ∀ G', Rel (j + 1) G' → K G') (hj : j < 512) : f_law_22 L xs i4 G K := by
  have hW := h.wf
  have hR := h.rp
  have se := hW.se
  show f_X9_firstOut G (fun r1 G1 => f_X10_firstOut G1 (tail0 K r1))
  have cls : ∀ Q : Int → GH → Prop, (∀ v G1, fvI (G 273) v → CQ G G1 → Q v G1) → f_X9_firstOut G Q := fun Q q => by
    unfold f_X9_firstOut
    refine up_loop (fun x G1 => CQ G G1 ∧ ∀ s, 0 ≤ s → s < x → roV (-1) (G 273) s (allRW (G 273)) ≤ 0) 0 (G 273 5) se.1 ⟨fun _ _ => rfl, fun s s0 s1 => by omega⟩ (fun k x G1 x0 x1 hI kk => ?_)
    obtain ⟨qc, hn⟩ := hI
    have e12 : G1 12 0 = G 273 5 := (qc.rep hR).se
    rw [e12]
    refine ⟨fun c => q _ _ (Or.inl ⟨rfl, fun s s0 s1 => hn s s0 (by omega)⟩) qc, fun c => c_think hW ⟨x0, c⟩ (by omega) (qc.rep hR) (fun G2 m q2 ch => ?_)⟩
    rw [ch.1.2.1]
    refine ⟨fun c2 => kk G2 c ⟨qc.trans q2, fun s s0 s1 => ?_⟩, fun c2 => q _ _ (Or.inr ⟨⟨x0, c⟩, c2, hn⟩) (qc.trans q2)⟩
    by_cases e : s = x
    · rw [e]; exact c2
    · exact hn s s0 (by omega)
  refine cls _ (fun v G1 hv q1 => ?_)
  intro G2 e2
  have m0 : MV G1 (G 273) := ⟨q1 273 (by omega), by rw [q1 272 (by omega)]; exact h.2.2.1⟩
  have m2 : MV G2 (G 273) := by rw [e2]; exact m0.th
  have fin : ∀ v' G', fvI (G 273) v' → RQ G2 G' → tail0 K v v' G' := fun v' G' hv' q' => tail0_ok (fvI_one hv hv') (hK _ (h.next (fun a ha => by
    unfold ownA at ha
    rw [q'.1 a (by omega) (by omega) (by omega), e2, up_na (by omega), q1 a (by omega)]) (fun k hk => by
    unfold ownK at hk
    rw [q'.2 k (by omega), e2, upG_nk (by omega), q1 272 (by omega)])))
  refine up_loop (fun x G3 => RQ G2 G3 ∧ ∀ s, 0 ≤ s → s < x → roV (-1) (G 273) s (allRW (G 273)) ≤ 0) 0 (G 273 5) se.1 ⟨RQ.rfl', fun s s0 s1 => by omega⟩ (fun k x G3 x0 x1 hI kk => ?_)
  obtain ⟨qm, hn⟩ := hI
  have w3 : G3 273 = G 273 := by rw [qm.1 273 (by omega) (by omega) (by omega)]; exact m2.1
  have t3 : G3 272 17 = -1 := by rw [qm.2 17 (by omega)]; exact m2.2
  rw [w3]
  refine ⟨fun c => fin _ _ (Or.inl ⟨rfl, fun s s0 s1 => hn s s0 (by omega)⟩) qm, fun c => ?_⟩
  refine m_tryBack (n := (j : Int)) (by omega) hW ⟨x0, c⟩ (by omega) t3 w3 (fun G3 => G3 272 23) (fun G4 G' f3 q3 f4 => ?_)
  show (G4 272 23 ≤ 0 → _) ∧ (0 < G4 272 23 → _)
  rw [f3.2.1]
  refine ⟨fun c2 => kk G' c ⟨qm.trans q3, fun s s0 s1 => ?_⟩, fun c2 => fin _ _ (Or.inr ⟨⟨x0, c⟩, c2, hn⟩) (qm.trans q3)⟩
  by_cases e : s = x
  · rw [e]; exact c2
  · exact hn s s0 (by omega)
-- easiest
def eaN (W : WT) : Nat → Int × Int
  | 0 => (-1, 0)
  | k + 1 => if (eaN W k).1 = -1 ∨ wkV (-1) W (k : Int) < (eaN W k).2 then ((k : Int), wkV (-1) W (k : Int)) else eaN W k
theorem eaN_s {W : WT} {x : Int} (h : 0 ≤ x) : eaN W (x + 1).toNat = if (eaN W x.toNat).1 = -1 ∨ wkV (-1) W x < (eaN W x.toNat).2 then (x, wkV (-1) W x) else eaN W x.toNat := by
  have e : eaN W (x.toNat + 1) = if (eaN W x.toNat).1 = -1 ∨ wkV (-1) W ((x.toNat : Nat) : Int) < (eaN W x.toNat).2 then (((x.toNat : Nat) : Int), wkV (-1) W ((x.toNat : Nat) : Int)) else eaN W x.toNat := rfl
  rw [show (x + 1).toNat = x.toNat + 1 by omega, e, show ((x.toNat : Nat) : Int) = x by omega]
theorem arm_24 (h : Rel j G) (hK : ∀ G', Rel (j + 1) G' → K G') (hj : j < 512) : f_law_24 L xs i4 G K := by
  have hW := h.wf
  have hR := h.rp
  have se := hW.se
  refine arm_q0 (L := fun Q => f_X9_easiest G Q) (M := fun G1 Q => f_X10_easiest G1 Q) (eaN (G 273) (G 273 5).toNat).1 h hK (fun Q q => ?_) (fun G1 Q q1 q => ?_)
  · unfold f_X9_easiest
    refine loopI4 (I := fun x1 x2 x3 G1 => (0 ≤ x3 ∧ x3 ≤ G 273 5) ∧ CQ G G1 ∧ (x1, x2) = eaN (G 273) x3.toNat) (μ := fun _ _ x3 _ => (G 273 5 - x3).toNat) (fun k x1 x2 x3 G1 hI ih => ?_) (-1) 0 0 G ⟨by omega, fun _ _ => rfl, rfl⟩
    obtain ⟨hx, qc, he⟩ := hI
    have e12 : G1 12 0 = G 273 5 := (qc.rep hR).se
    have es := eaN_s (W := G 273) hx.1
    rw [← he] at es
    rw [e12]
    refine ⟨fun c => ?_, fun c => c_think hW ⟨hx.1, c⟩ (by omega) (qc.rep hR) (fun G2 m q2 ch => c_workTo ?_)⟩
    · have e : x3 = G 273 5 := by omega
      rw [e] at he
      rw [← he] at q
      exact q G1 qc
    · have wi := work_is (tf := -1) (s := x3) hW (((qc.trans q2).rep hR).hs) ch.2.1
      rw [wi]
      refine ⟨fun c2 => ih _ _ _ _ ⟨by omega, qc.trans q2, ?_⟩ (by omega), fun c2 => ⟨fun c3 => ih _ _ _ _ ⟨by omega, qc.trans q2, ?_⟩ (by omega), fun c3 => ih _ _ _ _ ⟨by omega, qc.trans q2, ?_⟩ (by omega)⟩⟩
      · rw [es, if_pos (Or.inl c2)]
      · rw [es, if_neg (by omega)]
      · rw [es, if_pos (Or.inr c3)]
  · intro G2 e2
    have m0 : MV G1 (G 273) := ⟨q1 273 (by omega), by rw [q1 272 (by omega)]; exact h.2.2.1⟩
    have m2 : MV G2 (G 273) := by rw [e2]; exact m0.th
    rw [← e2] at q
    refine loopI4 (I := fun x1 x2 x3 G3 => (0 ≤ x3 ∧ x3 ≤ G 273 5) ∧ RQ G2 G3 ∧ (x1, x2) = eaN (G 273) x3.toNat) (μ := fun _ _ x3 _ => (G 273 5 - x3).toNat) (fun k x1 x2 x3 G3 hI ih => ?_) (-1) 0 0 G2 ⟨by omega, RQ.rfl', rfl⟩
    obtain ⟨hx, qm, he⟩ := hI
    have w3 : G3 273 = G 273 := by rw [qm.1 273 (by omega) (by omega) (by omega)]; exact m2.1
    have t3 : G3 272 17 = -1 := by rw [qm.2 17 (by omega)]; exact m2.2
    have es := eaN_s (W := G 273) hx.1
    rw [← he] at es
    rw [w3]
    refine ⟨fun c => ?_, fun c => ?_⟩
    · have e : x3 = G 273 5 := by omega
      rw [e] at he
      rw [← he] at q
      exact q G3 qm
    · refine m_tryBack (n := (j : Int)) (by omega) hW ⟨hx.1, c⟩ (by omega) t3 w3 (fun G3 => G3 272 25) (fun G4 G' f3 q3 f4 => ?_)
      show (x1 = -1 → k x3 (G4 272 25) (x3 + 1) G') ∧ (x1 ≠ -1 → (G4 272 25 < x2 → k x3 (G4 272 25) (x3 + 1) G') ∧ (x2 ≤ G4 272 25 → k x1 x2 (x3 + 1) G'))
      rw [f3.2.2.2]
      refine ⟨fun c2 => ih _ _ _ _ ⟨by omega, qm.trans q3, ?_⟩ (by omega), fun c2 => ⟨fun c3 => ih _ _ _ _ ⟨by omega, qm.trans q3, ?_⟩ (by omega), fun c3 => ih _ _ _ _ ⟨by omega, qm.trans q3, ?_⟩ (by omega)⟩⟩
      · rw [es, if_pos (Or.inl c2)]
      · rw [es, if_pos (Or.inr c3)]
      · rw [es, if_neg (by omega)]
end AQ2
