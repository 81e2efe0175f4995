-- ===== p51, PURE LAYER: the acts: lose, giveBack, hold, hang =====
/-- W with the places of F taken down -/
def fellW (F : Int → Prop) [DecidablePred F] (W : WT) : WT := fun k => if 276 ≤ k ∧ k < 438 then (if F (((k - 276) / 3 : Nat) : Int) then -1 else W k) else W k
theorem fellW_is (F : Int → Prop) [DecidablePred F] (W : WT) : Fell F (fellW F W) W := by
  refine ⟨fun k hk => by unfold fellW; rw [if_neg (by omega)], fun p p0 p1 => ?_⟩
  have key : ∀ h9 : Int, 0 ≤ h9 → h9 < 3 → plaW (fellW F W) p h9 = if F p then -1 else plaW W p h9 := fun h9 h0 h1 => by
    show fellW F W ((276 + (3 * p)) + h9).toNat = _
    unfold fellW
    rw [if_pos (by omega), show (((((276 + (3 * p)) + h9).toNat - 276) / 3 : Nat) : Int) = p by omega]
  rw [key 0 (by omega) (by omega), key 1 (by omega) (by omega), key 2 (by omega) (by omega)]
  exact ⟨fun q => by rw [if_pos q, if_pos q, if_pos q]; exact ⟨rfl, rfl, rfl⟩, fun q => by rw [if_neg q, if_neg q, if_neg q]; exact ⟨rfl, rfl, rfl⟩⟩
theorem Fell.same {F : Int → Prop} {W' W : WT} (f : Fell F W' W) : ∀ p, 0 ≤ p → p < 54 → plaW W' p 0 = -1 ∨ plaW W' p 0 = plaW W p 0 := fun p p0 p1 => by
  obtain ⟨q1, q2⟩ := f.2 p p0 p1
  by_cases c : F p
  · exact Or.inl (q1 c).1
  · exact Or.inr (q2 c).1
section PD
variable {c9 : Nat → Nat} {j : Int} {G : GH} {W : WT} {Q : Int → GH → Prop} {X : String → GH → Prop}
theorem d_lose {c m : Int} (hW : WF j W) (hR : RepS G 1 W) (hg : RgC G) (a : 0 ≤ c ∧ c < W 3) (b : 1 ≤ m ∧ m ≤ 60) (h0 : ∀ r, Q r G) (h : ∀ W' G2, (∀ k, k < 456 → ¬ (15 ≤ k ∧ k < 51) → ¬ (276 ≤ k ∧ k < 438) → W' k = W k) → (∀ p, 0 ≤ p → p < 54 → plaW W' p 0 = -1 ∨ plaW W' p 0 = plaW W p 0) → Acted j W W' G G2 → ∀ r, Q r G2) : f_X9_lose c m G Q X := by
  have how := hW.ow
  unfold f_X9_lose
  refine c_needOwn hW hR (fun _ => c_needMany (fun _ => ?_) (fun q => absurd b q)) (fun q => absurd a q)
  have ca := hW.ca c a.1 a.2
  have ec : cntW (-1) W c = cardW W c 2 := by rw [cnt_own a.1 (by omega), if_pos a.2]
  have e6 : G 6 c.toNat = cardW W c 2 := (hR.ct c a.1 (by omega)).trans ec
  rw [e6]
  refine ⟨by omega, fun bm => ?_, fun bm => h0 _⟩
  refine c_keepC hW hR hg (fun G1 kc => ?_)
  have r1 := kc.rep1C hg hR
  have e61 : G1 6 c.toNat = cardW W c 2 := (r1.ct c a.1 (by omega)).trans ec
  rw [e61]
  refine ⟨⟨by omega, by omega⟩, fun G2 e2 => ?_⟩
  have r2 : ∀ x, x ≠ 6 → G2 x = G1 x := fun x hx => by rw [e2, up_na hx]
  have hH2 : HangS G2 15 W := r1.hs.congr (fun x x1 x2 => r2 x (by omega))
  have hcn : ∀ s : Int, 0 ≤ s → s < 42 → G2 6 s.toNat = (if s = c then cardW W c 2 - m else cntW (-1) W s) ∧ 0 ≤ (if s = c then cardW W c 2 - m else cntW (-1) W s) := fun s s0 s1 => by
    by_cases q : s = c
    · rw [if_pos q, q, e2, upG_same]; omega
    · rw [if_neg q, e2, upG_nk (by omega)]
      exact ⟨r1.ct s s0 s1, (cnt_rng hW ⟨s0, s1⟩).1⟩
  refine c_tooMany (a := 1) (c := fun s => if s = c then cardW W c 2 - m else cntW (-1) W s) (fun P P0 P1 => hH2.rng hW P0 P1) (fun s s0 s1 => ?_) hcn (fun G3 o3 g3 k3 => ?_)
  · have t := hH2.sum3 hW (fun _ x _ => b2 (x = s)) (b2_f (by omega))
    rw [r2 _ (by omega)]
    exact (r1.hg s s0 s1).trans t.symm
  obtain ⟨W6, hW6⟩ : ∃ W6 : WT, W6 = upW W ((15 + (3 * c)) + 2).toNat (cardW W c 2 - m) := ⟨_, rfl⟩
  have ci : CntIs W6 W c (cardW W c 2 - m) := ⟨fun k _ k1 => by rw [hW6, upW_ne k1], by rw [hW6]; exact upW_eq⟩
  obtain ⟨oc, o63, cd, ct⟩ := ci.facts hW a
  have ep : EqR 276 438 W6 W := fun k q0 q1 => oc k (by omega) (by omega) (by omega)
  have pe : ∀ p h9 : Int, 0 ≤ p → p < 54 → 0 ≤ h9 → h9 < 3 → plaW W6 p h9 = plaW W p h9 := fun p h9 q0 q1 q2 q3 => rR_pla ep q0 q1 q2 q3
  obtain ⟨F, hF⟩ : ∃ F : Int → Prop, F = fallW W (fun s => if s = c then cardW W c 2 - m else cntW (-1) W s) := ⟨_, rfl⟩
  obtain ⟨W7, f7⟩ : ∃ W7 : WT, Fell (fallW W (fun s => if s = c then cardW W c 2 - m else cntW (-1) W s)) W7 W6 := ⟨_, fellW_is _ W6⟩
  have fp : FellP (fallW W (fun s => if s = c then cardW W c 2 - m else cntW (-1) W s)) W7 W := fun p p0 p1 => by
    have z := f7.2 p p0 p1
    rw [pe p 0 p0 p1 (by omega) (by omega), pe p 1 p0 p1 (by omega) (by omega), pe p 2 p0 p1 (by omega) (by omega)] at z
    exact z
  have w7 : ∀ k, k < 276 ∨ 438 ≤ k → W7 k = W6 k := fun k hk => f7.1 k hk
  have w7o : ∀ k, k < 456 → k ≠ 3 → ¬ (15 ≤ k ∧ k < 51) → ¬ (276 ≤ k ∧ k < 438) → W7 k = W k := fun k k0 k1 k2 k3 => (w7 k (by omega)).trans (oc k k0 k1 k2)
  have w73 : W7 3 = W 3 := (w7 3 (by omega)).trans o63
  have cd7 : ∀ k h9 : Int, 0 ≤ k → k < 12 → 0 ≤ h9 → h9 < 3 → cardW W7 k h9 = cardW W6 k h9 := fun k h9 k0 k1 h0 h1 => w7 _ (by omega)
  have ct7 : ∀ s, 0 ≤ s → s < 42 → cntW (-1) W7 s = if s = c then cardW W c 2 - m else cntW (-1) W s := fun s s0 s1 => by
    rw [← ct s s0 s1]
    have lo := hW.lo
    have e66 : W6 6 = W 6 := oc 6 (by omega) (by omega) (by omega)
    exact rR_cnt (w7 3 (by omega)) (fun k q0 q1 => w7 k (by omega)) (w7 6 (by omega)) (fun k q0 q1 => w7 k (by omega)) (by rw [o63]; exact how.2) (by rw [e66]; exact lo.2) s0
  have er7 : EqR 12 15 W7 W := fun k q0 q1 => w7o k (by omega) (by omega) (by omega) (by omega)
  have ef7 : EqR 51 84 W7 W := fun k q0 q1 => w7o k (by omega) (by omega) (by omega) (by omega)
  have el7 : EqR 84 132 W7 W := fun k q0 q1 => w7o k (by omega) (by omega) (by omega) (by omega)
  have es7 : EqR 132 276 W7 W := fun k q0 q1 => w7o k (by omega) (by omega) (by omega) (by omega)
  have eh7 : EqR 438 456 W7 W := fun k q0 q1 => w7o k (by omega) (by omega) (by omega) (by omega)
  have fl : ∀ k, k < 12 → k ≠ 3 → W7 k = W k := fun k k0 k1 => w7o k (by omega) k1 (by omega) (by omega)
  refine h W7 G3 (fun k k0 k2 k3 => ?_) (fun p p0 p1 => ?_) ⟨G1, kc, fun x q1 _ => by rw [o3 x (by omega), r2 x (by omega)], ?_, ?_⟩ _
  · by_cases k1 : k = 3
    · rw [k1]; exact w73
    · exact w7o k k0 k1 k2 k3
  · obtain ⟨q1, q2⟩ := fp p p0 p1
    by_cases cc : fallW W (fun s => if s = c then cardW W c 2 - m else cntW (-1) W s) p
    · exact Or.inl (q1 cc).1
    · exact Or.inr (q2 cc).1
  · have h8 := hW.he; have h9 := hW.wo; have h10 := hW.hu; have h11 := hW.ou
    refine fp.wf hW (fl 0 (by omega) (by omega)) er7 eh7 (fl 1 (by omega) (by omega)) (fl 2 (by omega) (by omega)) (by rw [w73]; exact how) (by rw [fl 4 (by omega) (by omega)]; exact hW.fr) (by rw [fl 5 (by omega) (by omega)]; exact hW.se) (by rw [fl 6 (by omega) (by omega)]; exact hW.lo) (fl 7 (by omega) (by omega)) (by rw [fl 8 (by omega) (by omega)]; omega) (by rw [fl 9 (by omega) (by omega)]; omega) (by rw [fl 10 (by omega) (by omega)]; omega) (by rw [fl 11 (by omega) (by omega)]; omega)
      (fun k k0 k1 => ?_) (hW.fd_of (fl 4 (by omega) (by omega)) (fl 6 (by omega) (by omega)) ef7 el7) (hW.ln_of (fl 4 (by omega) (by omega)) (fl 6 (by omega) (by omega)) el7) (hW.sv_of (fl 5 (by omega) (by omega)) es7) (fun s s0 s1 => ⟨(ct7 s s0 s1).symm, (hcn s s0 s1).2⟩)
    rw [w73] at k1
    have ck := hW.ca k k0 k1
    rw [cd7 k 0 k0 (by omega) (by omega) (by omega), cd7 k 1 k0 (by omega) (by omega) (by omega), cd7 k 2 k0 (by omega) (by omega) (by omega), cd k 0 k0 (by omega) (by omega) (by omega), cd k 1 k0 (by omega) (by omega) (by omega)]
    refine ⟨ck.1, ck.2.1, ?_⟩
    by_cases c3 : k = c
    · rw [c3, ci.2]; omega
    · have : cardW W6 k 2 = cardW W k 2 := ci.1 _ (by omega) (by omega)
      rw [this]; exact ck.2.2
  · have gg : ∀ x, x ≠ 6 → ¬ (17 ≤ x ∧ x ≤ 20) → G3 x = G1 x := fun x x0 x1 => by rw [o3 x (by omega), r2 x x0]
    refine ⟨by rw [gg 1 (by omega) (by omega), fl 0 (by omega) (by omega)]; exact r1.bo, r1.ro_of hW (fl 0 (by omega) (by omega)) er7 (gg _ (by omega) (by omega)), by rw [gg 1 (by omega) (by omega), fl 2 (by omega) (by omega)]; exact r1.sp, by rw [gg _ (by omega) (by omega), fl 1 (by omega) (by omega)]; exact r1.tu, by rw [gg _ (by omega) (by omega), w73]; exact r1.ow, by rw [gg _ (by omega) (by omega), fl 4 (by omega) (by omega)]; exact r1.fr, by rw [gg _ (by omega) (by omega), fl 6 (by omega) (by omega)]; exact r1.lo, fun k k0 k1 => ?_, fun s s0 s1 => ?_,
      r1.fd_of hW (fl 4 (by omega) (by omega)) ef7 (gg _ (by omega) (by omega)) (gg _ (by omega) (by omega)), r1.ln_of hW (fl 6 (by omega) (by omega)) el7 (gg _ (by omega) (by omega)) (gg _ (by omega) (by omega)) (gg _ (by omega) (by omega)), by rw [gg _ (by omega) (by omega), fl 5 (by omega) (by omega)]; exact r1.se, r1.sv_of hW (fl 5 (by omega) (by omega)) es7 (gg _ (by omega) (by omega)) (gg _ (by omega) (by omega)), by rw [gg _ (by omega) (by omega), fl 7 (by omega) (by omega)]; exact r1.ha,
      HangS.fell hW hH2 rfl (fl 0 (by omega) (by omega)) er7 eh7 fp (o3 _ (by omega)) g3, fun s s0 s1 => ?_, by rw [gg 1 (by omega) (by omega), fl 8 (by omega) (by omega)]; exact r1.he, by rw [gg 1 (by omega) (by omega), fl 9 (by omega) (by omega)]; exact r1.wo, by rw [gg 1 (by omega) (by omega), fl 10 (by omega) (by omega)]; exact r1.hu, by rw [gg 1 (by omega) (by omega), fl 11 (by omega) (by omega)]; exact r1.ou⟩
    · rw [w73] at k1
      rw [cd7 k 0 k0 (by omega) (by omega) (by omega), cd7 k 1 k0 (by omega) (by omega) (by omega), cd k 0 k0 (by omega) (by omega) (by omega), cd k 1 k0 (by omega) (by omega) (by omega), gg _ (by omega) (by omega), gg _ (by omega) (by omega)]
      exact r1.ca k k0 k1
    · rw [ct7 s s0 s1, o3 _ (by omega)]; exact (hcn s s0 s1).1
    · rw [fp.hg s0 (hcn s s0 s1).2]
      have t := hH2.sum3 hW (fun _ x _ => b2 (x = s)) (b2_f (by omega))
      refine (k3 s s0 s1).trans ?_
      have t2 : rankC G2 (1 + 17) s 54 = hgW W s := t
      rw [t2]
/-- what a friend lends and has lent: as before, also where a loan ended -/
theorem Ended.sum {U U' : WT} {l f d m : Int} (q : Ended U' U l f d m) (hl : 0 ≤ l ∧ l < U 6) (h6 : U 6 ≤ 12) (hf : 0 ≤ f ∧ f < 3) (hd : 0 ≤ d ∧ d ≤ 9) {f' d' : Int} (f0 : 0 ≤ f') (f1 : f' < 3) (d0 : 0 ≤ d') (d1 : d' < 10) : friW U' f' (1 + d') + borW U' f' d' = friW U f' (1 + d') + borW U f' d' := by
  rw [q.bor hl h6 hf hd]
  by_cases cc : f' = f ∧ d' = d
  · rw [if_pos cc, cc.1, cc.2, q.2.2.1]; omega
  · rw [if_neg cc, q.fri0 hl h6 hf hd f0 f1 (by omega) (by omega) (by omega)]; omega
theorem hV_sum {V : WT} (F : FLr V (V 6)) {f' d' : Int} (f0 : 0 ≤ f') (f1 : f' < 3) (d0 : 0 ≤ d') (d1 : d' < 10) : ∀ k : Nat, (k : Int) ≤ V 6 → friW (hV V k) f' (1 + d') + borW (hV V k) f' d' = friW V f' (1 + d') + borW V f' d'
  | 0, _ => rfl
  | k + 1, hk => by
    obtain ⟨I1, I2, I3, I4, I5, I6⟩ := hV_inv F k (by omega)
    have ih := hV_sum F f0 f1 d0 d1 k (by omega)
    have hl0 : 0 ≤ V 6 - 1 - (k : Int) := by omega
    have h6 := I1.1
    have h4 := I1.2.1
    have lU := I1.2.2.2 (V 6 - 1 - (k : Int)) hl0 (by omega)
    by_cases c : loanW (hV V k) (V 6 - 1 - (k : Int)) 3 = 0
    · have eU : hV V (k + 1) = endW (hV V k) (V 6 - 1 - (k : Int)) := if_pos c
      have q : Ended (endW (hV V k) (V 6 - 1 - (k : Int))) (hV V k) (V 6 - 1 - (k : Int)) _ _ _ := endW_is rfl (by omega) rfl lU.2.1 rfl ⟨hl0, by omega⟩
      rw [eU, q.sum ⟨hl0, by omega⟩ h6.2 (by omega) lU.2.1 f0 f1 d0 d1]; exact ih
    · have eU : hV V (k + 1) = hV V k := if_neg c
      rw [eU]; exact ih
theorem held_sum (hW : WF j W) {f' d' : Int} (f0 : 0 ≤ f') (f1 : f' < 3) (d0 : 0 ≤ d') (d1 : d' < 10) : friW (heldW W) f' (1 + d') + borW (heldW W) f' d' = friW W f' (1 + d') + borW W f' d' := by
  have hlo := hW.lo
  have e6 : decW W 6 = W 6 := dec_out hlo.2 (by omega)
  have I := held_inv hW
  have s := hV_sum (dec_flr hW) f0 f1 d0 d1 (heldN W) (by unfold heldN; omega)
  have q1 : friW (heldW W) f' (1 + d') = friW (hV (decW W) (heldN W)) f' (1 + d') := held_n8 (by omega)
  have q2 : borW (heldW W) f' d' = borW (hV (decW W) (heldN W)) f' d' := rR_bor (held_n8 (by omega)) (fun k k0 k1 => held_n8 (by omega)) I.1.1.2
  have q3 : friW (decW W) f' (1 + d') = friW W f' (1 + d') := dec_out hlo.2 (by omega)
  rw [q1, q2, s, q3, dec_bor hW]
/-- W when the service was held -/
def holdW (W : WT) : WT := fellW (fallW (heldW W) (cntW (-1) (heldW W))) (heldW W)
def fallN (W : WT) : Int := sumZ (fun p => b2 (fallW (heldW W) (cntW (-1) (heldW W)) p)) 54
theorem d_giveBack {l : Int} (hW : WF j W) (hR : RepS G 1 W) (hg : RgC G) (a : 0 ≤ l ∧ l < W 6) (h : ∀ W' G2, (∀ k, k < 456 → k ≠ 6 → ¬ (51 ≤ k ∧ k < 132) → ¬ (276 ≤ k ∧ k < 438) → W' k = W k) → (∀ f' d', 0 ≤ f' → f' < 3 → 0 ≤ d' → d' < 10 → friW W' f' (1 + d') + borW W' f' d' = friW W f' (1 + d') + borW W f' d') → (∀ p, 0 ≤ p → p < 54 → plaW W' p 0 = -1 ∨ plaW W' p 0 = plaW W p 0) → Acted j W W' G G2 → ∀ r, Q r G2) : f_X9_giveBack l G Q X := by
  have hlo := hW.lo
  have hfr := hW.fr
  have e38 : G 3 8 = W 6 := hR.lo
  unfold f_X9_giveBack
  rw [e38]
  refine ⟨⟨by omega, by omega⟩, c_within (c_needI (fun _ => ?_) (fun q => absurd (show 0 ≤ l ∧ l ≤ W 6 - 1 by omega) q))⟩
  have ln := hW.ln l a.1 a.2
  have q : Ended (endW W l) W l (loanW W l 0) (loanW W l 1) (loanW W l 2) := endW_is rfl (by omega) rfl ln.2.1 rfl a
  have ou := q.out6 a hlo.2 (by omega) ln.2.1
  have oh : OutH (endW W l) W := fun k k0 k1 k2 k3 => ou k k0 k1 k3
  have fl : FLr (endW W l) 0 := q.flr hW.flr a (by omega) (Or.inl rfl)
  have e8 : endW W l 8 = W 8 := ou 8 (by omega) (by omega) (by omega)
  have h8 := hW.he
  refine c_keepC hW hR hg (fun G1 kc => ?_)
  have r1 := kc.rep1C hg hR
  refine RLo.ends r1.rl hW.flr a a.1 (fun s s0 s1 => cnt_rng hW ⟨s0, s1⟩) q (fun G2 o2 p2 rl => ?_)
  have r2 : RepS G2 1 (endW W l) := by
    refine oh.rep hW r1 (fun x x0 x1 x2 x3 => o2 x (by omega) (by omega) (by omega)) (fun k hk => by rw [o2 1 (by omega) (by omega) (by omega)]) (by rw [o2 1 (by omega) (by omega) (by omega), e8]; exact r1.he) (fun k hk => p2 k hk) rl.1 rl.2.2.1 (fun f f0 f1 => ⟨?_, fun d d0 d1 => rl.2.1 f d f0 f1 d0 d1⟩) (fun i i0 i1 => ?_)
    · have u4 : endW W l 4 = W 4 := ou 4 (by omega) (by omega) (by omega)
      rw [u4] at f1
      rw [q.fri0 a hlo.2 (by omega) ln.2.1 f0 (by omega) (by omega) (by omega) (by omega), o2 _ (by omega) (by omega) (by omega)]
      exact (r1.fd f f0 f1).1
    · have w := rl.2.2.2 i i0 i1
      rw [if_neg (by omega), Int.add_zero] at w
      exact w
  refine c_fallen hW oh fl (r1.hs.congr (fun x x1 x2 => o2 x (by omega) (by omega) (by omega))) r2 (fun G3 o3 r3 => ?_)
  have f7 := fellW_is (fallW (endW W l) (cntW (-1) (endW W l))) (endW W l)
  refine h _ G3 (fun k k0 k1 k2 k3 => (f7.1 k (by omega)).trans (ou k k0 k1 (by omega))) (fun f' d' f0 f1 d0 d1 => ?_) (fun p p0 p1 => ?_) ⟨G1, kc, fun x q1 _ => by rw [o3 x (by omega), o2 x (by omega) (by omega) (by omega)], fallen_wf hW (by omega) oh fl (by rw [e8]; omega) f7, r3 _ f7⟩ _
  · have q1 : friW (fellW (fallW (endW W l) (cntW (-1) (endW W l))) (endW W l)) f' (1 + d') = friW (endW W l) f' (1 + d') := f7.1 _ (by omega)
    have q2 : borW (fellW (fallW (endW W l) (cntW (-1) (endW W l))) (endW W l)) f' d' = borW (endW W l) f' d' := rR_bor (f7.1 6 (by omega)) (fun k k0 k1 => f7.1 k (by omega)) fl.1.2
    rw [q1, q2]; exact q.sum a hlo.2 (by omega) ln.2.1 f0 f1 d0 d1
  · rcases f7.same p p0 p1 with y | y
    · exact Or.inl y
    · have e9 : plaW (endW W l) p 0 = plaW W p 0 := ou _ (by omega) (by omega) (by omega)
      exact Or.inr (y.trans e9)
theorem d_hold (hj : j ≤ 1000) (hW : WF j W) (hR : RepS G 1 W) (hg : RgC G) (h0 : W 7 = -1 → Q (-3) G) (h : ∀ G2, W 7 ≠ -1 → Acted j W (holdW W) G G2 → Q (fallN W) G2) : f_X9_hold G Q := by
  have hlo := hW.lo
  have h8 := hW.he
  have e6 : decW W 6 = W 6 := dec_out hlo.2 (by omega)
  have e15 : G 15 0 = W 7 := hR.ha
  unfold f_X9_hold
  rw [e15]
  refine ⟨fun cc => ?_, fun cc => h0 cc⟩
  refine c_keepC hW hR hg (fun G1 kc => ?_)
  have r1 := kc.rep1C hg hR
  have e8 : G1 1 6 = W 8 := r1.he
  rw [e8]
  refine ⟨⟨by omega, by omega⟩, fun G2 e2 => ?_⟩
  have o2 : ∀ x, x ≠ 1 → G2 x = G1 x := fun x hx => by rw [e2, up_na hx]
  have rl : RLo G2 (decW W) (decW W 6) := by
    refine ⟨by rw [o2 3 (by omega), e6]; exact r1.lo, fun f d f0 f1 d0 d1 => ?_, fun s s0 s1 => ?_, fun l l0 l1 => ?_⟩
    · rw [dec_out hlo.2 (k := 4) (by omega)] at f1
      have hfr := hW.fr
      have e9 : friW (decW W) f (1 + d) = friW W f (1 + d) := dec_out hlo.2 (by omega)
      rw [o2 8 (by omega), e9]; exact (r1.fd f f0 f1).2 d d0 d1
    · rw [o2 6 (by omega), dec_cnt hW s0 s1]; exact r1.ct s s0 s1
    · rw [e6] at l1
      rw [o2 9 (by omega), o2 10 (by omega), o2 11 (by omega), dec_loan hlo.2 l0 l1 (by omega) (by omega), dec_loan hlo.2 l0 l1 (by omega) (by omega), dec_loan hlo.2 l0 l1 (by omega) (by omega), dec_loan hlo.2 l0 l1 (by omega) (by omega), if_neg (show ¬ (0 : Int) = 3 by omega), if_neg (show ¬ (1 : Int) = 3 by omega), if_neg (show ¬ (2 : Int) = 3 by omega), if_pos rfl, if_pos (by omega), Int.sub_add_cancel]
      exact r1.ln l l0 l1
  refine c_pass hW rl (fun G3 o3 p3 rl3 => ?_)
  have fl := held_flr hW
  have oh := held_out hW
  have I := held_inv hW
  have hU3 : hV (decW W) (heldN W) 3 ≤ 12 := by
    rw [I.2.2.2.1 3 (by omega) (by omega), dec_out hlo.2 (k := 3) (by omega)]; exact hW.ow.2
  have rl4 : RLo G3 (heldW W) 0 := rl3.of8 hU3 I.1.1.2 (fun k hk => held_n8 hk)
  have w8 : heldW W 8 = W 8 + 1 := if_pos rfl
  have o1 : ∀ k, k ≠ 6 → G3 1 k = G1 1 k := fun k hk => by rw [o3 1 (by omega) (by omega) (by omega), e2, upG_nk hk]
  have r2 : RepS G3 1 (heldW W) := by
    refine oh.rep hW r1 (fun x x0 x1 x2 x3 => by rw [o3 x (by omega) (by omega) (by omega), o2 x (by omega)]) (fun k hk => o1 k hk) (by rw [o3 1 (by omega) (by omega) (by omega), e2, upG_same, w8]) (fun k hk => by rw [p3 k hk, o2 3 (by omega)]) rl4.1 rl4.2.2.1 (fun f f0 f1 => ⟨?_, fun d d0 d1 => rl4.2.1 f d f0 f1 d0 d1⟩) (fun i i0 i1 => ?_)
    · have hfr := hW.fr
      have u4 : heldW W 4 = W 4 := oh 4 (by omega) (by omega) (by omega) (by omega)
      rw [u4] at f1
      have e9 : friW (heldW W) f 0 = friW W f 0 := by
        have q1 : friW (heldW W) f 0 = friW (hV (decW W) (heldN W)) f 0 := held_n8 (by omega)
        have q2 := I.2.2.2.2.2 f f0 (by omega)
        have q3 : friW (decW W) f 0 = friW W f 0 := dec_out hlo.2 (by omega)
        rw [q1, q2, q3]
      rw [e9, o3 _ (by omega) (by omega) (by omega), o2 _ (by omega)]
      exact (r1.fd f f0 f1).1
    · have w := rl4.2.2.2 i i0 i1
      rw [if_neg (by omega), Int.add_zero] at w
      exact w
  refine c_fallen hW oh fl (r1.hs.congr (fun x x1 x2 => by rw [o3 x (by omega) (by omega) (by omega), o2 x (by omega)])) r2 (fun G4 o4 r4 => ?_)
  have f7 : Fell _ (holdW W) (heldW W) := fellW_is (fallW (heldW W) (cntW (-1) (heldW W))) (heldW W)
  exact h G4 cc ⟨G1, kc, fun x q1 _ => by rw [o4 x (by omega), o3 x (by omega) (by omega) (by omega), o2 x (by omega)], fallen_wf hW (by omega) oh fl (by rw [w8]; omega) f7, r4 _ f7⟩
theorem d_hang {s : Int} (hj : j ≤ 1000) (hW : WF j W) (hR : RepS G 1 W) (hg : RgC G) (a : 0 ≤ s ∧ s < W 5) (h : ∀ G2, Acted j W (hngW (-1) W s) G G2 → Q (wkV (-1) W s) G2) : f_X9_hang s G Q X := by
  have al := hW.allR
  have h9 := hW.wo; have h10 := hW.hu; have h11 := hW.ou
  unfold f_X9_hang
  refine c_needService hW hR (fun _ => ?_) (fun q => absurd a q)
  have wr := wkV_rng (tf := -1) (W := W) (s := s) (x := 54) (by omega)
  have ew : sumZ (fun p => wk1 (plaW W p 0) (ddV (-1) W s p)) 54 = wkV (-1) W s := rfl
  rw [ew] at wr
  have rr : 0 ≤ rhV (-1) W s (allRW W) ∧ rhV (-1) W s (allRW W) ≤ 18 := by
    refine ⟨sumZ_ge (fun _ _ _ => b2_ge), ?_⟩
    have := sumZ_le (f := fun r => b2 (tkR (-1) W s r)) (c := 1) (x := allRW W) (by omega) (fun _ _ _ => b2_le)
    unfold rhV
    omega
  have ror : 0 ≤ roV (-1) W s (allRW W) ∧ roV (-1) W s (allRW W) ≤ 18 := by
    refine ⟨sumZ_ge (fun _ _ _ => b2_ge), ?_⟩
    have := sumZ_le (f := fun r => b2 (outR (-1) W s r)) (c := 1) (x := allRW W) (by omega) (fun _ _ _ => b2_le)
    unfold roV
    omega
  refine c_keepC hW hR hg (fun G1 kc => ?_)
  have r1 := kc.rep1C hg hR
  refine c_chooseRows (tf := -1) (Or.inl rfl) hW a (by omega) r1 (fun G2 m o2 ch => ?_)
  have r2 : RepS G2 1 W := r1.congr (fun x x0 x1 => o2 x (by omega) (by omega))
  refine c_chooseCards hW a r2 ch (fun G3 o3 f3 => c_workTo ?_)
  have pd3 : PlanD G3 218 (-1) W s (allRW W) := ch.2.1.congr (o3 _ (by omega) (by omega)) (o3 _ (by omega) (by omega))
  have h15 : HangS G3 15 W := r1.hs.congr (fun x x0 x1 => by rw [o3 x (by omega) (by omega), o2 x (by omega) (by omega)])
  rw [work_is hW h15 pd3]
  refine c_copy0 (Or.inl (by omega)) (fun G4 o4 _ c1 c2 c3 c4 c5 G5 e5 => ?_)
  have o41 : ∀ x, ¬ (208 ≤ x ∧ x ≤ 229) → ¬ (15 ≤ x ∧ x < 21) → G4 x = G1 x := fun x x0 x1 => by rw [o4 x x1, o3 x (by omega) (by omega), o2 x (by omega) (by omega)]
  have f208 : ∀ k, G4 208 k = G2 208 k := fun k => by rw [o4 208 (by omega), o3 208 (by omega) (by omega)]
  have a7 : G5 1 7 = W 9 := by rw [e5, up_na (by omega), o41 1 (by omega) (by omega)]; exact r1.wo
  rw [a7]
  refine ⟨⟨by omega, by omega⟩, fun G6 e6 => ?_⟩
  have a8 : G6 1 8 = W 10 := by rw [e6, upG_nk (by omega), e5, up_na (by omega), o41 1 (by omega) (by omega)]; exact r1.hu
  have b8 : G6 208 1 = rhV (-1) W s (allRW W) := by rw [e6, up_na (by omega), e5, up_na (by omega), f208]; exact ch.1.1
  rw [a8, b8]
  refine ⟨⟨by omega, by omega⟩, fun G7 e7 => ?_⟩
  have a9 : G7 1 9 = W 11 := by rw [e7, upG_nk (by omega), e6, upG_nk (by omega), e5, up_na (by omega), o41 1 (by omega) (by omega)]; exact r1.ou
  have b9 : G7 208 2 = roV (-1) W s (allRW W) := by rw [e7, up_na (by omega), e6, up_na (by omega), e5, up_na (by omega), f208]; exact ch.1.2.1
  rw [a9, b9]
  refine ⟨⟨by omega, by omega⟩, fun G8 e8 => ?_⟩
  have o8 : ∀ x, x ≠ 1 → x ≠ 15 → G8 x = G4 x := fun x x0 x1 => by rw [e8, up_na x0, e7, up_na x0, e6, up_na x0, e5, up_na x1]
  have rep8 : RepS G8 1 (hngW (-1) W s) := by
    refine hang_rep (G1 := G1) (G3 := G3) hW a r1 (plan_hs hW pd3 f3) f3 (fun x x0 x1 => by rw [o8 x (by omega) (by omega)]; exact o41 x (by omega) (by omega)) (fun k k7 k8 k9 => by rw [e8, upG_nk k9, e7, upG_nk k8, e6, upG_nk k7, e5, up_na (by omega), o41 1 (by omega) (by omega)]) ?_ ?_ (by rw [e8, upG_same]) ?_ (fun i hi => by rw [o8 16 (by omega) (by omega)]; exact c1 i hi) (fun i hi => by rw [o8 17 (by omega) (by omega)]; exact c2 i hi) (fun i hi => by rw [o8 18 (by omega) (by omega)]; exact c3 i hi) (fun i hi => by rw [o8 19 (by omega) (by omega)]; exact c4 i hi) (fun i hi => by rw [o8 20 (by omega) (by omega)]; exact c5 i hi)
    · rw [e8, upG_nk (by omega), e7, upG_nk (by omega), e6, upG_same]
    · rw [e8, upG_nk (by omega), e7, upG_same]
    · rw [e8, up_na (by omega), e7, up_na (by omega), e6, up_na (by omega), e5, upG_same]
  exact h G8 ⟨G1, kc, fun x q1 q2 => by rw [o8 x (by omega) (by omega), o41 x q2 (by omega)], hng_wf hW (by omega) a, rep8⟩
end PD
