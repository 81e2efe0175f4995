-- ===== p51, PURE LAYER: the acts: setHymn, addHymn, addCard, buy, borrow =====
section PC
variable {c : Nat → Nat} {j : Int} {G : GH} {W : WT} {Q : Int → GH → Prop} {X : String → GH → Prop}
theorem d_setHymn {s i v : Int} (hW : WF j W) (hR : RepS G 1 W) (hg : RgC G) (a : 0 ≤ s ∧ s < W 5) (i2 : inR i) (b : 1 ≤ v ∧ v ≤ 999) (h0 : ∀ r, Q r G) (h : ∀ W' G2, (∀ k, k < 456 → ¬ (132 ≤ k ∧ k < 276) → W' k = W k) → Acted j W W' G G2 → ∀ r, Q r G2) : f_X9_setHymn s i v G Q X := by
  have hse := hW.se
  unfold f_X9_setHymn
  refine c_needService hW hR (fun _ => c_needHymn (fun _ => ?_) (fun q => absurd b q)) (fun q => absurd a q)
  have sv := hW.sv s a.1 a.2
  refine c_hymnAt (a := 1) hW hR a i2 ?_
  by_cases cc : 0 ≤ i ∧ i < servW W s 0
  · rw [if_pos cc]
    have old := sv.2 i cc.1 cc.2
    refine ⟨fun _ => c_keepC hW hR hg (fun G1 kc => ⟨by omega, fun G2 e2 => ?_⟩), fun c2 => by omega⟩
    have r1 := kc.rep1C hg hR
    have w5 : ∀ k, k ≠ ((132 + (9 * s)) + (1 + i)).toNat → upW W ((132 + (9 * s)) + (1 + i)).toNat v k = W k := fun k hk => upW_ne hk
    have w5v : upW W ((132 + (9 * s)) + (1 + i)).toNat v ((132 + (9 * s)) + (1 + i)).toNat = v := upW_eq
    generalize hW' : upW W ((132 + (9 * s)) + (1 + i)).toNat v = W' at w5 w5v
    have sv0 : ∀ t, 0 ≤ t → t < 16 → servW W' t 0 = servW W t 0 := fun t t0 t1 => w5 _ (by omega)
    refine h W' G2 (fun k _ k2 => w5 k (by omega)) ⟨G1, kc, fun x q1 _ => by rw [e2, up_na (by omega)], ?_, ?_⟩ _
    · refine OutS.wf (W := W) (fun k k0 k1 k2 => w5 k (by omega)) hW (by omega) (by rw [w5 5 (by omega)]; exact hse) (fun t t0 t1 => ?_)
      rw [w5 5 (by omega)] at t1
      have st := hW.sv t t0 t1
      rw [sv0 t t0 (by omega)]
      refine ⟨st.1, fun x x0 x1 => ?_⟩
      by_cases c3 : t = s ∧ x = i
      · rw [c3.1, c3.2]
        show 1 ≤ W' ((132 + (9 * s)) + (1 + i)).toNat ∧ W' ((132 + (9 * s)) + (1 + i)).toNat ≤ 999
        rw [w5v]; exact b
      · have : servW W' t (1 + x) = servW W t (1 + x) := w5 _ (by omega)
        rw [this]; exact st.2 x x0 x1
    · refine OutS.rep (W := W) (fun k k0 k1 k2 => w5 k (by omega)) hW r1 (fun x x0 x1 x2 x3 x4 => by rw [e2, up_na (by omega)]) (by rw [e2, up_na (by omega), w5 5 (by omega)]; exact r1.se) (fun t t0 t1 => ?_)
      rw [w5 5 (by omega)] at t1
      have st := hW.sv t t0 t1
      have rt := r1.sv t t0 t1
      rw [sv0 t t0 (by omega)]
      refine ⟨by rw [e2, up_na (by omega)]; exact rt.1, fun x x0 x1 => ?_⟩
      by_cases c3 : t = s ∧ x = i
      · rw [c3.1, c3.2, e2]
        show upG G1 14 ((s * 8) + i).toNat v 14 ((s * 8) + i).toNat = W' ((132 + (9 * s)) + (1 + i)).toNat
        rw [upG_same, w5v]
      · have : servW W' t (1 + x) = servW W t (1 + x) := w5 _ (by omega)
        rw [this, e2]
        show upG G1 14 ((s * 8) + i).toNat v 14 ((t * 8) + x).toNat = _
        rw [upG_nk (by omega)]; exact rt.2 x x0 x1
  · rw [if_neg cc]
    exact ⟨fun c2 => absurd rfl c2, fun _ => h0 _⟩
theorem d_addHymn {s v : Int} (hW : WF j W) (hR : RepS G 1 W) (hg : RgC G) (a : 0 ≤ s ∧ s < W 5) (b : 1 ≤ v ∧ v ≤ 999) (h0 : ∀ r, Q r G) (h : ∀ W' G2, (∀ k, k < 456 → ¬ (132 ≤ k ∧ k < 276) → W' k = W k) → Acted j W W' G G2 → ∀ r, Q r G2) : f_X9_addHymn s v G Q X := by
  have hse := hW.se
  unfold f_X9_addHymn
  refine c_needService hW hR (fun _ => c_needHymn (fun _ => ?_) (fun q => absurd b q)) (fun q => absurd a q)
  have sv := hW.sv s a.1 a.2
  have e13 : G 13 s.toNat = servW W s 0 := (hR.sv s a.1 a.2).1
  refine ⟨by omega, fun cc => ?_, fun cc => h0 _⟩
  rw [e13] at cc
  refine c_keepC hW hR hg (fun G1 kc => ?_)
  have r1 := kc.rep1C hg hR
  refine c_lengthen (len := servW W s 0) (by omega) (r1.sv s a.1 a.2).1 (by omega) (fun G2 o2 x1 x2 x3 x4 => ?_)
  obtain ⟨W', w5', v5, u5⟩ : ∃ W' : WT, (∀ k, k ≠ ((132 + (9 * s)) + 0).toNat → k ≠ ((132 + (9 * s)) + (1 + servW W s 0)).toNat → W' k = W k) ∧ servW W' s 0 = servW W s 0 + 1 ∧ servW W' s (1 + servW W s 0) = v := by
    refine ⟨upW (upW W ((132 + (9 * s)) + 0).toNat (servW W s 0 + 1)) ((132 + (9 * s)) + (1 + servW W s 0)).toNat v, fun k k0 k1 => by rw [upW_ne k1, upW_ne k0], ?_, upW_eq⟩
    show upW _ _ _ ((132 + (9 * s)) + 0).toNat = _
    rw [upW_ne (by omega)]; exact upW_eq
  refine h W' G2 (fun k _ k2 => w5' k (by omega) (by omega)) ⟨G1, kc, fun x q1 _ => o2 x (by omega) (by omega), ?_, ?_⟩ _
  · refine OutS.wf (W := W) (fun k k0 k1 k2 => w5' k (by omega) (by omega)) hW (by omega) (by rw [w5' 5 (by omega) (by omega)]; exact hse) (fun t t0 t1 => ?_)
    rw [w5' 5 (by omega) (by omega)] at t1
    have st := hW.sv t t0 t1
    by_cases ct : t = s
    · rw [ct, v5]
      refine ⟨by omega, fun x x0 x1 => ?_⟩
      by_cases cx : x = servW W s 0
      · rw [cx, u5]; exact b
      · have : servW W' s (1 + x) = servW W s (1 + x) := w5' _ (by omega) (by omega)
        rw [this]; exact sv.2 x x0 (by omega)
    · have e0 : servW W' t 0 = servW W t 0 := w5' _ (by omega) (by omega)
      rw [e0]
      refine ⟨st.1, fun x x0 x1 => ?_⟩
      have : servW W' t (1 + x) = servW W t (1 + x) := w5' _ (by omega) (by omega)
      rw [this]; exact st.2 x x0 x1
  · refine OutS.rep (W := W) (fun k k0 k1 k2 => w5' k (by omega) (by omega)) hW r1 (fun x x0 x1 x2 x3 x4 => o2 x (by omega) (by omega)) (by rw [o2 12 (by omega) (by omega), w5' 5 (by omega) (by omega)]; exact r1.se) (fun t t0 t1 => ?_)
    rw [w5' 5 (by omega) (by omega)] at t1
    have st := hW.sv t t0 t1
    have rt := r1.sv t t0 t1
    by_cases ct : t = s
    · rw [ct, v5]
      refine ⟨x2, fun x x0 x1 => ?_⟩
      by_cases cx : x = servW W s 0
      · rw [cx, u5]; exact x4
      · have : servW W' s (1 + x) = servW W s (1 + x) := w5' _ (by omega) (by omega)
        rw [this]
        rw [ct] at rt
        exact (x3 _ (by omega)).trans (rt.2 x x0 (by omega))
    · have e0 : servW W' t 0 = servW W t 0 := w5' _ (by omega) (by omega)
      rw [e0]
      refine ⟨(x1 _ (by omega)).trans rt.1, fun x x0 x1 => ?_⟩
      have : servW W' t (1 + x) = servW W t (1 + x) := w5' _ (by omega) (by omega)
      rw [this]
      exact (x3 _ (by omega)).trans (rt.2 x x0 x1)
theorem d_addCard {d e m : Int} (hW : WF j W) (hR : RepS G 1 W) (hg : RgC G) (a1 : 0 ≤ d ∧ d ≤ 9) (a2 : -1 ≤ e ∧ e ≤ 9) (a3 : 0 ≤ m ∧ m ≤ 60) (h0 : ∀ r, Q r G) (h : ∀ W' G2, (∀ k, k < 456 → k ≠ 3 → ¬ (15 ≤ k ∧ k < 51) → W' k = W k) → W' 3 = W 3 + 1 → Acted j W W' G G2 → ∀ r, Q r G2) : f_X9_addCard d e m G Q X := by
  have how := hW.ow
  have e31 : G 3 1 = W 3 := hR.ow
  unfold f_X9_addCard
  refine c_needDigit (fun _ => c_within (c_needA (fun _ => c_within (c_needA (fun _ => ⟨fun cc => ?_, fun cc => h0 _⟩) (fun q => absurd a3 q))) (fun q => absurd a2 q))) (fun q => absurd a1 q)
  rw [e31] at cc
  refine c_keepC hW hR hg (fun G1 kc => ?_)
  have r1 := kc.rep1C hg hR
  refine c_addSort (c := W 3) r1.ow (by omega) (fun G2 o2 p2 p21 q2 v2 => ?_)
  obtain ⟨W', w5, w53, v5⟩ : ∃ W' : WT, (∀ k, k ≠ 3 → ¬ ((15 + 3 * W 3).toNat ≤ k ∧ k < (15 + 3 * W 3).toNat + 3) → W' k = W k) ∧ W' 3 = W 3 + 1 ∧ (cardW W' (W 3) 0 = d ∧ cardW W' (W 3) 1 = e ∧ cardW W' (W 3) 2 = m) := by
    refine ⟨upW (upW (upW (upW W 3 (W 3 + 1)) ((15 + (3 * W 3)) + 0).toNat d) ((15 + (3 * W 3)) + 1).toNat e) ((15 + (3 * W 3)) + 2).toNat m, fun k k0 k1 => ?_, ?_, ?_, ?_, upW_eq⟩
    · rw [upW_ne (by omega), upW_ne (by omega), upW_ne (by omega), upW_ne k0]
    · rw [upW_ne (by omega), upW_ne (by omega), upW_ne (by omega), upW_eq]
    · show upW _ _ _ ((15 + (3 * W 3)) + 0).toNat = _
      rw [upW_ne (by omega), upW_ne (by omega), upW_eq]
    · show upW _ _ _ ((15 + (3 * W 3)) + 1).toNat = _
      rw [upW_ne (by omega), upW_eq]
  obtain ⟨wf, oc, cd, ct⟩ := came_wf (n' := j + 1) hW (by omega) (by omega) (fun k _ k1 k2 => w5 k k1 k2) w53 a1 a2 a3 v5
  refine h W' G2 (fun k _ k1 k2 => w5 k k1 (by omega)) w53 ⟨G1, kc, fun x q1 _ => o2 x (by omega) (by omega) (by omega) (by omega), wf, ?_⟩ _
  refine oc.rep hW r1 (fun x x0 x1 x2 x3 x4 x5 => o2 x (by omega) (by omega) (by omega) (by omega)) (fun k hk => p2 k hk) (by rw [w53]; exact p21) (fun k k0 k1 => ?_) (fun s s0 s1 => ?_)
  · rw [w53] at k1
    by_cases ck : k = W 3
    · rw [ck, v5.1, v5.2.1]; exact ⟨v2.1, v2.2.1⟩
    · have rk := r1.ca k k0 (by omega)
      rw [cd k 0 k0 (by omega) (by omega) (by omega), cd k 1 k0 (by omega) (by omega) (by omega)]
      exact ⟨(q2 _ (by omega)).1.trans rk.1, (q2 _ (by omega)).2.1.trans rk.2⟩
  · rw [ct s s0 s1]
    by_cases cs : s = W 3
    · rw [if_pos cs, cs]; exact v2.2.2
    · rw [if_neg cs]; exact (q2 _ (by omega)).2.2.trans (r1.ct s s0 s1)
theorem d_buy {k9 m : Int} (hW : WF j W) (hR : RepS G 1 W) (hg : RgC G) (a : 0 ≤ k9 ∧ k9 < W 3) (b : 1 ≤ m ∧ m ≤ 60) (h0 : ∀ r, Q r G) (h : ∀ W' G2, (∀ k, k < 456 → k ≠ ((15 + (3 * k9)) + 2).toNat → W' k = W k) → Acted j W W' G G2 → ∀ r, Q r G2) : f_X9_buy k9 m G Q X := by
  have how := hW.ow
  unfold f_X9_buy
  refine c_needOwn hW hR (fun _ => c_needMany (fun _ => ?_) (fun q => absurd b q)) (fun q => absurd a q)
  have ca := hW.ca k9 a.1 a.2
  have ec : cntW (-1) W k9 = cardW W k9 2 := by rw [cnt_own a.1 (by omega), if_pos a.2]
  have e6 : G 6 k9.toNat = cardW W k9 2 := (hR.ct k9 a.1 (by omega)).trans ec
  rw [e6]
  refine ⟨by omega, ⟨by omega, by omega⟩, fun b2 => ?_, fun b2 => h0 _⟩
  refine c_keepC hW hR hg (fun G1 kc => ?_)
  have r1 := kc.rep1C hg hR
  have e61 : G1 6 k9.toNat = cardW W k9 2 := (r1.ct k9 a.1 (by omega)).trans ec
  rw [e61]
  refine ⟨⟨by omega, by omega⟩, fun G2 e2 => ?_⟩
  have e62 : G2 6 k9.toNat = cardW W k9 2 + m := by rw [e2, upG_same]
  obtain ⟨W', hW'⟩ : ∃ W' : WT, W' = upW W ((15 + (3 * k9)) + 2).toNat (cardW W k9 2 + m) := ⟨_, rfl⟩
  have ci : CntIs W' W k9 (cardW W k9 2 + m) := ⟨fun k _ k1 => by rw [hW', upW_ne k1], by rw [hW']; exact upW_eq⟩
  obtain ⟨oc, o3, cd, ct⟩ := ci.facts hW a
  refine h W' G2 (fun k q0 q1 => ci.1 k q0 q1) ⟨G1, kc, fun x q1 _ => by rw [e2, up_na (by omega)], ?_, ?_⟩ _
  · refine oc.wf hW (by omega) (by rw [o3]; exact how) (fun k k0 k1 => ?_) (fun s s0 s1 => ?_)
    · rw [o3] at k1
      have ck := hW.ca k k0 k1
      rw [cd k 0 k0 (by omega) (by omega) (by omega), cd k 1 k0 (by omega) (by omega) (by omega)]
      refine ⟨ck.1, ck.2.1, ?_⟩
      by_cases c3 : k = k9
      · rw [c3, ci.2]; omega
      · have : cardW W' k 2 = cardW W k 2 := ci.1 _ (by omega) (by omega)
        rw [this]; exact ck.2.2
    · rw [ct s s0 s1]
      have := hW.hc s s0 s1
      by_cases c3 : s = k9
      · rw [if_pos c3]
        rw [c3, ec] at this
        rw [c3]; omega
      · rw [if_neg c3]; exact this
  · have r2 : ∀ x, x ≠ 6 → G2 x = G1 x := fun x hx => by rw [e2, up_na hx]
    refine oc.rep hW r1 (fun x x0 x1 x2 x3 x4 x5 => r2 x (by omega)) (fun k hk => by rw [r2 _ (by omega)]) (by rw [o3, r2 _ (by omega)]; exact r1.ow) (fun k k0 k1 => ?_) (fun s s0 s1 => ?_)
    · rw [o3] at k1
      rw [cd k 0 k0 (by omega) (by omega) (by omega), cd k 1 k0 (by omega) (by omega) (by omega), r2 _ (by omega), r2 _ (by omega)]
      exact r1.ca k k0 k1
    · rw [ct s s0 s1]
      by_cases c3 : s = k9
      · rw [if_pos c3, c3]; exact e62
      · rw [if_neg c3, e2]
        show upG G1 6 k9.toNat _ 6 s.toNat = _
        rw [upG_nk (by omega)]; exact r1.ct s s0 s1
theorem d_borrow {f d m : Int} (hW : WF j W) (hR : RepS G 1 W) (hg : RgC G) (a : 0 ≤ f ∧ f < W 4) (b1 : 0 ≤ d ∧ d ≤ 9) (b2' : 1 ≤ m ∧ m ≤ 60) (h0 : ∀ r, Q r G) (h : ∀ W' G2, Lent W' W f d m → W 6 < 12 → Acted j W W' G G2 → ∀ r, Q r G2) : f_X9_borrow f d m G Q X := by
  have hfr := hW.fr
  have hlo := hW.lo
  have e38 : G 3 8 = W 6 := hR.lo
  unfold f_X9_borrow
  refine c_needFriend hW hR (fun _ => c_needDigit (fun _ => c_needMany (fun _ => ?_) (fun q => absurd b2' q)) (fun q => absurd b1 q)) (fun q => absurd a q)
  have e8 : G 8 ((f * 10) + d).toNat = friW W f (1 + d) := (hR.fd f a.1 a.2).2 d b1.1 (by omega)
  have fdd := (hW.fd f a.1 a.2).2 d b1.1 (by omega)
  have fd0 := (hW.fd f a.1 a.2).1
  have bor0 : 0 ≤ borW W f d := (hW.loan_rng (f := f) (d := d) hlo.1 (Int.le_refl _)).1
  rw [e8, e38]
  refine ⟨⟨by omega, by omega⟩, fun cc => ⟨fun c2 => ?_, fun c2 => h0 _⟩, fun cc => h0 _⟩
  refine c_keepC hW hR hg (fun G1 kc => ⟨⟨by omega, by omega⟩, ?_⟩)
  have r1 := kc.rep1C hg hR
  have e81 : G1 8 ((f * 10) + d).toNat = friW W f (1 + d) := (r1.fd f a.1 a.2).2 d b1.1 (by omega)
  have cr := cnt_rng hW (s := 12 + (f * 10 + d)) (by omega)
  have e61 : G1 6 (12 + (f * 10 + d)).toNat = cntW (-1) W (12 + (f * 10 + d)) := r1.ct _ (by omega) (by omega)
  have e71 : G1 7 (((f * 10) + d) / 10).toNat = friW W f 0 := by
    rw [show ((f * 10) + d) / 10 = f by omega]; exact (r1.fd f a.1 a.2).1
  refine c_makeLoan (a0 := 3) (k := (f * 10) + d) (by omega) e81 e61 r1.lo (by omega) e71 ⟨by omega, by omega⟩ ⟨by omega, by omega⟩ (fun G2 o2 p2 p28 q2 q2v s2 s2v l2 l2v => ?_)
  obtain ⟨W', lent⟩ : ∃ W' : WT, Lent W' W f d m := by
    refine ⟨upW (upW (upW (upW (upW (upW W ((51 + (11 * f)) + (1 + d)).toNat (friW W f (1 + d) - m)) ((84 + (4 * W 6)) + 0).toNat f) ((84 + (4 * W 6)) + 1).toNat d) ((84 + (4 * W 6)) + 2).toNat m) ((84 + (4 * W 6)) + 3).toNat (friW W f 0)) 6 (W 6 + 1), fun k k0 k1 k2 k3 => ?_, upW_eq, ?_, ?_, ?_, ?_, ?_⟩
    · rw [upW_ne k1, upW_ne (by omega), upW_ne (by omega), upW_ne (by omega), upW_ne (by omega), upW_ne k2]
    · show upW _ _ _ ((51 + (11 * f)) + (1 + d)).toNat = _
      rw [upW_ne (by omega), upW_ne (by omega), upW_ne (by omega), upW_ne (by omega), upW_ne (by omega), upW_eq]
    · show upW _ _ _ ((84 + (4 * W 6)) + 0).toNat = _
      rw [upW_ne (by omega), upW_ne (by omega), upW_ne (by omega), upW_ne (by omega), upW_eq]
    · show upW _ _ _ ((84 + (4 * W 6)) + 1).toNat = _
      rw [upW_ne (by omega), upW_ne (by omega), upW_ne (by omega), upW_eq]
    · show upW _ _ _ ((84 + (4 * W 6)) + 2).toNat = _
      rw [upW_ne (by omega), upW_ne (by omega), upW_eq]
    · show upW _ _ _ ((84 + (4 * W 6)) + 3).toNat = _
      rw [upW_ne (by omega), upW_eq]
  obtain ⟨wf, ol, ct⟩ := lent.facts (n' := j + 1) hW (by omega) a b1 b2' cc (by omega)
  refine h W' G2 lent (by omega) ⟨G1, kc, fun x q1 _ => o2 x (by omega) (by omega) (by omega), wf, ?_⟩ _
  have w4e : W' 4 = W 4 := ol 4 (by omega) (by omega) (by omega)
  refine ol.rep hW r1 (fun x x0 x1 x2 x3 => ?_) (fun k hk => p2 k hk) (by rw [lent.six]; exact p28) (fun s s0 s1 => ?_) (fun f' f0 f1 => ?_) (fun l l0 l1 => ?_)
  · by_cases cx : x = 6
    · omega
    · exact o2 x (by omega) (by omega) (by omega)
  · rw [ct s s0 s1]
    by_cases cs : s = 12 + (f * 10 + d)
    · rw [if_pos cs, cs]; exact s2v
    · rw [if_neg cs, Int.add_zero]; exact (s2 _ (by omega)).trans (r1.ct s s0 s1)
  · rw [w4e] at f1
    have rf := r1.fd f' f0 f1
    have ff0 : friW W' f' 0 = friW W f' 0 := lent.out _ (by omega) (by omega) (by omega) (by omega)
    rw [ff0]
    refine ⟨by rw [o2 7 (by omega) (by omega) (by omega)]; exact rf.1, fun d' d0 d1 => ?_⟩
    by_cases cf : f' = f ∧ d' = d
    · rw [cf.1, cf.2, lent.fri]; exact q2v
    · have : friW W' f' (1 + d') = friW W f' (1 + d') := lent.out _ (by omega) (by omega) (by omega) (by omega)
      rw [this]; exact (q2 _ (by omega)).trans (rf.2 d' d0 d1)
  · rw [lent.six] at l1
    by_cases cl : l = W 6
    · rw [cl, lent.lo0, lent.lo1, lent.lo2, lent.lo3]; exact l2v
    · have rl := r1.ln l l0 (by omega)
      have z := l2 l.toNat (by omega)
      rw [lent.old (by omega) b1 (by omega) l0 (by omega) (by omega) (by omega), lent.old (by omega) b1 (by omega) l0 (by omega) (by omega) (by omega), lent.old (by omega) b1 (by omega) l0 (by omega) (by omega) (by omega), lent.old (by omega) b1 (by omega) l0 (by omega) (by omega) (by omega)]
      exact ⟨z.1.trans rl.1, z.2.1.trans rl.2.1, z.2.2.trans rl.2.2⟩
end PC
