-- ===== PURE LAYER: lose =====
section A10
variable {j : Nat} {G : GH} {K : GH → Prop} {L : Nat} {xs : Nat → Int32} {i4 : Int}
theorem arm_33 (h : Rel j G) (hK : ∀ G', Rel (j + 1) G' → K G') (hL : 0 ≤ i4 ∧ i4 + 5 ≤ L) : f_law_33 L xs i4 G K := by
  refine ⟨⟨by omega, by omega⟩, ⟨by omega, by omega⟩, ?_⟩
  generalize (xs ((i4 + 1)).toNat).toInt = c
  generalize (xs ((i4 + 2)).toNat).toInt = m
  have hW := h.wf
  have hR := h.rp
  have how := hW.ow
  unfold f_L_lose f_X9_lose
  refine c_needOwn hW hR (fun a => c_needMany (fun b => ?_) (fun b => Or.inr ⟨rfl, ?_⟩)) (fun a => Or.inl ⟨rfl, ?_⟩)
  · have ca := hW.ca c a.1 a.2
    have ec : cntW (-1) (G 273) c = cardW (G 273) c 2 := by rw [cnt_own a.1 (by omega), if_pos a.2]
    have e6 : G 6 c.toNat = cardW (G 273) c 2 := (hR.ct c a.1 (by omega)).trans ec
    rw [e6]
    refine ⟨by omega, fun bm => ?_, fun bm => ?_⟩
    · refine c_keep hW hR h.hi (fun G1 kc => ?_)
      have r1 := kc.rep1 h.hi hR
      have e61 : G1 6 c.toNat = cardW (G 273) c 2 := (r1.ct c a.1 (by omega)).trans ec
      rw [e61]
      refine ⟨⟨by omega, by omega⟩, fun G2 e2 => ?_⟩
      have r2 : ∀ x, x ≠ 6 → G2 x = G1 x := fun x hx => by rw [e2, up_na hx]
      have hH2 : HangS G2 15 (G 273) := r1.hs.congr (fun x x1 x2 => r2 x (by omega))
      have hcn : ∀ s : Int, 0 ≤ s → s < 42 → G2 6 s.toNat = (if s = c then cardW (G 273) c 2 - m else cntW (-1) (G 273) s) ∧ 0 ≤ (if s = c then cardW (G 273) c 2 - m else cntW (-1) (G 273) s) := fun s s0 s1 => by
        by_cases q : s = c
        · rw [if_pos q, q, e2, upG_same]; omega
        · rw [if_neg q, e2, upG_nk (by omega)]
          exact ⟨r1.ct s s0 s1, (cnt_rng hW ⟨s0, s1⟩).1⟩
      refine c_tooMany (a := 1) (c := fun s => if s = c then cardW (G 273) c 2 - m else cntW (-1) (G 273) s) (fun P P0 P1 => hH2.rng hW P0 P1) (fun s s0 s1 => ?_) hcn (fun G3 o3 g3 k3 G4 e4 => ?_)
      · have t := hH2.sum3 hW (fun _ x _ => b2 (x = s)) (b2_f (by omega))
        rw [r2 _ (by omega)]
        exact (r1.hg s s0 s1).trans t.symm
      · rw [hH2.falls_sum hW (a := 1) rfl] at e4
        have m4 : G4 273 = G 273 := by rw [e4, up_na (by omega), o3 273 (by omega), e2, up_na (by omega), kc.row h.hi (by omega)]
        have t4 : G4 272 = G 272 := by rw [e4, up_na (by omega), o3 272 (by omega), e2, up_na (by omega), kc.row h.hi (by omega)]
        have mm : MV G4 (G 273) := ⟨m4, by rw [t4]; exact h.2.2.1⟩
        refine mv_noOwn mm hW (fun _ => z01' (p10_in (p10_th (fun _ => z01 (p10_cardAt (by omega) (by omega) ?_)) (fun c2 => absurd b c2)))) (fun c2 => absurd (show 0 ≤ c ∧ c ≤ G 273 3 - 1 by omega) c2)
        have wm : (upG G4 272 0 0) 273 = G 273 := by rw [up_na (by omega), m4]
        have g6 : (upG G4 272 0 0) 272 6 = G 272 6 := by rw [upG_nk (by omega), t4]
        rw [wm]
        have e9 : G 273 ((15 + (3 * c)) + 2).toNat = cardW (G 273) c 2 := rfl
        rw [e9]
        refine ⟨⟨by omega, by omega⟩, ⟨by omega, by omega⟩, fun _ => m_keeps (by rw [g6]; exact h.hi.1) (fun G5 km => p10_cardAt (by omega) (by omega) ⟨⟨by omega, by omega⟩, fun G6 e6' => ?_⟩), fun c2 => by omega⟩
        have w5 : G5 273 = G 273 := by rw [km.w, wm]
        have ci : CntIs (G6 273) (G 273) c (cardW (G 273) c 2 - m) := ⟨fun k _ k1 => by rw [e6', upG_nk k1, w5], by rw [e6']; exact upG_same _ _ _ _⟩
        obtain ⟨oc, o63, cd, ct⟩ := ci.facts hW a
        have el : EqR 84 132 (G6 273) (G 273) := fun k q0 q1 => oc k (by omega) (by omega) (by omega)
        have ep : EqR 276 438 (G6 273) (G 273) := fun k q0 q1 => oc k (by omega) (by omega) (by omega)
        have lb : LoB (G6 273) := by
          have b1 := hW.loB
          have e66 : G6 273 6 = G 273 6 := oc 6 (by omega) (by omega) (by omega)
          refine ⟨by rw [e66]; exact b1.1, fun l l0 l1 => ?_⟩
          rw [e66] at l1
          have := b1.1
          rw [rR_loan el l0 (by omega) (by omega) (by omega)]; exact b1.2 l l0 l1
        have ec6 : cntW (-1) (G6 273) c = cardW (G 273) c 2 - m := by rw [ct c a.1 (by omega), if_pos rfl]
        have pe : ∀ p h9 : Int, 0 ≤ p → p < 54 → 0 ≤ h9 → h9 < 3 → plaW (G6 273) p h9 = plaW (G 273) p h9 := fun p h9 q0 q1 q2 q3 => rR_pla ep q0 q1 q2 q3
        have rk6 : ∀ p, p ≤ 54 → rankW (G6 273) c p = rankW (G 273) c p := fun p p1 => sumZ_congr (fun i i0 i1 => by rw [pe i 1 i0 (by omega) (by omega) (by omega)])
        -- the class's falls are those of the sort c
        have fiff : ∀ p, 0 ≤ p → p < 54 → (fallW (G 273) (fun s => if s = c then cardW (G 273) c 2 - m else cntW (-1) (G 273) s) p ↔ plaW (G 273) p 1 = c ∧ cardW (G 273) c 2 - m ≤ rankW (G 273) c p) := fun p p0 p1 => by
          constructor
          · rintro ⟨q1, q2⟩
            by_cases z : plaW (G 273) p 1 = c
            · have q2' : (if plaW (G 273) p 1 = c then cardW (G 273) c 2 - m else cntW (-1) (G 273) (plaW (G 273) p 1)) ≤ rankW (G 273) (plaW (G 273) p 1) p := q2
              rw [if_pos z, z] at q2'
              exact ⟨z, q2'⟩
            · have q2' : (if plaW (G 273) p 1 = c then cardW (G 273) c 2 - m else cntW (-1) (G 273) (plaW (G 273) p 1)) ≤ rankW (G 273) (plaW (G 273) p 1) p := q2
              rw [if_neg z] at q2'
              have := hW.enough p0 p1 q1
              omega
          · rintro ⟨q1, q2⟩
            refine ⟨by omega, ?_⟩
            show (if plaW (G 273) p 1 = c then cardW (G 273) c 2 - m else cntW (-1) (G 273) (plaW (G 273) p 1)) ≤ rankW (G 273) (plaW (G 273) p 1) p
            rw [if_pos q1, q1]; exact q2
        have esum : sumZ (fun p => b2 (fallW (G 273) (fun s => if s = c then cardW (G 273) c 2 - m else cntW (-1) (G 273) s) p)) 54 = max 0 (hgW (G6 273) c - (cardW (G 273) c 2 - m)) := by
          rw [sumZ_congr (fun p p0 p1 => b2_iff (fiff p p0 p1)), max0_sumZ (by omega), show hgW (G6 273) c = rankW (G6 273) c 54 from rfl, rk6 54 (by omega)]
        refine m_falls lb ⟨a.1, by omega⟩ ec6 (by omega) (fun G7 o7 f7 => ?_)
        have fp : FellP (fallW (G 273) (fun s => if s = c then cardW (G 273) c 2 - m else cntW (-1) (G 273) s)) (G7 273) (G 273) := fun p p0 p1 => by
          have z := f7.2 p p0 p1
          rw [pe p 0 p0 p1 (by omega) (by omega), pe p 1 p0 p1 (by omega) (by omega), pe p 2 p0 p1 (by omega) (by omega)] at z
          have eq2 : (fun p => plaW (G6 273) p 1 = c ∧ cardW (G 273) c 2 - m ≤ rankW (G6 273) c p) p ↔ fallW (G 273) (fun s => if s = c then cardW (G 273) c 2 - m else cntW (-1) (G 273) s) p := by
            show (plaW (G6 273) p 1 = c ∧ cardW (G 273) c 2 - m ≤ rankW (G6 273) c p) ↔ _
            rw [pe p 1 p0 p1 (by omega) (by omega), rk6 p (by omega)]
            exact (fiff p p0 p1).symm
          exact ⟨fun y => z.1 (eq2.mpr y), fun y => z.2 (fun y2 => y (eq2.mp y2))⟩
        have w7 : ∀ k, k < 276 ∨ 438 ≤ k → G7 273 k = G6 273 k := fun k hk => f7.1 k hk
        have w7o : ∀ k, k < 456 → k ≠ 3 → ¬ (15 ≤ k ∧ k < 51) → ¬ (276 ≤ k ∧ k < 438) → G7 273 k = G 273 k := fun k k0 k1 k2 k3 => (w7 k (by omega)).trans (oc k k0 k1 k2)
        have w73 : G7 273 3 = G 273 3 := (w7 3 (by omega)).trans o63
        have cd7 : ∀ k h9 : Int, 0 ≤ k → k < 12 → 0 ≤ h9 → h9 < 3 → cardW (G7 273) k h9 = cardW (G6 273) k h9 := fun k h9 k0 k1 h0 h1 => w7 _ (by omega)
        have ct7 : ∀ s, 0 ≤ s → s < 42 → cntW (-1) (G7 273) s = if s = c then cardW (G 273) c 2 - m else cntW (-1) (G 273) s := fun s s0 s1 => by
          rw [← ct s s0 s1]
          have lo := hW.lo
          have e66 : G6 273 6 = G 273 6 := oc 6 (by omega) (by omega) (by omega)
          exact rR_cnt (w7 3 (by omega)) (fun k q0 q1 => w7 k (by omega)) (w7 6 (by omega)) (fun k q0 q1 => w7 k (by omega)) (by rw [o63]; exact how.2) (by rw [e66]; exact lo.2) s0
        have er7 : EqR 12 15 (G7 273) (G 273) := fun k q0 q1 => w7o k (by omega) (by omega) (by omega) (by omega)
        have ef7 : EqR 51 84 (G7 273) (G 273) := fun k q0 q1 => w7o k (by omega) (by omega) (by omega) (by omega)
        have el7 : EqR 84 132 (G7 273) (G 273) := fun k q0 q1 => w7o k (by omega) (by omega) (by omega) (by omega)
        have es7 : EqR 132 276 (G7 273) (G 273) := fun k q0 q1 => w7o k (by omega) (by omega) (by omega) (by omega)
        have eh7 : EqR 438 456 (G7 273) (G 273) := fun k q0 q1 => w7o k (by omega) (by omega) (by omega) (by omega)
        have fl : ∀ k, k < 12 → k ≠ 3 → G7 273 k = G 273 k := fun k k0 k1 => w7o k (by omega) k1 (by omega) (by omega)
        rw [← esum]
        refine tail_ok (K := K) ?_ (fun _ => ?_) (hK _ ?_)
        · rw [o7 272 (by omega), e6', up_na (by omega), km.2.1 0 (by omega), upG_same]
        · rw [o7 285 (by omega), e6', up_na (by omega), km.1 285 (by omega) (by omega), up_na (by omega), e4, upG_same]
        · refine h.acted kc (Gc := G3) (Gm0 := upG G4 272 0 0) (Gm := G5) (fun x q q1 => ?_) (fun k q => ?_) (fun x q => ?_) (fun k q => ?_) km (fun x q q1 => ?_) (fun k q => ?_) ?_ ?_
          · rw [o3 x (by omega), r2 x (by omega)]
          · rw [o3 272 (by omega), r2 272 (by omega)]
          · rw [up_na (by unfold ownA at q; omega), e4, up_na (by unfold ownA at q; omega)]
          · rw [upG_nk (by unfold ownK at q; omega), e4, up_na (by omega)]
          · rw [o7 x q1, e6', up_na q1]
          · rw [o7 272 (by omega), e6', up_na (by omega)]
          · have h8 := hW.he; have h9 := hW.wo; have h10 := hW.hu; have h11 := hW.ou
            refine fp.wf hW (fl 0 (by omega) (by omega)) er7 eh7 (fl 1 (by omega) (by omega)) (fl 2 (by omega) (by omega)) (by rw [w73]; exact how) (by rw [fl 4 (by omega) (by omega)]; exact hW.fr) (by rw [fl 5 (by omega) (by omega)]; exact hW.se) (by rw [fl 6 (by omega) (by omega)]; exact hW.lo) (fl 7 (by omega) (by omega)) (by rw [fl 8 (by omega) (by omega)]; omega) (by rw [fl 9 (by omega) (by omega)]; omega) (by rw [fl 10 (by omega) (by omega)]; omega) (by rw [fl 11 (by omega) (by omega)]; omega)
              (fun k k0 k1 => ?_) (hW.fd_of (fl 4 (by omega) (by omega)) (fl 6 (by omega) (by omega)) ef7 el7) (hW.ln_of (fl 4 (by omega) (by omega)) (fl 6 (by omega) (by omega)) el7) (hW.sv_of (fl 5 (by omega) (by omega)) es7) (fun s s0 s1 => ⟨(ct7 s s0 s1).symm, (hcn s s0 s1).2⟩)
            rw [w73] at k1
            have ck := hW.ca k k0 k1
            rw [cd7 k 0 k0 (by omega) (by omega) (by omega), cd7 k 1 k0 (by omega) (by omega) (by omega), cd7 k 2 k0 (by omega) (by omega) (by omega), cd k 0 k0 (by omega) (by omega) (by omega), cd k 1 k0 (by omega) (by omega) (by omega)]
            refine ⟨ck.1, ck.2.1, ?_⟩
            by_cases c3 : k = c
            · rw [c3, ci.2]; omega
            · have : cardW (G6 273) k 2 = cardW (G 273) k 2 := ci.1 _ (by omega) (by omega)
              rw [this]; exact ck.2.2
          · have gg : ∀ x, x ≠ 6 → ¬ (17 ≤ x ∧ x ≤ 20) → G3 x = G1 x := fun x x0 x1 => by rw [o3 x (by omega), r2 x x0]
            refine ⟨by rw [gg 1 (by omega) (by omega), fl 0 (by omega) (by omega)]; exact r1.bo, r1.ro_of hW (fl 0 (by omega) (by omega)) er7 (gg _ (by omega) (by omega)), by rw [gg 1 (by omega) (by omega), fl 2 (by omega) (by omega)]; exact r1.sp, by rw [gg _ (by omega) (by omega), fl 1 (by omega) (by omega)]; exact r1.tu, by rw [gg _ (by omega) (by omega), w73]; exact r1.ow, by rw [gg _ (by omega) (by omega), fl 4 (by omega) (by omega)]; exact r1.fr, by rw [gg _ (by omega) (by omega), fl 6 (by omega) (by omega)]; exact r1.lo, fun k k0 k1 => ?_, fun s s0 s1 => ?_,
              r1.fd_of hW (fl 4 (by omega) (by omega)) ef7 (gg _ (by omega) (by omega)) (gg _ (by omega) (by omega)), r1.ln_of hW (fl 6 (by omega) (by omega)) el7 (gg _ (by omega) (by omega)) (gg _ (by omega) (by omega)) (gg _ (by omega) (by omega)), by rw [gg _ (by omega) (by omega), fl 5 (by omega) (by omega)]; exact r1.se, r1.sv_of hW (fl 5 (by omega) (by omega)) es7 (gg _ (by omega) (by omega)) (gg _ (by omega) (by omega)), by rw [gg _ (by omega) (by omega), fl 7 (by omega) (by omega)]; exact r1.ha,
              HangS.fell hW hH2 rfl (fl 0 (by omega) (by omega)) er7 eh7 fp (o3 _ (by omega)) g3, fun s s0 s1 => ?_, by rw [gg 1 (by omega) (by omega), fl 8 (by omega) (by omega)]; exact r1.he, by rw [gg 1 (by omega) (by omega), fl 9 (by omega) (by omega)]; exact r1.wo, by rw [gg 1 (by omega) (by omega), fl 10 (by omega) (by omega)]; exact r1.hu, by rw [gg 1 (by omega) (by omega), fl 11 (by omega) (by omega)]; exact r1.ou⟩
            · rw [w73] at k1
              rw [cd7 k 0 k0 (by omega) (by omega) (by omega), cd7 k 1 k0 (by omega) (by omega) (by omega), cd k 0 k0 (by omega) (by omega) (by omega), cd k 1 k0 (by omega) (by omega) (by omega), gg _ (by omega) (by omega), gg _ (by omega) (by omega)]
              exact r1.ca k k0 k1
            · rw [ct7 s s0 s1, o3 _ (by omega)]; exact (hcn s s0 s1).1
            · rw [fp.hg s0 (hcn s s0 s1).2]
              have t := hH2.sum3 hW (fun _ x _ => b2 (x = s)) (b2_f (by omega))
              refine (k3 s s0 s1).trans ?_
              have t2 : rankC G2 (1 + 17) s 54 = hgW (G 273) s := t
              rw [t2]
    · intro G4 e4
      have mm : MV G4 (G 273) := by rw [e4]; exact ⟨up_na (by omega), by rw [up_na (by omega)]; exact h.2.2.1⟩
      refine mv_noOwn mm hW (fun _ => z01' (p10_in (p10_th (fun _ => z01 (p10_cardAt (by omega) (by omega) ?_)) (fun c2 => absurd b c2)))) (fun c2 => absurd (show 0 ≤ c ∧ c ≤ G 273 3 - 1 by omega) c2)
      rw [mm.th.1]
      have e9 : G 273 ((15 + (3 * c)) + 2).toNat = cardW (G 273) c 2 := rfl
      rw [e9]
      refine ⟨⟨by omega, by omega⟩, ⟨by omega, by omega⟩, fun c2 => by omega, fun _ => ?_⟩
      rw [e4]; exact none_done h hK
  · have mm : MV G (G 273) := ⟨rfl, h.2.2.1⟩
    refine mv_noOwn mm hW (fun _ => z01' (p10_in (p10_th (fun c2 => absurd c2 b) (fun _ => z10 ?_)))) (fun c2 => absurd (show 0 ≤ c ∧ c ≤ G 273 3 - 1 by omega) c2)
    rw [up_up]; exact thrown_is h hK (by omega)
  · have mm : MV G (G 273) := ⟨rfl, h.2.2.1⟩
    refine mv_noOwn mm hW (fun c2 => absurd (show 0 ≤ c ∧ c < G 273 3 by omega) a) (fun _ => z10' (thrown_is h hK (by omega)))
end A10
