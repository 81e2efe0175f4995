-- ===== PURE LAYER: hang =====
section AH
variable {j : Nat} {G : GH} {K : GH → Prop} {L : Nat} {xs : Nat → Int32} {i4 : Int}
theorem hang_rep {W : WT} {s n : Int} {G1 G3 G8 : GH} (hW : WF n W) (hs : 0 ≤ s ∧ s < W 5) (r1 : RepS G1 1 W) (H : HangS G3 218 (hngW (-1) W s)) (F : PlanF G3 W s) (g0 : ∀ x, 2 ≤ x → x ≤ 14 → G8 x = G1 x) (g1 : ∀ k, k ≠ 7 → k ≠ 8 → k ≠ 9 → G8 1 k = G1 1 k) (v7 : G8 1 7 = W 9 + wkV (-1) W s) (v8 : G8 1 8 = W 10 + rhV (-1) W s (allRW W)) (v9 : G8 1 9 = W 11 + roV (-1) W s (allRW W)) (g15 : G8 15 0 = s)
    (c1 : ∀ i, i < 18 → G8 16 i = G3 219 i) (c2 : ∀ i, i < 54 → G8 17 i = G3 220 i) (c3 : ∀ i, i < 54 → G8 18 i = G3 221 i) (c4 : ∀ i, i < 54 → G8 19 i = G3 222 i) (c5 : ∀ i, i < 42 → G8 20 i = G3 223 i) : RepS G8 1 (hngW (-1) W s) := by
  have f := fun k (q : k < 276) (q7 : k ≠ 7) (q9 : k ≠ 9) (q10 : k ≠ 10) (q11 : k ≠ 11) => hng_low (tf := -1) (W := W) (s := s) q q7 q9 q10 q11
  have f0 := f 0 (by omega) (by omega) (by omega) (by omega) (by omega)
  have f1 := f 1 (by omega) (by omega) (by omega) (by omega) (by omega)
  have f2 := f 2 (by omega) (by omega) (by omega) (by omega) (by omega)
  have f3 := f 3 (by omega) (by omega) (by omega) (by omega) (by omega)
  have f4 := f 4 (by omega) (by omega) (by omega) (by omega) (by omega)
  have f5 := f 5 (by omega) (by omega) (by omega) (by omega) (by omega)
  have f6 := f 6 (by omega) (by omega) (by omega) (by omega) (by omega)
  have f8 := f 8 (by omega) (by omega) (by omega) (by omega) (by omega)
  have er : EqR 12 15 (hngW (-1) W s) W := hng_er.sub (by omega) (by omega)
  have ec : EqR 15 51 (hngW (-1) W s) W := hng_er.sub (by omega) (by omega)
  have ef : EqR 51 84 (hngW (-1) W s) W := hng_er.sub (by omega) (by omega)
  have el : EqR 84 132 (hngW (-1) W s) W := hng_er.sub (by omega) (by omega)
  have es : EqR 132 276 (hngW (-1) W s) W := hng_er.sub (by omega) (by omega)
  refine ⟨by rw [g1 0 (by omega) (by omega) (by omega), f0]; exact r1.bo, r1.ro_of hW f0 er (g0 _ (by omega) (by omega)), by rw [g1 2 (by omega) (by omega) (by omega), f2]; exact r1.sp, by rw [g0 _ (by omega) (by omega), f1]; exact r1.tu, by rw [g0 _ (by omega) (by omega), f3]; exact r1.ow, by rw [g0 _ (by omega) (by omega), f4]; exact r1.fr, by rw [g0 _ (by omega) (by omega), f6]; exact r1.lo,
    r1.ca_of hW f3 ec (g0 _ (by omega) (by omega)) (g0 _ (by omega) (by omega)), r1.ct_of hW f3 ec f6 el (g0 _ (by omega) (by omega)), r1.fd_of hW f4 ef (g0 _ (by omega) (by omega)) (g0 _ (by omega) (by omega)), r1.ln_of hW f6 el (g0 _ (by omega) (by omega)) (g0 _ (by omega) (by omega)) (g0 _ (by omega) (by omega)), by rw [g0 _ (by omega) (by omega), f5]; exact r1.se, r1.sv_of hW f5 es (g0 _ (by omega) (by omega)) (g0 _ (by omega) (by omega)), by rw [hng_7]; exact g15, ⟨fun b r b0 b1 r0 r2 => ?_, fun b i b0 b1 i0 i1 => ?_⟩, fun x x0 x1 => ?_,
    by rw [g1 6 (by omega) (by omega) (by omega), f8]; exact r1.he, by rw [hng_9]; exact v7, by rw [hng_10]; exact v8, by rw [hng_11]; exact v9⟩
  · have e : G8 (1 + 14 + 1) (6 * b + r).toNat = G3 (218 + 1) (6 * b + r).toNat := c1 _ (by omega)
    rw [e]; exact H.1 b r b0 b1 r0 r2
  · have e2 : G8 (1 + 14 + 2) (18 * b + i).toNat = G3 (218 + 2) (18 * b + i).toNat := c2 _ (by omega)
    have e3 : G8 (1 + 14 + 3) (18 * b + i).toNat = G3 (218 + 3) (18 * b + i).toNat := c3 _ (by omega)
    have e4 : G8 (1 + 14 + 4) (18 * b + i).toNat = G3 (218 + 4) (18 * b + i).toNat := c4 _ (by omega)
    rw [e2, e3, e4]; exact H.2 b i b0 b1 i0 i1
  · rw [hng_hg hW hs x0]
    exact (c5 _ (by omega)).trans (F.2 x x0 x1)
theorem arm_27 (h : Rel j G) (hK : ∀ G', Rel (j + 1) G' → K G') (hj : j < 512) (hL : 0 ≤ i4 ∧ i4 + 5 ≤ L) : f_law_27 L xs i4 G K := by
  have hW := h.wf
  have hR := h.rp
  have al := hW.allR
  have h9 := hW.wo; have h10 := hW.hu; have h11 := hW.ou
  refine ⟨⟨by omega, by omega⟩, ?_⟩
  generalize (xs ((i4 + 1)).toNat).toInt = s
  unfold f_L_hang f_X9_hang
  refine c_needService hW hR (fun a => ?_) (fun a => ⟨rfl, ?_⟩)
  · have wr := wkV_rng (tf := -1) (W := G 273) (s := s) (x := 54) (by omega)
    have ew : sumZ (fun p => wk1 (plaW (G 273) p 0) (ddV (-1) (G 273) s p)) 54 = wkV (-1) (G 273) s := rfl
    rw [ew] at wr
    have rr : 0 ≤ rhV (-1) (G 273) s (allRW (G 273)) ∧ rhV (-1) (G 273) s (allRW (G 273)) ≤ 18 := by
      refine ⟨sumZ_ge (fun _ _ _ => b2_ge), ?_⟩
      have := sumZ_le (f := fun r => b2 (tkR (-1) (G 273) s r)) (c := 1) (x := allRW (G 273)) (by omega) (fun _ _ _ => b2_le)
      unfold rhV
      omega
    have ror : 0 ≤ roV (-1) (G 273) s (allRW (G 273)) ∧ roV (-1) (G 273) s (allRW (G 273)) ≤ 18 := by
      refine ⟨sumZ_ge (fun _ _ _ => b2_ge), ?_⟩
      have := sumZ_le (f := fun r => b2 (outR (-1) (G 273) s r)) (c := 1) (x := allRW (G 273)) (by omega) (fun _ _ _ => b2_le)
      unfold roV
      omega
    refine c_keep hW hR h.hi (fun G1 kc => ?_)
    have r1 := kc.rep1 h.hi hR
    refine c_chooseRows (tf := -1) (Or.inl rfl) hW a (by omega) r1 (fun G2 m o2 ch => ?_)
    have r2 : RepS G2 1 (G 273) := r1.congr (fun x x0 x1 => o2 x (by omega) (by omega))
    refine c_chooseCards hW a r2 ch (fun G3 o3 f3 => c_workTo ?_)
    have pd3 : PlanD G3 218 (-1) (G 273) s (allRW (G 273)) := ch.2.1.congr (o3 _ (by omega) (by omega)) (o3 _ (by omega) (by omega))
    have h15 : HangS G3 15 (G 273) := r1.hs.congr (fun x x0 x1 => by rw [o3 x (by omega) (by omega), o2 x (by omega) (by omega)])
    rw [work_is hW h15 pd3]
    refine c_copy0 (Or.inl (by omega)) (fun G4 o4 _ c1 c2 c3 c4 c5 G5 e5 => ?_)
    have o41 : ∀ x, ¬ (208 ≤ x ∧ x ≤ 229) → ¬ (15 ≤ x ∧ x < 21) → G4 x = G1 x := fun x x0 x1 => by rw [o4 x x1, o3 x (by omega) (by omega), o2 x (by omega) (by omega)]
    have f208 : ∀ k, G4 208 k = G2 208 k := fun k => by rw [o4 208 (by omega), o3 208 (by omega) (by omega)]
    have a7 : G5 1 7 = G 273 9 := by rw [e5, up_na (by omega), o41 1 (by omega) (by omega)]; exact r1.wo
    rw [a7]
    refine ⟨⟨by omega, by omega⟩, fun G6 e6 => ?_⟩
    have a8 : G6 1 8 = G 273 10 := by rw [e6, upG_nk (by omega), e5, up_na (by omega), o41 1 (by omega) (by omega)]; exact r1.hu
    have b8 : G6 208 1 = rhV (-1) (G 273) s (allRW (G 273)) := by rw [e6, up_na (by omega), e5, up_na (by omega), f208]; exact ch.1.1
    rw [a8, b8]
    refine ⟨⟨by omega, by omega⟩, fun G7 e7 => ?_⟩
    have a9 : G7 1 9 = G 273 11 := by rw [e7, upG_nk (by omega), e6, upG_nk (by omega), e5, up_na (by omega), o41 1 (by omega) (by omega)]; exact r1.ou
    have b9 : G7 208 2 = roV (-1) (G 273) s (allRW (G 273)) := by rw [e7, up_na (by omega), e6, up_na (by omega), e5, up_na (by omega), f208]; exact ch.1.2.1
    rw [a9, b9]
    refine ⟨⟨by omega, by omega⟩, fun G8 e8 G9 e9 => ?_⟩
    have o8 : ∀ x, x ≠ 1 → x ≠ 15 → G8 x = G4 x := fun x x0 x1 => by rw [e8, up_na x0, e7, up_na x0, e6, up_na x0, e5, up_na x1]
    have rep8 : RepS G8 1 (hngW (-1) (G 273) s) := by
      refine hang_rep (G1 := G1) (G3 := G3) hW a r1 (plan_hs hW pd3 f3) f3 (fun x x0 x1 => by rw [o8 x (by omega) (by omega)]; exact o41 x (by omega) (by omega)) (fun k k7 k8 k9 => by rw [e8, upG_nk k9, e7, upG_nk k8, e6, upG_nk k7, e5, up_na (by omega), o41 1 (by omega) (by omega)]) ?_ ?_ (by rw [e8, upG_same]) ?_ (fun i hi => by rw [o8 16 (by omega) (by omega)]; exact c1 i hi) (fun i hi => by rw [o8 17 (by omega) (by omega)]; exact c2 i hi) (fun i hi => by rw [o8 18 (by omega) (by omega)]; exact c3 i hi) (fun i hi => by rw [o8 19 (by omega) (by omega)]; exact c4 i hi) (fun i hi => by rw [o8 20 (by omega) (by omega)]; exact c5 i hi)
      · rw [e8, upG_nk (by omega), e7, upG_nk (by omega), e6, upG_same]
      · rw [e8, upG_nk (by omega), e7, upG_same]
      · rw [e8, up_na (by omega), e7, up_na (by omega), e6, up_na (by omega), e5, upG_same]
    have m9 : G9 273 = G 273 := by rw [e9, up_na (by omega), o8 273 (by omega) (by omega), o41 273 (by omega) (by omega), kc.row h.hi (by omega)]
    have t9 : G9 272 = G 272 := by rw [e9, up_na (by omega), o8 272 (by omega) (by omega), o41 272 (by omega) (by omega), kc.row h.hi (by omega)]
    have mm : MV G9 (G 273) := ⟨m9, by rw [t9]; exact h.2.2.1⟩
    refine mv_noService mm hW (fun _ => z01 ?_) (fun c => absurd (show 0 ≤ s ∧ s ≤ G 273 5 - 1 by omega) c)
    have g6 : (upG G9 272 0 0) 272 6 = G 272 6 := by rw [upG_nk (by omega), t9]
    refine m_keeps (by rw [g6]; exact h.hi.1) (fun G10 km => ?_)
    have w10 : G10 273 = G 273 := by rw [km.w, up_na (by omega), m9]
    have t10 : G10 272 17 = -1 := by rw [km.2.1 17 (by omega), upG_nk (by omega), t9]; exact h.2.2.1
    refine m_hangsService (j := (j : Int)) (by omega) hW a (by omega) t10 w10 (fun G11 o11 q11 f11 w11 => ?_)
    refine tail_ok (K := K) ?_ (fun _ => ?_) (hK _ ?_)
    · rw [q11 0 (by omega), km.2.1 0 (by omega), upG_same]
    · rw [o11 285 (by omega) (by omega) (by omega), km.1 285 (by omega) (by omega), up_na (by omega), e9, upG_same]
    · refine h.acted kc (Gc := G8) (Gm0 := upG G9 272 0 0) (Gm := G10) (fun x q q1 => ?_) (fun k q => ?_) (fun x q => ?_) (fun k q => ?_) km (fun x q q1 => ?_) (fun k q => ?_) (by rw [w11]; exact hng_wf hW (by omega) a) (by rw [w11]; exact rep8)
      · unfold ownA at q
        rw [o8 x (by omega) (by omega), o41 x (by omega) (by omega)]
      · rw [o8 272 (by omega) (by omega), o41 272 (by omega) (by omega)]
      · unfold ownA at q
        rw [up_na (by omega), e9, up_na (by omega)]
      · unfold ownK at q
        rw [upG_nk (by omega), e9, up_na (by omega)]
      · unfold ownA at q
        rw [o11 x (by omega) q1 (by omega)]
      · unfold ownK at q
        rw [q11 k (by omega)]
  · have mm : MV G (G 273) := ⟨rfl, h.2.2.1⟩
    refine mv_noService mm hW (fun c => absurd (show 0 ≤ s ∧ s < G 273 5 by omega) a) (fun _ => z10 (thrown_is h hK (by omega)))
end AH
