-- ===== p51, PURE LAYER: the law's hangs answers true =====
section RD
variable {c : Nat → Nat} {j : Int} {G G2 : GH} {W W' V : WT} {s : Int}
theorem Acted.rg (a : Acted j W W' G G2) (h : RgC G) : RgC G2 := by
  obtain ⟨G1, k, o, w, r⟩ := a
  obtain ⟨k1, k2, k3, k4⟩ := k
  obtain ⟨q1, q2⟩ := h
  have e44 : G2 44 = G1 44 := o 44 (by omega) (by omega)
  exact ⟨by rw [e44]; omega, by rw [e44]; omega⟩
theorem Acted.sn (a : Acted j W W' G G2) (h : RgC G) (n : Sn G V) : Sn G2 V := by
  obtain ⟨G1, k, o, w, r⟩ := a
  obtain ⟨q1, q2⟩ := h
  exact n.congr (fun x hx => (o x (by omega) (by omega)).trans (k.1 x (by omega) (by unfold slotA; omega)))
theorem Acted.rp (a : Acted j W W' G G2) : WF (j + 1) W' ∧ RepS G2 1 W' := by
  obtain ⟨G1, k, o, w, r⟩ := a
  exact ⟨w, r⟩
theorem hangs_ok (hI : InvW c j G W) (hj : 0 ≤ j ∧ j ≤ 100) (hs2 : 0 ≤ s ∧ s < 2) : f_L_hangs s G (fun r _ => r = 1) := by
  have hW := hI.wf
  have hR := hI.rp
  have hG := hI.rg
  obtain ⟨h4, h5, h3, hfr, hdg⟩ := hI.1.2
  have hs : 0 ≤ s ∧ s < W 5 := by omega
  have h9 := hW.wo; have h10 := hW.hu; have h11 := hW.ou
  have h8 := hW.he
  have h7 := hW.ha
  have al := hW.allR
  have how := hW.ow
  have hW1 : WF (j + 1) (hngW (-1) W s) := hng_wf hW (Int.le_refl _) hs
  have wr := wkV_rng (tf := -1) (W := W) (s := s) (x := 54) (by omega)
  have ew : sumZ (fun p => wk1 (plaW W p 0) (ddV (-1) W s p)) 54 = wkV (-1) W s := rfl
  rw [ew] at wr
  have rr : 0 ≤ rhV (-1) W s (allRW W) ∧ rhV (-1) W s (allRW W) ≤ 18 := by
    refine ⟨sumZ_ge (fun _ _ _ => b2_ge), ?_⟩
    have := sumZ_le (f := fun r => b2 (tkR (-1) W s r)) (c := 1) (x := allRW W) (by omega) (fun _ _ _ => b2_le)
    unfold rhV
    omega
  have ror : 0 ≤ roV (-1) W s (allRW W) ∧ roV (-1) W s (allRW W) ≤ 18 := by
    refine ⟨sumZ_ge (fun _ _ _ => b2_ge), ?_⟩
    have := sumZ_le (f := fun r => b2 (outR (-1) W s r)) (c := 1) (x := allRW W) (by omega) (fun _ _ _ => b2_le)
    unfold roV
    omega
  have w0 : woV W s 0 = rhV (-1) W s (allRW W) := rfl
  have w1 : woV W s 1 = roV (-1) W s (allRW W) := rfl
  have w2 : woV W s 2 = wkV (-1) W s := rfl
  have w3 : woV W s 3 = ahW (hngW (-1) W s) := rfl
  have w4 : woV W s 4 = tuW (hngW (-1) W s) := rfl
  have w6 : woV W s 6 = boW (hngW (-1) W s) := rfl
  unfold f_L_hangs
  refine whole_ok hW h4 hR ?_
  refine e_would hW hR hs (by omega) (fun G1 q1 => ?_)
  have R1 := q1.rep hR
  refine e_would hW R1 hs (by omega) (fun G2 q2 => ?_)
  have R2 := q2.rep R1
  refine e_would hW R2 hs (by omega) (fun G3 q3 => ?_)
  have R3 := q3.rep R2
  refine e_would hW R3 hs (by omega) (fun G4 q4 => ?_)
  have R4 := q4.rep R3
  refine e_would hW R4 hs (by omega) (fun G5 q5 => ?_)
  have R5 := q5.rep R4
  refine e_would hW R5 hs (by omega) (fun G6 q6 => ?_)
  have R6 := q6.rep R5
  refine e_outAt hW R6 hs (fun G7 q7 => ?_)
  have R7 := q7.rep R6
  refine e_missing hW R7 hs (fun G8 q8 => ?_)
  have R8 := q8.rep R7
  refine e_bestBuy hW R8 hs (fun G9 q9 => ?_)
  have R9 := q9.rep R8
  refine e_easiest hW R9 (fun G10 q10 => ?_)
  have R10 := q10.rep R9
  refine e_workFrom hW R10 hs (by omega) (fun G11 q11 => ?_)
  have R11 := q11.rep R10
  have Q11 : CQ G G11 := ((((((((((q1.trans q2).trans q3).trans q4).trans q5).trans q6).trans q7).trans q8).trans q9).trans q10).trans q11)
  refine whole_ok hW h4 R11 ?_
  rw [w0, w1, w2, w3, w4, w6]
  refine ⟨fun w => absurd rfl w, fun _ => ?_⟩
  have fn := fo_neg (s := s) hW
  have lk := lack_out (s := s) hW
  have fh := fo_hung (s := s) hW rfl
  generalize foC W (foN (-1) W s (allRW W).toNat) = oa at fn fh ⊢
  refine joinI1 (P := fun v => v = b2 (roV (-1) W s (allRW W) = 0)) (fun v1 hv1 => ?_) (fun jj hjj => ⟨fun cc => hjj _ (b2_f (fun q => by have := fn.mpr q; omega)).symm, fun cc => hjj _ (b2_t (fn.mp cc)).symm⟩)
  refine joinI1 (P := fun v => v = b2 (roV (-1) W s (allRW W) = 0)) (fun v2 hv2 => ⟨fun w => absurd (hv1.trans hv2.symm) w, fun _ => ?_⟩) (fun jj hjj => ⟨fun cc => hjj _ (b2_f cc).symm, fun cc => hjj _ (b2_t cc).symm⟩)
  refine joinI1 (P := fun v => v = b2 (roV (-1) W s (allRW W) = 0)) (fun v3 hv3 => ?_) (fun jj hjj => ⟨fun cc => hjj _ (b2_f (fun q => cc (lk.mpr q))).symm, fun cc => hjj _ (b2_t (lk.mp cc)).symm⟩)
  refine joinI1 (P := fun v => v = b2 (roV (-1) W s (allRW W) = 0)) (fun v4 hv4 => ⟨fun w => absurd (hv3.trans hv4.symm) w, fun _ => ?_⟩) (fun jj hjj => ⟨fun cc => hjj _ (b2_f cc).symm, fun cc => hjj _ (b2_t cc).symm⟩)
  refine joinI0 (P := True) (fun _ => ?_) (fun jj hjj => ⟨fun _ => hjj trivial, fun cc => ⟨fun w => absurd (best_no cc) w, fun _ => hjj trivial⟩⟩)
  have ea := ea_is (W := W) (W 5).toNat (by omega)
  generalize (eaN W (W 5).toNat) = ez at ea ⊢
  obtain ⟨ea1, ea2, ea3⟩ := ea
  have ea4 := ea3 s hs.1 (by omega)
  refine e_would hW R11 (s := ez.1) (by omega) (by omega) (fun G12 q12 => ?_)
  have R12 := q12.rep R11
  have we : woV W ez.1 2 = wkV (-1) W ez.1 := rfl
  rw [we]
  refine ⟨fun w => by omega, fun _ => ⟨fun w => by have := tu_le hW1; omega, fun _ => ⟨fun _ => ?_, fun w => by have := bo_le (W := hngW (-1) W s); omega⟩⟩⟩
  refine e_save hW R12 (fun v13 G13 o13 sn13 => ?_)
  have R13 : RepS G13 1 W := R12.congr (fun x x0 x1 => o13 x (by omega) (by omega))
  have rg13 : RgC G13 := by
    have e : G13 44 = G 44 := by rw [o13 44 (by omega) (by omega), q12 44 (by omega), Q11 44 (by omega)]
    unfold RgC at hG ⊢
    rw [e]; exact hG
  refine e_size (by omega) hW R13 (e_size (by omega) hW R13 (e_size (by omega) hW R13 ?_))
  have s12 : szW W 12 = W 10 := rfl
  have s13 : szW W 13 = W 11 := rfl
  have s11 : szW W 11 = W 9 := rfl
  rw [s12, s13, s11]
  refine d_hang (j := j) (by omega) hW R13 rg13 hs (fun G14 ac => ⟨fun w => absurd rfl w, fun _ => ?_⟩)
  have R14 := ac.rp.2
  have rg14 := ac.rg rg13
  have sn14 := ac.sn rg13 sn13
  clear q1 q2 q3 q4 q5 q6 q7 q8 q9 q10 q11 q12 Q11 R1 R2 R3 R4 R5 R6 R7 R8 R9 R10 R11 R12 ac
  have t5 : hngW (-1) W s 5 = W 5 := hng_low (by omega) (by omega) (by omega) (by omega) (by omega)
  have t4 : hngW (-1) W s 4 = W 4 := hng_low (by omega) (by omega) (by omega) (by omega) (by omega)
  have t3 : hngW (-1) W s 3 = W 3 := hng_low (by omega) (by omega) (by omega) (by omega) (by omega)
  have t0 : hngW (-1) W s 0 = W 0 := hng_low (by omega) (by omega) (by omega) (by omega) (by omega)
  have z8 : szW (hngW (-1) W s) 8 = s := (show szW (hngW (-1) W s) 8 = hngW (-1) W s 7 from rfl).trans hng_7
  have z9 : szW (hngW (-1) W s) 9 = ahW (hngW (-1) W s) := rfl
  have z12 : szW (hngW (-1) W s) 12 = W 10 + rhV (-1) W s (allRW W) := hng_10
  have z13 : szW (hngW (-1) W s) 13 = W 11 + roV (-1) W s (allRW W) := hng_11
  have z11 : szW (hngW (-1) W s) 11 = W 9 + wkV (-1) W s := hng_9
  refine e_size (by omega) hW1 R14 ⟨fun w => absurd z8 w, fun _ => ?_⟩
  refine e_size (by omega) hW1 R14 ⟨fun w => absurd z9 w, fun _ => ?_⟩
  refine e_size (by omega) hW1 R14 ⟨⟨by omega, by omega⟩, fun w => absurd z12 w, fun _ => ?_⟩
  refine e_size (by omega) hW1 R14 ⟨⟨by omega, by omega⟩, fun w => absurd z13 w, fun _ => ?_⟩
  refine e_size (by omega) hW1 R14 ⟨⟨by omega, by omega⟩, fun w => absurd z11 w, fun _ => ?_⟩
  refine e_holes hW1 R14 ⟨fun w => absurd (hng_holes hW hs) w, fun _ => ?_⟩
  refine e_turned hW1 R14 ?_
  refine joinI1 (P := fun v => v = tuF (hngW (-1) W s)) (fun v5 hv5 => ⟨fun _ => ?_, fun w => absurd (by rw [hv5]; exact fcv_self tuF_nan) w⟩) (fun jj hjj => ⟨fun cc => ⟨n32_of (f_quot (by have : 0 ≤ ahW (hngW (-1) W s) ∧ ahW (hngW (-1) W s) ≤ 54 := cnt54; exact ⟨by omega, by omega⟩) cc), hjj _ (by unfold tuF; rw [if_neg cc])⟩, fun cc => hjj _ (by unfold tuF; rw [if_pos cc])⟩)
  refine joinI0 (P := True) (fun _ => ?_) (fun jj hjj => ⟨fun _ => hjj trivial, fun cc => ⟨cc, ?_⟩⟩)
  case refine_2 =>
    obtain ⟨a, b⟩ := fh cc
    have bo := hW.bo
    have er : rowW (hngW (-1) W s) (oa / 100) = rowW W (oa / 100) := hng_er _ (by omega) (by omega)
    refine e_hung hW1 R14 (by rw [t0, er]; exact a) ?_
    rw [hng_frst (by omega)]
    exact ⟨fun w => absurd b w, fun _ => hjj trivial⟩
  refine e_would hW1 R14 (by rw [t5]; exact hs) (by omega) (fun G15 q15 => ?_)
  have R15 := q15.rep R14
  have wz : woV (hngW (-1) W s) s 2 = 0 := hng_wk0 hW hs
  rw [wz]
  refine ⟨fun _ => ?_, fun w => absurd rfl w⟩
  have rg15 : RgC G15 := by
    unfold RgC at rg14 ⊢
    rw [q15 44 (by omega)]; exact rg14
  have sn15 : Sn G15 W := sn14.congr (fun x hx => q15 x (by omega))
  have bo1 := hW1.bo
  have al1 := hW1.allR
  refine loopI1 (I := fun b => 0 ≤ b ∧ b ≤ hngW (-1) W s 0) (μ := fun b => (hngW (-1) W s 0 - b).toNat) (fun k1 b hb ih1 => e_size (by omega) hW1 R15 ?_) 0 (by omega)
  show (hngW (-1) W s 0 ≤ b → _) ∧ (b < hngW (-1) W s 0 → _)
  refine ⟨fun cb => ?_, fun cb => ?_⟩
  case refine_2 =>
    have ro1 := hW1.ro b hb.1 cb
    refine loopI1 (I := fun r => 0 ≤ r ∧ r ≤ rowW (hngW (-1) W s) b) (μ := fun r => (rowW (hngW (-1) W s) b - r).toNat) (fun k2 r hr ih2 => e_rows hW1 R15 ⟨hb.1, cb⟩ ⟨fun cr => ih1 _ (by omega) (by omega), fun cr => ?_⟩) 0 (by omega)
    have a : (0 ≤ b ∧ b < hngW (-1) W s 0) ∧ 0 ≤ r ∧ r < rowW (hngW (-1) W s) b := ⟨⟨hb.1, cb⟩, hr.1, cr⟩
    have rl := hW1.rowlt a
    refine loopI1 (I := fun x => 0 ≤ x ∧ x ≤ 3) (μ := fun x => (3 - x).toNat) (fun k3 x hx ih3 => ⟨fun cx => ih2 _ (by omega) (by omega), fun cx => ?_⟩) 0 (by omega)
    have p0 : 0 ≤ 3 * (frstW (hngW (-1) W s) b + r) + x := by omega
    have p1 : 3 * (frstW (hngW (-1) W s) b + r) + x < 54 := by omega
    refine e_place hW1 R15 a (by omega) (by omega) ?_
    have y0 : plcW (hngW (-1) W s) (3 * (frstW (hngW (-1) W s) b + r) + x) 0 = plaW (hngW (-1) W s) (3 * (frstW (hngW (-1) W s) b + r) + x) 0 := rfl
    have y1 : plcW (hngW (-1) W s) (3 * (frstW (hngW (-1) W s) b + r) + x) 1 = numN (plaW (hngW (-1) W s) (3 * (frstW (hngW (-1) W s) b + r) + x) 1) := rfl
    have y2 : plcW (hngW (-1) W s) (3 * (frstW (hngW (-1) W s) b + r) + x) 2 = plaW (hngW (-1) W s) (3 * (frstW (hngW (-1) W s) b + r) + x) 2 := rfl
    rw [y0]
    have pl := hW1.pl _ p0 p1
    have hw := hng_way hs hW p0 p1
    have pc := pl_card hW1 (by rw [t4]; exact h4) p0 p1
    refine ⟨fun _ => ih3 _ (by omega) (by omega), fun c0 => ?_⟩
    have hw := hw (by omega)
    have pc := num_ok (W := hngW (-1) W s) (by rw [t4]; exact h4) (by rw [t3]; exact how) (pc (by omega))
    refine e_place hW1 R15 a (by omega) (by omega) (e_place hW1 R15 a (by omega) (by omega) ?_)
    rw [y0, y1]
    refine e_way hW1 R15 pc.1 (by omega) (e_place hW1 R15 a (by omega) (by omega) ?_)
    rw [y2, pc.2, hw]
    exact ⟨fun _ => ih3 _ (by omega) (by omega), fun w => absurd rfl w⟩
  refine d_hang (j := j + 1) (by omega) hW1 R15 rg15 (by omega) (fun G16 ac => ⟨fun _ => ?_, fun w => absurd (hng_wk hW (by omega)) w⟩)
  have rg16 := ac.rg rg15
  have sn16 := ac.sn rg15 sn15
  have fin : ∀ G18, Sn G18 W → f_X9_restoreSnapshot 0 G18 (fun r_39 G_19 => (f_L_whole G_19 (fun r_40 => (((wL r_40) ≠ (wL (whV W)) → (0 : Int) = 1) ∧ ((wL r_40) = (wL (whV W)) → (1 : Int) = 1))))) (fun _ _ => False) := fun G18 n => e_rest hW n (fun _ G19 _ _ _ R19 => whole_ok hW h4 R19 ⟨fun w => absurd rfl w, fun _ => rfl⟩)
  refine e_rest hW sn16 (fun _ G17 o17 a17 b17 R17 => ?_)
  have sn17 : Sn G17 W := sn16.congr (fun x hx => o17 x (by omega) (by omega))
  have rg17 : RgC G17 := ⟨by omega, by rw [b17]; exact rg16.2⟩
  refine c_wouldFall hW R17 (e_size (by omega) hW R17 (e_size (by omega) hW R17 (e_size (by omega) hW R17 ?_)))
  have u10 : szW W 10 = W 8 := rfl
  have u9 : szW W 9 = ahW W := rfl
  have u8 : szW W 8 = W 7 := rfl
  rw [u10, u9, u8]
  refine joinI1 (P := fun v => v = b2 (0 ≤ W 7)) (fun v6 hv6 => ?_) (fun jj hjj => ⟨fun cc => hjj _ (b2_f (by omega)).symm, fun cc => hjj _ (b2_t cc).symm⟩)
  refine d_hold (j := j) (by omega) hW R17 rg17 (fun e7 => ?_) (fun G18 e7 ac => ?_)
  · rw [b2_f (by omega)] at hv6
    refine joinI1 (P := fun v => v = -3) (fun v7 hv7 => ⟨fun w => absurd hv7.symm w, fun _ => ?_⟩) (fun jj hjj => ⟨fun _ => hjj _ rfl, fun w => absurd hv6 w⟩)
    exact joinI0 (P := True) (fun _ => fin G17 sn17) (fun jj hjj => ⟨fun _ => hjj trivial, fun w => absurd hv6 w⟩)
  · rw [b2_t (by omega)] at hv6
    have ef : fallN W = wfW W := wf_is hW
    have R18 := ac.rp.2
    have W18 := ac.rp.1
    have v8 : szW (holdW W) 10 = W 8 + 1 := hold_8 hW
    have v9 : szW (holdW W) 9 = ahW W - wfW W := hold_ah hW
    refine joinI1 (P := fun v => v = wfW W) (fun v7 hv7 => ⟨fun w => absurd (ef.trans hv7.symm) w, fun _ => ?_⟩) (fun jj hjj => ⟨fun w => by omega, fun _ => hjj _ rfl⟩)
    refine joinI0 (P := True) (fun _ => fin G18 (ac.sn rg17 sn17)) (fun jj hjj => ⟨fun w => by omega, fun _ => ?_⟩)
    have ra : 0 ≤ ahW W ∧ ahW W ≤ 54 := cnt54
    have rf : 0 ≤ ahW (holdW W) ∧ ahW (holdW W) ≤ 54 := cnt54
    have v9' : ahW (holdW W) = ahW W - wfW W := v9
    refine e_size (by omega) W18 R18 ⟨⟨by omega, by omega⟩, fun w => absurd v8 w, fun _ => ?_⟩
    exact e_size (by omega) W18 R18 ⟨⟨by omega, by omega⟩, fun _ => hjj trivial, fun w => absurd v9 w⟩
end RD
