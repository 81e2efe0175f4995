-- ===== p51, PURE LAYER: the law's cards answers true =====
theorem sort_own {k : Int} (h : k < 100) : sortN k = k := if_pos h
theorem sort_fr {d : Int} (h : 0 ≤ d) : sortN (100 + d) = 12 + d := by unfold sortN; rw [if_neg (by omega)]; omega
/-- the hymn's number as the column c wants it -/
def colH (h c : Int) : Int := if c = 0 then Int.tdiv h 100 else if c = 1 then Int.tdiv h 10 else h
theorem col_join {F : Int → Prop} {x h : Int} (hF : F (colH h x)) (hx : 0 ≤ x ∧ x < 3) : join1 F (fun (j_1 : Int → Prop) => ((x ≠ 0 → ((x ≠ 1 → (j_1 h)) ∧ (x = 1 → (j_1 (Int.tdiv h 10))))) ∧ (x = 0 → (j_1 (Int.tdiv h 100))))) := by
  unfold colH at hF
  refine ⟨fun c => ⟨fun c2 => ?_, fun c2 => ?_⟩, fun c => ?_⟩
  · rw [if_neg c, if_neg c2] at hF; exact hF
  · rw [if_neg c, if_pos c2] at hF; exact hF
  · rw [if_pos c] at hF; exact hF
section PI
variable {c : Nat → Nat} {j : Int} {G : GH} {W : WT} {L : Nat} {xs : Nat → Int32}
theorem cards_ok {Q : Int → GH → Prop} (hI : InvW (cN L xs) j G W) (hQ : ∀ G2, InvW (cN L xs) j G2 W → Q 1 G2) : f_L_cards L xs G Q := by
  have hW := hI.wf
  have hR := hI.rp
  obtain ⟨w4, w5, w3, hfr, hdg⟩ := hI.1.2
  have hlo := hW.lo
  have how := hW.ow
  have hbo := hW.bo
  have hal := hW.allR
  have hc := hW.hc
  unfold f_L_cards
  refine loopI2 (I := fun x2 x3 => (0 ≤ x3 ∧ x3 ≤ W 3) ∧ x2 = sumZ (hgW W) x3) (μ := fun _ x3 => (W 3 - x3).toNat) (fun k1 x2 x3 hI1 ih1 => ?_) 0 0 ⟨by omega, rfl⟩
  obtain ⟨hx3, hx2⟩ := hI1
  refine e_size (by omega) hW hR ?_
  show (W 3 ≤ x3 → _) ∧ (x3 < W 3 → _)
  have g3 := sumZ_ge (f := hgW W) (x := x3) (fun _ _ _ => hg_ge)
  have l3 := sumZ_le (f := hgW W) (c := 54) (x := x3) hx3.1 (fun _ _ _ => hg_le)
  refine ⟨fun cc => ?_, fun cc => ?_⟩
  case refine_2 =>
    have ow : (0 ≤ x3 ∧ x3 < W 3) ∨ (100 ≤ x3 ∧ x3 < 100 + 10 * W 4) := Or.inl ⟨hx3.1, cc⟩
    refine e_card hW hR ow (by omega) (e_card hW hR ow (by omega) (e_card hW hR ow (by omega) ?_))
    rw [sort_own (by omega)]
    show (hgW W x3 ≤ cntW (-1) W x3 → _) ∧ (cntW (-1) W x3 < hgW W x3 → _)
    have h9 := hc x3 (by omega) (by omega)
    have g9 := hg_ge (W := W) (s := x3)
    have l9 := hg_le (W := W) (s := x3)
    exact ⟨fun _ => ⟨⟨by show _ ≤ x2 + hgW W x3; omega, by show x2 + hgW W x3 ≤ _; omega⟩, ih1 _ _ ⟨by omega, by rw [sumZ_s hx3.1, hx2]; rfl⟩ (by omega)⟩, fun q => by omega⟩
  -- the friend's cards
  have e3 : x3 = W 3 := by omega
  refine loopI3 (I := fun x2' x3' G1 => (0 ≤ x3' ∧ x3' ≤ 10) ∧ x2' = sumZ (hgW W) (W 3) + sumZ (fun d => hgW W (12 + d)) x3' ∧ (∀ x, ¬ (208 ≤ x ∧ x ≤ 229) → G1 x = G x)) (μ := fun _ x3' _ => (10 - x3').toNat) (fun k2 x2' d G1 hI2 ih2 => ?_) x2 0 G ⟨by omega, by rw [hx2, e3, sumZ_0, Int.add_zero], fun _ _ => rfl⟩
  obtain ⟨hd, hx2', o1⟩ := hI2
  have hR1 : RepS G1 1 W := hR.congr (fun x x0 x1 => o1 x (by omega))
  have g10 := sumZ_ge (f := fun d => hgW W (12 + d)) (x := d) (fun _ _ _ => hg_ge)
  have l10 := sumZ_le (f := fun d => hgW W (12 + d)) (c := 54) (x := d) hd.1 (fun _ _ _ => hg_le)
  rw [e3] at g3 l3
  refine ⟨fun cd => ?_, fun cd => ?_⟩
  case refine_2 =>
    have ow : (0 ≤ 100 + d ∧ 100 + d < W 3) ∨ (100 ≤ 100 + d ∧ 100 + d < 100 + 10 * W 4) := Or.inr (by omega)
    refine ⟨⟨by omega, by omega⟩, e_card hW hR1 ow (by omega) (e_card hW hR1 ow (by omega) (e_card hW hR1 ow (by omega) ?_))⟩
    rw [sort_fr hd.1]
    have ec : cntW (-1) W (12 + d) = borW W 0 d := by
      unfold cntW
      rw [if_neg (by omega), if_neg (by omega), show ((12 + d) - 12) / 10 = 0 by omega, show ((12 + d) - 12) % 10 = d by omega]
    have h9 := hc (12 + d) (by omega) (by omega)
    have g9 := hg_ge (W := W) (s := 12 + d)
    have l9 := hg_le (W := W) (s := 12 + d)
    have cr := cnt_rng hW (s := 12 + d) (by omega)
    have fd := (hW.fd 0 (by omega) (by omega)).2 d hd.1 (by omega)
    show (cntW (-1) W (12 + d) < hgW W (12 + d) → _) ∧ (hgW W (12 + d) ≤ cntW (-1) W (12 + d) → _)
    refine ⟨fun q => by omega, fun _ => e_lends hW hR1 (by omega) (by omega) (e_card hW hR1 ow (by omega) ⟨⟨by omega, by omega⟩, by omega, ?_⟩)⟩
    rw [sort_fr hd.1]
    show 0 ≤ cellV L xs (13 + d) ∧ inR (friW W 0 (1 + d) + cntW (-1) W (12 + d)) ∧ (friW W 0 (1 + d) + cntW (-1) W (12 + d) ≠ _ → _) ∧ (friW W 0 (1 + d) + cntW (-1) W (12 + d) = _ → _)
    have cv := cellV_rng (L := L) (xs := xs) (i := 13 + d)
    have ef := hfr d hd.1 (by omega)
    have e13 : cellV L xs (13 + d) = ((cN L xs (13 + d.toNat) : Nat) : Int) := by
      rw [show (13 : Int) + d = ((13 + d.toNat : Nat) : Int) by omega]; exact cN_eq
    rw [ec, e13]
    refine ⟨by omega, ⟨by omega, by omega⟩, fun q => absurd (by omega) q, fun _ => ?_⟩
    refine e_free hW hR1 (by omega) (e_most hW hR1 (by omega) ⟨fun q => ?_, fun _ => ?_⟩)
    · have := free_most hW (d := d)
      omega
    refine e_free hW hR1 (by omega) ?_
    -- both flags alike
    have last : ∀ v5 v6 : Int, v5 = v6 → ∀ G3, (∀ x, ¬ (208 ≤ x ∧ x ≤ 229) → G3 x = G x) → ((v5 = v6 → (inR (x2' + hgW W (12 + d)) ∧ k2 (x2' + hgW W (12 + d)) (d + 1) G3)) ∧ (v5 ≠ v6 → Q 0 G3)) := fun v5 v6 e G3 o3 => ⟨fun _ => ⟨⟨by omega, by omega⟩, ih2 _ _ _ ⟨by omega, by rw [sumZ_s hd.1, hx2']; omega, o3⟩ (by omega)⟩, fun q => absurd e q⟩
    refine joinI1 (P := fun v => (v = 0 ∨ v = 1) ∧ (v = 1 ↔ 0 < freeW W d)) (fun v hv => ?_) (fun jj hj => ⟨fun q => hj 0 ⟨Or.inl rfl, by omega⟩, fun q => hj 1 ⟨Or.inr rfl, by omega⟩⟩)
    refine joinI2 (P := fun v6 G3 => v = v6 ∧ ∀ x, ¬ (208 ≤ x ∧ x ≤ 229) → G3 x = G x) (fun v6 G3 h3 => last v v6 h3.1 G3 h3.2) (fun jj hj => ⟨fun q => ?_, fun q => ?_⟩)
    · refine e_canShow hW hR1 (by omega) (fun w G3 w01 hw o3 => hj w G3 ⟨?_, fun x hx => by rw [o3 x hx, o1 x hx]⟩)
      rw [hall_free hW (by omega)] at hw
      by_cases z : 0 < freeW W d
      · rw [hw.mpr z, hv.2.mpr z]
      · have a := hv.1.resolve_right (fun w => z (hv.2.mp w))
        have b := w01.resolve_right (fun w => z (hw.mp w))
        rw [a, b]
    · refine e_free hW hR1 (by omega) ?_
      rw [q] at hv
      exact ⟨fun z => hj 0 G1 ⟨hv.1.resolve_right (fun w => by have := hv.2.mp w; omega), o1⟩, fun z => hj 1 G1 ⟨hv.2.mpr z, o1⟩⟩
  -- the places
  have ed : d = 10 := by omega
  rw [ed, sorts_sum hW w4] at hx2'
  have hInv : InvW (cN L xs) j G1 W := hI.congr (fun x q => o1 x (by omega))
  have pb : ∀ x : Int, 0 ≤ x → 0 ≤ sumZ (fun p => b2 (plaW W p 0 ≠ -1)) x ∧ sumZ (fun p => b2 (plaW W p 0 ≠ -1)) x ≤ x := fun x x0 => by
    have a := sumZ_ge (f := fun p => b2 (plaW W p 0 ≠ -1)) (x := x) (fun _ _ _ => b2_ge)
    have b := sumZ_le (f := fun p => b2 (plaW W p 0 ≠ -1)) (c := 1) (x := x) x0 (fun _ _ _ => b2_le)
    omega
  have hb9 : ∀ x : Int, 0 ≤ x → 0 ≤ sumZ (fun r => b2 (holeW W r)) x ∧ sumZ (fun r => b2 (holeW W r)) x ≤ x := fun x x0 => by
    have a := sumZ_ge (f := fun r => b2 (holeW W r)) (x := x) (fun _ _ _ => b2_ge)
    have b := sumZ_le (f := fun r => b2 (holeW W r)) (c := 1) (x := x) x0 (fun _ _ _ => b2_le)
    omega
  refine loopI3 (I := fun x3 x4 x5 => (0 ≤ x5 ∧ x5 ≤ W 0) ∧ x3 = sumZ (fun p => b2 (plaW W p 0 ≠ -1)) (3 * frstW W x5) ∧ x4 = sumZ (fun r => b2 (holeW W r)) (frstW W x5)) (μ := fun _ _ x5 => (W 0 - x5).toNat) (fun k3 x3' x4 b hI3 ih3 => ?_) 0 0 0 ⟨by omega, rfl, rfl⟩
  obtain ⟨hb, hx3', hx4⟩ := hI3
  have fb := hW.frst hb.1 hb.2
  refine e_size (by omega) hW hR1 ?_
  show (W 0 ≤ b → _) ∧ (b < W 0 → _)
  refine ⟨fun cb => ?_, fun cb => ?_⟩
  · have eb : b = W 0 := by omega
    have ea : frstW W b = allRW W := by rw [eb]; rfl
    rw [ea] at hx3' hx4
    have s1 : x3' = ahW W := by
      rw [hx3']
      have h0 : ∀ i : Int, ((3 * allRW W).toNat : Nat) ≤ i → i < (54 : Nat) → b2 (plaW W i 0 ≠ -1) = 0 := fun i i0 i1 => b2_f (fun w => w (hW.pf i (by omega) (by omega)))
      exact (sumN_cut (f := fun p => b2 (plaW W p 0 ≠ -1)) (m := (3 * allRW W).toNat) (K := 54) (by omega) h0).symm
    have s2 : x4 = holesW W := by
      rw [hx4]
      have h0 : ∀ i : Int, ((allRW W).toNat : Nat) ≤ i → i < (18 : Nat) → b2 (holeW W i) = 0 := fun i i0 i1 => b2_f (fun w => by
        have a := hW.hf i (by omega) (by omega)
        have b := w.1
        omega)
      exact (sumN_cut (f := fun r => b2 (holeW W r)) (m := (allRW W).toNat) (K := 18) (by omega) h0).symm
    refine e_size (by omega) hW hR1 ?_
    show (x3' ≠ ahW W → _) ∧ (x3' = ahW W → _)
    refine ⟨fun q => absurd s1 q, fun _ => ⟨fun q => absurd (hx2'.trans s1.symm) q, fun _ => e_holes hW hR1 ⟨fun q => absurd s2.symm q, fun _ => hQ G1 hInv⟩⟩⟩
  · have fs := frst_s (W := W) hb.1
    have rb := hW.ro b hb.1 cb
    have fb1 := hW.frst (b := b + 1) (by omega) (by omega)
    refine loopI3 (I := fun x3 x4 x6 => (0 ≤ x6 ∧ x6 ≤ rowW W b) ∧ x3 = sumZ (fun p => b2 (plaW W p 0 ≠ -1)) (3 * (frstW W b + x6)) ∧ x4 = sumZ (fun r => b2 (holeW W r)) (frstW W b + x6)) (μ := fun _ _ x6 => (rowW W b - x6).toNat) (fun k4 y3 y4 r hI4 ih4 => ?_) x3' x4 0 ⟨by omega, by rw [hx3', Int.add_zero], by rw [hx4, Int.add_zero]⟩
    obtain ⟨hr, hy3, hy4⟩ := hI4
    refine e_rows hW hR1 ⟨hb.1, cb⟩ ⟨fun cr => ?_, fun cr => ?_⟩
    · have er : r = rowW W b := by omega
      refine ih3 _ _ _ ⟨by omega, ?_, ?_⟩ (by omega)
      · rw [hy3, er, fs]
      · rw [hy4, er, fs]
    have at_ : (0 ≤ b ∧ b < W 0) ∧ 0 ≤ r ∧ r < rowW W b := ⟨⟨hb.1, cb⟩, hr.1, cr⟩
    refine e_hung hW hR1 at_ ?_
    obtain ⟨R, hRr⟩ : ∃ R : Int, R = frstW W b + r := ⟨_, rfl⟩
    rw [← hRr] at hy3 hy4 ⊢
    have hR18 : 0 ≤ R ∧ R < 18 := by omega
    have hh := hW.hr R hR18.1 hR18.2
    obtain ⟨hv, hhv⟩ : ∃ hv : Int, hv = hunW W R := ⟨_, rfl⟩
    rw [← hhv] at hh ⊢
    have yb4 := hb9 R hR18.1
    have yb3 := pb (3 * R) (by omega)
    -- what a column lacks
    obtain ⟨lk, hlk⟩ : ∃ lk : Int → Prop, lk = fun col => 0 < hv ∧ 0 < colH hv col ∧ plaW W (3 * R + col) 0 < 0 := ⟨_, rfl⟩
    refine loopI3 (I := fun z3 z8 col => (0 ≤ col ∧ col ≤ 3) ∧ z3 = sumZ (fun p => b2 (plaW W p 0 ≠ -1)) (3 * R + col) ∧ ((z8 ≠ 0) ↔ ∃ x, 0 ≤ x ∧ x < col ∧ lk x)) (μ := fun _ _ col => (3 - col).toNat) (fun k5 z3 z8 col hI5 ih5 => ?_) y3 0 0 ⟨by omega, by rw [hy3, Int.add_zero], ⟨fun q => absurd rfl q, fun ⟨x, x0, x1, _⟩ => by omega⟩⟩
    obtain ⟨hcol, hz3, hz8⟩ := hI5
    have zb3 := pb (3 * R + col) (by omega)
    have hole_iff : (∃ x, 0 ≤ x ∧ x < 3 ∧ lk x) ↔ holeW W R := by
      have p0 := (hW.pl (3 * R + 0) (by omega) (by omega)).1
      have p1 := (hW.pl (3 * R + 1) (by omega) (by omega)).1
      have p2 := (hW.pl (3 * R + 2) (by omega) (by omega)).1
      have t1 : 0 < hv → (0 < Int.tdiv hv 100 ↔ 100 ≤ hv) := fun q => by rw [Int.tdiv_eq_ediv_of_nonneg (by omega)]; omega
      have t2 : 0 < hv → (0 < Int.tdiv hv 10 ↔ 10 ≤ hv) := fun q => by rw [Int.tdiv_eq_ediv_of_nonneg (by omega)]; omega
      unfold holeW holeP
      rw [← hhv, hlk]
      constructor
      · rintro ⟨x, x0, x1, q1, q2, q3⟩
        have ex : x = 0 ∨ x = 1 ∨ x = 2 := by omega
        refine ⟨q1, ?_⟩
        rcases ex with rfl | rfl | rfl
        · exact Or.inr (Or.inr ⟨(t1 q1).mp q2, by omega⟩)
        · exact Or.inr (Or.inl ⟨(t2 q1).mp q2, by omega⟩)
        · exact Or.inl (by omega)
      · rintro ⟨q1, q2 | q2 | q2⟩
        · exact ⟨2, by omega, by omega, q1, q1, by omega⟩
        · exact ⟨1, by omega, by omega, q1, (t2 q1).mpr q2.1, by omega⟩
        · exact ⟨0, by omega, by omega, q1, (t1 q1).mpr q2.1, by omega⟩
    refine ⟨fun c3 => ?_, fun c3 => ?_⟩
    · have ec : col = 3 := by omega
      rw [ec] at hz3 hz8
      have hz := hz8.trans hole_iff
      have h4' : sumZ (fun r => b2 (holeW W r)) (frstW W b + (r + 1)) = y4 + b2 (holeW W R) := by
        rw [show frstW W b + (r + 1) = R + 1 by omega, sumZ_s hR18.1, hy4]
      have h3' : z3 = sumZ (fun p => b2 (plaW W p 0 ≠ -1)) (3 * (frstW W b + (r + 1))) := by
        rw [hz3]; congr 1; omega
      refine ⟨fun q => ⟨⟨by omega, by omega⟩, ih4 _ _ _ ⟨by omega, h3', ?_⟩ (by omega)⟩, fun q => ⟨⟨by omega, by omega⟩, ih4 _ _ _ ⟨by omega, h3', ?_⟩ (by omega)⟩⟩
      · rw [h4', b2_f (fun w => absurd q (hz.mpr w))]
      · rw [h4', b2_t (hz.mp q)]
    have P54 : 0 ≤ 3 * R + col ∧ 3 * R + col < 54 := by omega
    have pl := hW.pl (3 * R + col) P54.1 P54.2
    refine e_place hW hR1 at_ (by omega) (by omega) ?_
    rw [← hRr]
    show join1 _ _
    have ep : plcW W (3 * R + col) 0 = plaW W (3 * R + col) 0 := rfl
    rw [ep]
    obtain ⟨dg, hdg9⟩ : ∃ dg : Int, dg = plaW W (3 * R + col) 0 := ⟨_, rfl⟩
    rw [← hdg9] at pl ⊢
    have step3 : sumZ (fun p => b2 (plaW W p 0 ≠ -1)) (3 * R + (col + 1)) = z3 + b2 (dg ≠ -1) := by
      rw [show 3 * R + (col + 1) = 3 * R + col + 1 by omega, sumZ_s P54.1, hz3, hdg9]
    have step8 : (∃ x, 0 ≤ x ∧ x < col + 1 ∧ lk x) ↔ (z8 ≠ 0 ∨ (0 < hv ∧ 0 < colH hv col ∧ dg < 0)) := by
      rw [hz8]
      constructor
      · rintro ⟨x, x0, x1, q⟩
        by_cases e : x = col
        · right
          rw [e, hlk] at q
          rw [hdg9]; exact q
        · exact Or.inl ⟨x, x0, by omega, q⟩
      · rintro (⟨x, x0, x1, q⟩ | q)
        · exact ⟨x, x0, by omega, q⟩
        · refine ⟨col, hcol.1, by omega, ?_⟩
          rw [hlk]
          rw [hdg9] at q; exact q
    refine col_join ?_ ⟨hcol.1, c3⟩
    refine joinI1 (P := fun v => v = b2 (dg ≠ -1)) (fun v2 hv2 => ?_) (fun jj hj => ⟨fun q => hj 0 (by rw [b2_f (fun w => w (by omega))]), fun q => hj 1 (by rw [b2_t (by omega)])⟩)
    refine joinI0 (P := True) (fun _ => ?_) (fun jj hj => ⟨fun q => hj trivial, fun q => ?_⟩)
    · refine joinI1 (P := fun v => v = 1 ∧ dg < 0 ∨ v = 0 ∧ 0 ≤ dg) (fun v3 hv3 => ?_) (fun jj hj => ⟨fun q => hj 0 (Or.inr ⟨rfl, q⟩), fun q => hj 1 (Or.inl ⟨rfl, q⟩)⟩)
      refine e_place hW hR1 at_ (by omega) (by omega) ?_
      rw [← hRr]
      have e1 : plcW W (3 * R + col) 1 = numN (plaW W (3 * R + col) 1) := rfl
      rw [e1]
      have sg : numN (plaW W (3 * R + col) 1) < 0 ↔ dg < 0 := by
        unfold numN
        have p1 := pl.2.1
        have p3 := pl.2.2.2.1
        constructor
        · intro q
          split at q
          · have : plaW W (3 * R + col) 1 = -1 := by omega
            have := p3.mpr this
            omega
          · omega
        · intro q
          have : plaW W (3 * R + col) 1 = -1 := p3.mp (by omega)
          rw [this]; decide
      refine joinI1 (P := fun v => v = v3) (fun v4 hv4 => ?_) (fun jj hj => ⟨fun q => hj 0 ?_, fun q => hj 1 ?_⟩)
      · have b01 := b2_01 (p := dg ≠ -1)
        have r3 : inR (z3 + v2) := by rw [hv2]; exact ⟨by omega, by omega⟩
        have go : ∀ z8' : Int, ((z8' ≠ 0) ↔ (z8 ≠ 0 ∨ (0 < hv ∧ 0 < colH hv col ∧ dg < 0))) → inR (z3 + v2) ∧ k5 (z3 + v2) z8' (col + 1) := fun z8' hz => ⟨r3, ih5 _ _ _ ⟨by omega, by rw [step3, hv2], hz.trans step8.symm⟩ (by omega)⟩
        refine ⟨fun _ => ⟨fun q => go 1 ⟨fun _ => Or.inl q, fun _ => by omega⟩, fun q => ⟨fun q2 => go 0 ⟨fun w => absurd rfl w, fun w => ?_⟩, fun q2 => ⟨fun q3 => go 0 ⟨fun w => absurd rfl w, fun w => ?_⟩, fun q3 => ⟨fun q4 => go 0 ⟨fun w => absurd rfl w, fun w => ?_⟩, fun q4 => go 1 ⟨fun _ => Or.inr ⟨q2, q3, q4⟩, fun _ => by omega⟩⟩⟩⟩⟩, fun w => absurd hv4.symm w⟩
        · rcases w with w | w
          · exact absurd q w
          · omega
        · rcases w with w | w
          · exact absurd q w
          · omega
        · rcases w with w | w
          · exact absurd q w
          · omega
      · rcases hv3 with ⟨a, b⟩ | ⟨a, b⟩
        · have := sg.mpr b
          omega
        · exact a.symm
      · rcases hv3 with ⟨a, b⟩ | ⟨a, b⟩
        · exact a.symm
        · have := sg.mp q
          omega
    · -- the digit is the hymn's
      have hd9 := hdg R col hR18.1 hR18.2 hcol.1 c3
      rw [← hdg9, ← hhv] at hd9
      rcases hd9 with w | ⟨w1, w2⟩
      · omega
      · have t1 : Int.tdiv hv 100 = hv / 100 := Int.tdiv_eq_ediv_of_nonneg (by omega)
        have t2 : Int.tdiv hv 10 = hv / 10 := Int.tdiv_eq_ediv_of_nonneg (by omega)
        have key : 1 ≤ colH hv col ∧ dg = colH hv col % 10 := by
          unfold digH at w2
          unfold colH
          rw [t1, t2]
          by_cases e0 : col = 0
          · rw [if_pos e0] at w2 ⊢
            by_cases e1 : hv / 100 < 1
            · rw [if_pos e1] at w2; omega
            · rw [if_neg e1] at w2; omega
          · rw [if_neg e0] at w2 ⊢
            by_cases e1 : col = 1
            · rw [if_pos e1] at w2 ⊢
              by_cases e2 : hv / 10 < 1
              · rw [if_pos e2] at w2; omega
              · rw [if_neg e2] at w2; omega
            · rw [if_neg e1] at w2 ⊢
              omega
        exact ⟨fun z => by omega, fun _ => ⟨fun z => by omega, fun _ => ⟨by omega, fun z => absurd key.2 z, fun _ => hj trivial⟩⟩⟩
end PI
