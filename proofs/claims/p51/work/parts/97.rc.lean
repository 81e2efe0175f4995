-- ===== p51, PURE LAYER: what holds of a service that is hung =====
section RC
variable {j : Int} {W : WT} {s : Int}
theorem ro_no {x : Int} (h : roV (-1) W s x = 0) {r : Int} (r0 : 0 ≤ r) (r1 : r < x) : ¬ outR (-1) W s r := fun o => by
  have e := sumZ_elem (f := fun r => b2 (outR (-1) W s r)) r0 r1 (fun _ _ _ => b2_ge)
  have e2 : b2 (outR (-1) W s r) ≤ roV (-1) W s x := e
  rw [b2_t o, h] at e2
  omega
theorem no_ro {x : Int} (h : ∀ r : Int, 0 ≤ r → r < x → ¬ outR (-1) W s r) : roV (-1) W s x = 0 := sumZ_zero (fun r r0 r1 => b2_f (h r r0 r1))
theorem fo_neg (hW : WF j W) : foC W (foN (-1) W s (allRW W).toNat) < 0 ↔ roV (-1) W s (allRW W) = 0 := by
  have al := hW.allR
  have h := roV_fo (tf := -1) (W := W) (s := s) (allRW W).toNat
  rw [show (((allRW W).toNat : Nat) : Int) = allRW W by omega] at h
  rw [h]
  have fr := foN_rng (tf := -1) (W := W) (s := s) (allRW W).toNat
  generalize foN (-1) W s (allRW W).toNat = f at fr ⊢
  unfold foC
  by_cases c : f = -1
  · rw [if_pos c]; omega
  · rw [if_neg c]
    have bd := hW.bd (r := f) (by omega) (by omega)
    omega
theorem nR_nT (hs : ∀ r : Int, 0 ≤ r → r < allRW W → ¬ outR (-1) W s r) : ∀ r : Nat, (r : Int) ≤ allRW W → nR (-1) W s r = nT W s r
  | 0, _ => rfl
  | r + 1, hr => by
    have ih := nR_nT hs r (by omega)
    have no := hs (r : Int) (by omega) (by omega)
    have et := nT_s (W := W) (s := s) (r := (r : Int)) (by omega)
    rw [show ((r : Int) + 1).toNat = r + 1 by omega, Int.toNat_natCast] at et
    rw [nR_n, et, ← ih]
    by_cases c : dueW W s (r : Int) = -1
    · rw [if_neg (fun q => q.1 c), due_neg c]
    · rw [if_pos]
      refine ⟨c, Classical.byContradiction fun q => no ⟨c, q⟩⟩
theorem nT_mono {d : Int} : ∀ (k r : Nat), nT W s r d ≤ nT W s (r + k) d
  | 0, r => Int.le_refl _
  | k + 1, r => by
    have ih := nT_mono (d := d) k r
    have et := nT_s (W := W) (s := s) (r := ((r + k : Nat) : Int)) (by omega)
    rw [show (((r + k : Nat) : Int) + 1).toNat = r + (k + 1) by omega, Int.toNat_natCast] at et
    rw [et]
    have c := cntd_ge (h := dueW W s ((r + k : Nat) : Int)) (e := d)
    show _ ≤ nT W s (r + k) d + 1 * cntd (dueW W s ((r + k : Nat) : Int)) d
    omega
theorem lack_out (hW : WF j W) : lackV 43 (shW (-1) W) (cntW (-1) W) (nT W s (allRW W).toNat) = 0 ↔ roV (-1) W s (allRW W) = 0 := by
  have al := hW.allR
  rw [lack_hall]
  constructor
  · intro h
    have no : ∀ k : Nat, (k : Int) ≤ allRW W → (∀ r : Int, 0 ≤ r → r < k → ¬ outR (-1) W s r) ∧ nR (-1) W s k = nT W s k := by
      intro k
      induction k with
      | zero => exact fun _ => ⟨fun r r0 r1 => by omega, rfl⟩
      | succ k ih =>
        intro hk
        obtain ⟨i1, i2⟩ := ih (by omega)
        have et := nT_s (W := W) (s := s) (r := (k : Int)) (by omega)
        rw [show ((k : Int) + 1).toNat = k + 1 by omega, Int.toNat_natCast] at et
        have hh : hall 43 (shW (-1) W) (cntW (-1) W) (nT W s (k + 1)) := hall_mono h (fun d _ _ => by
          have := nT_mono (W := W) (s := s) (d := d) ((allRW W).toNat - (k + 1)) (k + 1)
          rw [show k + 1 + ((allRW W).toNat - (k + 1)) = (allRW W).toNat by omega] at this
          exact this)
        have ft : fitR (-1) W s (k : Int) := by
          show lackV 43 (shW (-1) W) (cntW (-1) W) (plusH (nR (-1) W s (k : Int).toNat) (dueW W s (k : Int)) 1) = 0
          rw [Int.toNat_natCast, i2, ← et]
          exact lack_hall.mpr hh
        refine ⟨fun r r0 r1 o => ?_, ?_⟩
        · by_cases c : r = (k : Int)
          · rw [c] at o; exact o.2 ft
          · exact i1 r r0 (by omega) o
        · rw [nR_n, et, ← i2]
          by_cases c : dueW W s (k : Int) = -1
          · rw [if_neg (fun q => q.1 c), due_neg c]
          · rw [if_pos ⟨c, ft⟩]
    have := (no (allRW W).toNat (by omega)).1
    exact no_ro (fun r r0 r1 => this r r0 (by omega))
  · intro h
    rw [← nR_nT (fun r r0 r1 => ro_no h r0 r1) (allRW W).toNat (by omega)]
    exact nR_hall hW (by omega) _
theorem best_no (h : roV (-1) W s (allRW W) = 0) : (bbN W s 10).1 = -1 := by
  have le : ∀ x : Int, rhV x W s (allRW W) ≤ rhV (-1) W s (allRW W) := fun x => sumZ_mono (fun r r0 r1 => by
    have no := ro_no h r0 r1
    by_cases c : dueW W s r = -1
    · rw [b2_f (fun q => q.1 c)]; exact b2_ge
    · have t : tkR (-1) W s r := ⟨c, Classical.byContradiction fun q => no ⟨c, q⟩⟩
      rw [b2_t t]; exact b2_le)
  have all : ∀ k : Nat, bbN W s k = (-1, rhV (-1) W s (allRW W)) := by
    intro k
    induction k with
    | zero => rfl
    | succ k ih =>
      show (if (bbN W s k).2 < rhV (k : Int) W s (allRW W) then _ else bbN W s k) = _
      rw [ih]
      exact if_neg (by have := le (k : Int); show ¬ rhV (-1) W s (allRW W) < _; omega)
  rw [all 10]
theorem ea_is : ∀ n : Nat, 1 ≤ n → (0 ≤ (eaN W n).1 ∧ (eaN W n).1 < (n : Int)) ∧ (eaN W n).2 = wkV (-1) W (eaN W n).1 ∧ ∀ t : Int, 0 ≤ t → t < (n : Int) → (eaN W n).2 ≤ wkV (-1) W t
  | 0, h => by omega
  | n + 1, _ => by
    have e : eaN W (n + 1) = if (eaN W n).1 = -1 ∨ wkV (-1) W (n : Int) < (eaN W n).2 then ((n : Int), wkV (-1) W (n : Int)) else eaN W n := rfl
    by_cases c0 : n = 0
    · subst c0
      rw [e, if_pos (Or.inl (show (eaN W 0).1 = -1 from rfl))]
      refine ⟨⟨Int.le_refl _, by show ((0 : Nat) : Int) < ((0 + 1 : Nat) : Int); omega⟩, rfl, fun t t0 t1 => ?_⟩
      have : t = ((0 : Nat) : Int) := by omega
      rw [this]; exact Int.le_refl _
    · obtain ⟨a, b, d⟩ := ea_is n (by omega)
      rw [e]
      by_cases c : wkV (-1) W (n : Int) < (eaN W n).2
      · rw [if_pos (Or.inr c)]
        refine ⟨⟨by show (0 : Int) ≤ (n : Int); omega, by show (n : Int) < _; omega⟩, rfl, fun t t0 t1 => ?_⟩
        show wkV (-1) W (n : Int) ≤ _
        by_cases ct : t = (n : Int)
        · rw [ct]; exact Int.le_refl _
        · have := d t t0 (by omega)
          omega
      · rw [if_neg (fun q => q.elim (fun w => by omega) c)]
        refine ⟨⟨a.1, by omega⟩, b, fun t t0 t1 => ?_⟩
        by_cases ct : t = (n : Int)
        · rw [ct]; omega
        · exact d t t0 (by omega)
theorem tu_le (hW : WF j W) : tuW W ≤ ahW W := sumZ_mono (fun p p0 p1 => by
  have pl := hW.pl p p0 p1
  by_cases c : 2 ≤ plaW W p 2
  · rw [b2_t c, b2_t (by omega)]; exact Int.le_refl _
  · rw [b2_f c]; exact b2_ge)
theorem bo_le : boW W ≤ ahW W := sumZ_mono (fun p p0 p1 => by
  by_cases c : plaW W p 0 ≠ -1 ∧ ¬ plaW W p 1 < 12
  · rw [b2_t c, b2_t c.1]; exact Int.le_refl _
  · rw [b2_f c]; exact b2_ge)
theorem hng_holes (hW : WF j W) (hs : 0 ≤ s ∧ s < W 5) : holesW (hngW (-1) W s) = 0 := sumZ_zero (fun r r0 r1 => b2_f (fun q => by
  have p0 : plaW (hngW (-1) W s) (3 * r + 0) 0 = ddV (-1) W s (3 * r + 0) := by rw [hng_pla (by omega) (by omega) (by omega) (by omega), plV_0]
  have p1 : plaW (hngW (-1) W s) (3 * r + 1) 0 = ddV (-1) W s (3 * r + 1) := by rw [hng_pla (by omega) (by omega) (by omega) (by omega), plV_0]
  have p2 : plaW (hngW (-1) W s) (3 * r + 2) 0 = ddV (-1) W s (3 * r + 2) := by rw [hng_pla (by omega) (by omega) (by omega) (by omega), plV_0]
  have eh : hunW (hngW (-1) W s) r = hyV (-1) W s r := hng_hun r0 r1
  have q' : holeP (hunW (hngW (-1) W s) r) (plaW (hngW (-1) W s) (3 * r + 0) 0) (plaW (hngW (-1) W s) (3 * r + 1) 0) (plaW (hngW (-1) W s) (3 * r + 2) 0) := q
  rw [p0, p1, p2, eh] at q'
  unfold ddV ddH at q'
  rw [show (3 * r + 0) / 3 = r by omega, show (3 * r + 1) / 3 = r by omega, show (3 * r + 2) / 3 = r by omega, show (3 * r + 0) % 3 = 0 by omega, show (3 * r + 1) % 3 = 1 by omega, show (3 * r + 2) % 3 = 2 by omega] at q'
  have u0 : unitW 0 = 100 := rfl
  have u1 : unitW 1 = 10 := rfl
  have u2 : unitW 2 = 1 := rfl
  rw [u0, u1, u2] at q'
  have hr := hyV_rng (tf := -1) hW hs (r := r)
  generalize hyV (-1) W s r = v at q' hr
  obtain ⟨v0, v1⟩ := q'
  have hv : v ≠ -1 := by omega
  rw [if_neg hv, if_neg hv, if_neg hv, if_neg (show ¬ v < 1 by omega)] at v1
  rcases v1 with w | ⟨w1, w⟩ | ⟨w1, w⟩
  · omega
  · rw [if_neg (by omega)] at w; omega
  · rw [if_neg (by omega)] at w; omega))
theorem fo_out {W : WT} : ∀ k : Nat, foN (-1) W s k ≠ -1 → outR (-1) W s (foN (-1) W s k)
  | 0, h => absurd rfl h
  | k + 1, h => by
    have e : foN (-1) W s (k + 1) = if foN (-1) W s k ≠ -1 then foN (-1) W s k else if outR (-1) W s (k : Int) then (k : Int) else -1 := rfl
    by_cases c : foN (-1) W s k ≠ -1
    · rw [if_pos c] at e
      rw [e]; exact fo_out k c
    · rw [if_neg c] at e
      by_cases c2 : outR (-1) W s (k : Int)
      · rw [if_pos c2] at e
        rw [e]; exact c2
      · rw [if_neg c2] at e
        exact absurd e h
/-- the first row that is left out hangs empty -/
theorem fo_hung (hW : WF j W) {v : Int} (hv : v = foC W (foN (-1) W s (allRW W).toNat)) (h : 0 ≤ v) : ((0 ≤ v / 100 ∧ v / 100 < W 0) ∧ 0 ≤ v % 100 ∧ v % 100 < rowW W (v / 100)) ∧ hunW (hngW (-1) W s) (frstW W (v / 100) + v % 100) = -1 := by
  have al := hW.allR
  have fr := foN_rng (tf := -1) (W := W) (s := s) (allRW W).toNat
  have fo := fo_out (W := W) (s := s) (allRW W).toNat
  generalize foN (-1) W s (allRW W).toNat = f at fr fo hv
  unfold foC at hv
  by_cases c : f = -1
  · rw [if_pos c] at hv; omega
  · rw [if_neg c] at hv
    have bd := hW.bd (r := f) (by omega) (by omega)
    have fs := frst_s (W := W) bd.1
    have ro := hW.ro (bdW W f) bd.1 bd.2.1
    have ev : v / 100 = bdW W f := by omega
    have ev2 : v % 100 = f - frstW W (bdW W f) := by omega
    rw [ev, ev2]
    refine ⟨⟨⟨bd.1, bd.2.1⟩, by omega, by omega⟩, ?_⟩
    rw [show frstW W (bdW W f) + (f - frstW W (bdW W f)) = f by omega, hng_hun (by omega) (by omega)]
    have o := fo c
    unfold hyV
    exact if_neg (fun q => o.2 q.2.2)
theorem hng_wk (hW : WF j W) {t : Int} (ht : 0 ≤ t ∧ t < W 5) : wkV (-1) (hngW (-1) W s) t = sumZ (fun p => wk1 (ddV (-1) W s p) (ddV (-1) W t p)) 54 := sumZ_congr (fun p p0 p1 => by
  rw [hng_pla p0 p1 (by omega) (by omega), plV_0, hng_sim.dd hW ht])
theorem hng_wk0 (hW : WF j W) (hs : 0 ≤ s ∧ s < W 5) : wkV (-1) (hngW (-1) W s) s = 0 := by
  rw [hng_wk hW hs]
  exact sumZ_zero (fun p _ _ => if_pos rfl)
/-- a card that hangs is one of the cards -/
theorem pl_card (hW : WF j W) (h4 : W 4 = 1) {p : Int} (p0 : 0 ≤ p) (p1 : p < 54) (h : plaW W p 1 ≠ -1) : (0 ≤ plaW W p 1 ∧ plaW W p 1 < W 3) ∨ (12 ≤ plaW W p 1 ∧ plaW W p 1 < 22) := by
  have pl := hW.pl p p0 p1
  have how := hW.ow
  have hlo := hW.lo
  have e := sumZ_elem (f := fun q => b2 (plaW W q 1 = plaW W p 1)) p0 p1 (fun _ _ _ => b2_ge)
  have e2 : b2 (plaW W p 1 = plaW W p 1) ≤ hgW W (plaW W p 1) := e
  rw [b2_t rfl] at e2
  have h1 := hW.hc (plaW W p 1) (by omega) (by omega)
  generalize plaW W p 1 = x at *
  by_cases c : x < 12
  · rw [cnt_own (by omega) c] at h1
    by_cases c2 : x < W 3
    · exact Or.inl ⟨by omega, c2⟩
    · rw [if_neg c2] at h1; omega
  · refine Or.inr ⟨by omega, Classical.byContradiction fun c2 => ?_⟩
    have eb : cntW (-1) W x = borW W ((x - 12) / 10) ((x - 12) % 10) := by
      unfold cntW
      rw [if_neg (by omega), if_neg (by omega)]
    have b : borW W ((x - 12) / 10) ((x - 12) % 10) = 0 := sumZ_zero (fun l l0 l1 => by
      have ln := hW.ln l l0 l1
      rw [h4] at ln
      exact if_neg (by omega))
    omega
theorem num_ok {x : Int} (h4 : W 4 = 1) (how : 0 ≤ W 3 ∧ W 3 ≤ 12) (h : (0 ≤ x ∧ x < W 3) ∨ (12 ≤ x ∧ x < 22)) : ((0 ≤ numN x ∧ numN x < W 3) ∨ (100 ≤ numN x ∧ numN x < 100 + 10 * W 4)) ∧ sortN (numN x) = x := by
  unfold numN sortN
  by_cases c : x < 12
  · rw [if_pos c, if_pos (by omega)]
    exact ⟨Or.inl (by omega), rfl⟩
  · rw [if_neg c, if_neg (by omega)]
    exact ⟨Or.inr (by omega), by omega⟩
theorem hng_way (hs : 0 ≤ s ∧ s < W 5) (hW : WF j W) {p : Int} (p0 : 0 ≤ p) (p1 : p < 54) (h : plaW (hngW (-1) W s) p 0 ≠ -1) : wayW (-1) (hngW (-1) W s) (plaW (hngW (-1) W s) p 1) (plaW (hngW (-1) W s) p 0) = plaW (hngW (-1) W s) p 2 := by
  rw [hng_pla p0 p1 (by omega) (by omega), plV_0] at h
  have so := (so_42 hW hs p0 h).1
  have e1 : plaW (hngW (-1) W s) p 1 = soP (-1) W s p := by
    rw [hng_pla p0 p1 (by omega) (by omega)]
    unfold plV
    rw [if_neg h]; rfl
  have e2 : plaW (hngW (-1) W s) p 2 = wayW (-1) W (soP (-1) W s p) (ddV (-1) W s p) := by
    rw [hng_pla p0 p1 (by omega) (by omega)]
    unfold plV
    rw [if_neg h]; rfl
  rw [e1, e2, hng_pla p0 p1 (by omega) (by omega), plV_0, hng_sim.way ⟨so.1, by omega⟩]
/-- a held service: what fell hangs no more -/
theorem hold_ah (hW : WF j W) : ahW (holdW W) = ahW W - wfW W := by
  have f7 : Fell (fallW (heldW W) (cntW (-1) (heldW W))) (holdW W) (heldW W) := fellW_is (fallW (heldW W) (cntW (-1) (heldW W))) (heldW W)
  have oh := held_out hW
  rw [← wf_is hW]
  have k : ahW (holdW W) + sumZ (fun p => b2 (fallW (heldW W) (cntW (-1) (heldW W)) p)) 54 = ahW W := by
    unfold ahW
    rw [← sumZ_add]
    refine sumZ_congr (fun p p0 p1 => ?_)
    have pl := hW.pl p p0 p1
    have e0 : plaW (heldW W) p 0 = plaW W p 0 := oh _ (by omega) (by omega) (by omega) (by omega)
    have e1 : plaW (heldW W) p 1 = plaW W p 1 := oh _ (by omega) (by omega) (by omega) (by omega)
    obtain ⟨g1, g2⟩ := f7.2 p p0 p1
    by_cases c : fallW (heldW W) (cntW (-1) (heldW W)) p
    · have := (g1 c).1
      have c1 := c.1
      rw [e1] at c1
      rw [b2_t c, b2_f (fun w => w this), b2_t (by omega)]; omega
    · have := (g2 c).1
      rw [b2_f c, this, e0]; omega
  omega
theorem hold_8 (hW : WF j W) : holdW W 8 = W 8 + 1 := by
  have f7 : Fell (fallW (heldW W) (cntW (-1) (heldW W))) (holdW W) (heldW W) := fellW_is (fallW (heldW W) (cntW (-1) (heldW W))) (heldW W)
  rw [f7.1 8 (by omega)]
  exact if_pos rfl
theorem fcv_self {x : UInt32} (h : FP.fIsNaN x = false) : fcv x x = 0 := by
  unfold fcv
  rw [show FP.fcmp x x = some .eq from Jvm.FP.Core.fcmp_refl h]
  rfl
theorem tuF_nan : FP.fIsNaN (tuF W) = false := by
  have ra : 0 ≤ ahW W ∧ ahW W ≤ 54 := cnt54
  unfold tuF
  by_cases c : ahW W = 0
  · rw [if_pos c]; exact fz_nan
  · rw [if_neg c]; exact f_quot ⟨by omega, by omega⟩ c
end RC
