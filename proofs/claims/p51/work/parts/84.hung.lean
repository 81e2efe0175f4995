-- ===== PURE LAYER: W with a service hung; the class's plan shows it; work =====
section HG
variable {tf : Int} {W : WT} {s j : Int} {G : GH}
theorem hng_low {k : Nat} (hk : k < 276) (h7 : k ≠ 7) (h9 : k ≠ 9) (h10 : k ≠ 10) (h11 : k ≠ 11) : hngW tf W s k = W k := by
  unfold hngW
  rw [if_neg h7, if_neg h9, if_neg h10, if_neg h11, if_pos hk]
theorem hng_7 : hngW tf W s 7 = s := if_pos rfl
theorem hng_9 : hngW tf W s 9 = W 9 + wkV tf W s := by
  unfold hngW
  rw [if_neg (by omega), if_pos rfl]
theorem hng_10 : hngW tf W s 10 = W 10 + rhV tf W s (allRW W) := by
  unfold hngW
  rw [if_neg (by omega), if_neg (by omega), if_pos rfl]
theorem hng_11 : hngW tf W s 11 = W 11 + roV tf W s (allRW W) := by
  unfold hngW
  rw [if_neg (by omega), if_neg (by omega), if_neg (by omega), if_pos rfl]
theorem hng_pla {p h : Int} (p0 : 0 ≤ p) (p1 : p < 54) (h0 : 0 ≤ h) (h1 : h < 3) : plaW (hngW tf W s) p h = plV tf W s p h := by
  show hngW tf W s ((276 + (3 * p)) + h).toNat = _
  unfold hngW
  rw [if_neg (by omega), if_neg (by omega), if_neg (by omega), if_neg (by omega), if_neg (by omega), if_pos (by omega), show (((((276 + (3 * p)) + h).toNat : Nat) : Int) - 276) / 3 = p by omega, show (((((276 + (3 * p)) + h).toNat : Nat) : Int) - 276) % 3 = h by omega]
theorem hng_hun {r : Int} (r0 : 0 ≤ r) (r1 : r < 18) : hunW (hngW tf W s) r = hyV tf W s r := by
  show hngW tf W s (438 + r).toNat = _
  unfold hngW
  rw [if_neg (by omega), if_neg (by omega), if_neg (by omega), if_neg (by omega), if_neg (by omega), if_neg (by omega), if_pos (by omega), show (((438 + r).toNat : Nat) : Int) - 438 = r by omega]
theorem hng_er : EqR 12 276 (hngW tf W s) W := fun k q0 q1 => hng_low q1 (by omega) (by omega) (by omega) (by omega)
theorem hng_allR (hW : WF j W) : allRW (hngW tf W s) = allRW W := rR_allR (hng_low (by omega) (by omega) (by omega) (by omega) (by omega)) (hng_er.sub (by omega) (by omega)) hW.bo.2
theorem hng_frst {b : Int} (hb : b ≤ 3) : frstW (hngW tf W s) b = frstW W b := rR_frst (hng_er.sub (by omega) (by omega)) hb
theorem so_42 (hW : WF j W) (hs : 0 ≤ s ∧ s < W 5) {p : Int} (p0 : 0 ≤ p) (hd : ddV (-1) W s p ≠ -1) : (0 ≤ soP (-1) W s p ∧ soP (-1) W s p < 42) ∧ (0 ≤ wayW (-1) W (soP (-1) W s p) (ddV (-1) W s p) ∧ wayW (-1) W (soP (-1) W s p) (ddV (-1) W s p) ≤ 3) := by
  have hp : p < 3 * allRW W := Classical.byContradiction fun w => hd (ddV_out (by omega))
  have al := hW.allR
  have dr : -1 ≤ ddV (-1) W s p ∧ ddV (-1) W s p ≤ 9 := ddH_rng (hyV_rng hW hs)
  have I := stP_inv (tf := -1) hW hs (by omega) p.toNat (by omega)
  obtain ⟨k1, k2, k3⟩ := I.pick hW (by omega) ⟨p0, hp⟩ ⟨by omega, by omega⟩
  have w := (shW_in ⟨by omega, by omega⟩).mp k1.2.1
  have c42 : soP (-1) W s p ≠ 42 := fun e => by
    have a := k1.1
    have b := I.2.1 _ k2.1 k2.2
    have c : cntW (-1) W 42 = 0 := by
      unfold cntW
      rw [if_pos rfl, if_pos rfl]
    rw [e, c] at b
    rw [e] at a
    omega
  refine ⟨⟨k2.1, by omega⟩, ?_⟩
  generalize soP (-1) W s p = x at w ⊢
  generalize ddV (-1) W s p = d at w ⊢
  unfold wayW at w ⊢
  by_cases c1 : frontW (-1) W x = d
  · rw [if_pos c1]; omega
  · rw [if_neg c1] at w ⊢
    by_cases c2 : backW W x = d
    · rw [if_pos c2]; omega
    · rw [if_neg c2] at w ⊢
      by_cases c3 : W 1 = 0 ∨ othW d = -1
      · rw [if_pos c3] at w; exact absurd rfl w
      · rw [if_neg c3] at w ⊢
        by_cases c4 : frontW (-1) W x = othW d
        · rw [if_pos c4]; omega
        · rw [if_neg c4] at w ⊢
          by_cases c5 : backW W x = othW d
          · rw [if_pos c5]; omega
          · rw [if_neg c5] at w; exact absurd rfl w
theorem hng_hg (hW : WF j W) (hs : 0 ≤ s ∧ s < W 5) {x : Int} (x0 : 0 ≤ x) : hgW (hngW (-1) W s) x = sumZ (fun q => b2 (ddV (-1) W s q ≠ -1 ∧ soP (-1) W s q = x)) (3 * allRW W) := by
  have al := hW.allR
  unfold hgW
  rw [← sumZ_trunc (f := fun q => b2 (ddV (-1) W s q ≠ -1 ∧ soP (-1) W s q = x)) (x := 3 * allRW W) (N := 54) (by omega) (by omega)]
  refine sumZ_congr (fun p p0 p1 => ?_)
  rw [hng_pla p0 p1 (by omega) (by omega)]
  unfold plV
  by_cases c : ddV (-1) W s p = -1
  · rw [if_pos c, b2_f (by omega), b2_f (fun w => w.1 c)]
    split <;> rfl
  · have hp : p < 3 * allRW W := Classical.byContradiction fun w => c (ddV_out (by omega))
    rw [if_neg c, if_neg (by omega), if_pos rfl, if_pos hp]
    exact b2_iff ⟨fun w => ⟨c, w⟩, fun w => w.2⟩
theorem hng_wf {j' : Int} (hW : WF j W) (hj : j + 1 ≤ j') (hs : 0 ≤ s ∧ s < W 5) : WF j' (hngW (-1) W s) := by
  have al := hW.allR
  have se := hW.se
  have h8 := hW.he; have h9 := hW.wo; have h10 := hW.hu; have h11 := hW.ou
  have f := fun k (q : k < 276) (q7 : k ≠ 7) (q9 : k ≠ 9) (q10 : k ≠ 10) (q11 : k ≠ 11) => hng_low (tf := -1) (W := W) (s := s) q q7 q9 q10 q11
  have f0 := f 0 (by omega) (by omega) (by omega) (by omega) (by omega)
  have f1 := f 1 (by omega) (by omega) (by omega) (by omega) (by omega)
  have f2 := f 2 (by omega) (by omega) (by omega) (by omega) (by omega)
  have f3 := f 3 (by omega) (by omega) (by omega) (by omega) (by omega)
  have f4 := f 4 (by omega) (by omega) (by omega) (by omega) (by omega)
  have f5 := f 5 (by omega) (by omega) (by omega) (by omega) (by omega)
  have f6 := f 6 (by omega) (by omega) (by omega) (by omega) (by omega)
  have f8 := f 8 (by omega) (by omega) (by omega) (by omega) (by omega)
  have er : EqR 12 15 (hngW (-1) W s) W := hng_er.sub (by omega) (by omega)
  have ec : EqR 15 51 (hngW (-1) W s) W := hng_er.sub (by omega) (by omega)
  have ef : EqR 51 84 (hngW (-1) W s) W := hng_er.sub (by omega) (by omega)
  have el : EqR 84 132 (hngW (-1) W s) W := hng_er.sub (by omega) (by omega)
  have es : EqR 132 276 (hngW (-1) W s) W := hng_er.sub (by omega) (by omega)
  have ar := hng_allR (tf := -1) (s := s) hW
  have wr := wkV_rng (tf := -1) (W := W) (s := s) (x := 54) (by omega)
  have ew : sumZ (fun p => wk1 (plaW W p 0) (ddV (-1) W s p)) 54 = wkV (-1) W s := rfl
  have rr : 0 ≤ rhV (-1) W s (allRW W) ∧ rhV (-1) W s (allRW W) ≤ 18 := by
    refine ⟨sumZ_ge (fun _ _ _ => b2_ge), ?_⟩
    have := sumZ_le (f := fun r => b2 (tkR (-1) W s r)) (c := 1) (x := allRW W) (by omega) (fun _ _ _ => b2_le)
    unfold rhV
    omega
  have ror : 0 ≤ roV (-1) W s (allRW W) ∧ roV (-1) W s (allRW W) ≤ 18 := by
    refine ⟨sumZ_ge (fun _ _ _ => b2_ge), ?_⟩
    have := sumZ_le (f := fun r => b2 (outR (-1) W s r)) (c := 1) (x := allRW W) (by omega) (fun _ _ _ => b2_le)
    unfold roV
    omega
  refine ⟨by rw [f0]; exact hW.bo, by rw [f1]; exact hW.tu, by rw [f2]; exact hW.sp, by rw [f3]; exact hW.ow, by rw [f4]; exact hW.fr, by rw [f5]; exact hW.se, by rw [f6]; exact hW.lo, by rw [hng_7]; omega, by rw [f8]; omega, by rw [hng_9]; omega, by rw [hng_10]; omega, by rw [hng_11]; omega, hW.ro_of f0 er, hW.ca_of f3 ec, hW.fd_of f4 f6 ef el, hW.ln_of f4 f6 el, hW.sv_of f5 es, fun p p0 p1 => ?_, fun p p0 p1 => ?_, fun r r0 r1 => ?_, fun r r0 r1 => ?_, fun x x0 x1 => ?_, fun w => by rw [hng_7] at w; omega⟩
  · rw [hng_pla p0 p1 (by omega) (by omega), hng_pla p0 p1 (by omega) (by omega), hng_pla p0 p1 (by omega) (by omega)]
    have dr : -1 ≤ ddV (-1) W s p ∧ ddV (-1) W s p ≤ 9 := ddH_rng (hyV_rng hW hs)
    unfold plV
    by_cases c : ddV (-1) W s p = -1
    · rw [if_pos c, if_pos c, if_pos c]; omega
    · have z := so_42 hW hs p0 c
      rw [if_neg c, if_neg c, if_neg c, if_pos rfl, if_neg (by omega), if_pos rfl, if_neg (by omega), if_neg (by omega)]
      omega
  · rw [ar] at p0
    rw [hng_pla (by omega) p1 (by omega) (by omega), plV_0]
    exact ddV_out p0
  · rw [hng_hun r0 r1]; exact hyV_rng hW hs
  · rw [ar] at r0
    rw [hng_hun (by omega) r1]
    unfold hyV
    rw [if_neg (fun w => by have := w.1.2; omega)]
  · have I := (stP_inv (tf := -1) hW hs (by omega) (3 * allRW W).toNat (by omega))
    have a := I.2.2.2 x x0 (by omega)
    have b := (I.2.1 x x0 (by omega)).1
    rw [show (((3 * allRW W).toNat : Nat) : Int) = 3 * allRW W by omega] at a
    rw [hng_hg hW hs x0, rR_cnt f3 ec f6 el hW.ow.2 hW.lo.2 x0]
    omega
theorem pd_row {a4 : Nat} (hW : WF j W) (P : PlanD G a4 tf W s (allRW W)) {b x : Int} (b0 : 0 ≤ b) (b1 : b < 3) (x0 : 0 ≤ x) (x1 : x < 6) : (actD W 1 b x → G (a4 + 1) (6 * b + x).toNat = hyV tf W s (frstW W b + x)) ∧ (¬ actD W 1 b x → G (a4 + 1) (6 * b + x).toNat = -1) := by
  have z := P.1 b x b0 b1 x0 x1
  refine ⟨fun c => ?_, fun c => ?_⟩
  · have fs := frst_s (W := W) b0
    have fr1 := hW.frst (b := b + 1) (by omega) (by have := c.1; omega)
    have c2 := c.2
    rw [z, if_pos ⟨c, by omega⟩]
  · rw [z, if_neg (fun w => c w.1)]
theorem pd_dig {a4 : Nat} (hW : WF j W) (P : PlanD G a4 tf W s (allRW W)) {b i : Int} (b0 : 0 ≤ b) (b1 : b < 3) (i0 : 0 ≤ i) (i1 : i < 18) : (actD W 3 b i → G (a4 + 2) (18 * b + i).toNat = ddV tf W s (3 * frstW W b + i)) ∧ (¬ actD W 3 b i → G (a4 + 2) (18 * b + i).toNat = -1) := by
  have z := P.2 b i b0 b1 i0 i1
  refine ⟨fun c => ?_, fun c => ?_⟩
  · have fs := frst_s (W := W) b0
    have fr1 := hW.frst (b := b + 1) (by omega) (by have := c.1; omega)
    have c2 := c.2
    rw [z, if_pos ⟨c, by omega⟩]
  · rw [z, if_neg (fun w => c w.1)]
/-- sums over the plan's digits -/
theorem pd_sum {a4 : Nat} (hW : WF j W) (P : PlanD G a4 tf W s (allRW W)) (f : Int → Int) (h0 : f (-1) = 0) : sumZ (fun p => f (G (a4 + 2) p.toNat)) 54 = sumZ (fun p => f (ddV tf W s p)) 54 := by
  have k := blk_sum hW (m := 3) (Or.inr rfl) (f := fun p => f (G (a4 + 2) p.toNat)) (f' := fun p => f (ddV tf W s p)) (fun b i b0 b1 i0 i1 => ⟨fun c => ?_, fun c => ?_⟩) (fun p p0 p1 => ?_)
  · exact k
  · show f (G (a4 + 2) (18 * b + i).toNat) = f (ddV tf W s (3 * frstW W b + i))
    rw [(pd_dig hW P b0 b1 i0 (by omega)).1 c]
  · show f (G (a4 + 2) (18 * b + i).toNat) = 0
    rw [(pd_dig hW P b0 b1 i0 (by omega)).2 c]; exact h0
  · show f (ddV tf W s p) = 0
    rw [ddV_out p0]; exact h0
theorem c_workTo {a0 a1 : Nat} {Q : Int → Prop} (h : Q (sumZ (fun p => wk1 (G (a0 + 2) p.toNat) (G (a1 + 2) p.toNat)) 54)) : f_X0_workTo a0 a1 G Q := by
  unfold f_X0_workTo
  refine sum_loop (fun p => wk1 (G (a0 + 2) p.toNat) (G (a1 + 2) p.toNat)) 54 (by omega) (fun k acc x x0 x1 hacc kk => ⟨fun c => ?_, fun c => ⟨⟨x0, c⟩, ?_⟩⟩)
  · have e : x = 54 := by omega
    subst e
    rw [hacc, Int.zero_add]; exact h
  · have kk := kk c
    have s1 := sumZ_ge (f := fun p => wk1 (G (a0 + 2) p.toNat) (G (a1 + 2) p.toNat)) (x := x) (fun _ _ _ => wk1_rng.1)
    have s2 := sumZ_le (f := fun p => wk1 (G (a0 + 2) p.toNat) (G (a1 + 2) p.toNat)) (c := 2) x0 (fun _ _ _ => wk1_rng.2)
    generalize hA : G (a0 + 2) x.toNat = A at kk ⊢
    generalize hB : G (a1 + 2) x.toNat = B at kk ⊢
    unfold wk1 at kk
    refine ⟨fun e => ?_, fun e => ?_⟩
    · rw [if_pos e, Int.add_zero] at kk; exact kk
    · rw [if_neg e] at kk
      have p := b2_01 (p := A ≠ -1)
      have q := b2_01 (p := B ≠ -1)
      refine joinI1 (P := fun v => v = b2 (A ≠ -1)) (fun v1 hv1 => ?_) (fun jj hj => ⟨fun w => hj _ (b2_t w).symm, fun w => hj _ (b2_f (fun z => z w)).symm⟩)
      refine joinI1 (P := fun v => v = b2 (B ≠ -1)) (fun v2 hv2 => ?_) (fun jj hj => ⟨fun w => hj _ (b2_t w).symm, fun w => hj _ (b2_f (fun z => z w)).symm⟩)
      rw [hv1, hv2]
      exact ⟨⟨by omega, by omega⟩, kk⟩
theorem wk1_n : wk1 (-1) (-1) = 0 := if_pos rfl
theorem work_is {a4 : Nat} (hW : WF j W) (hH : HangS G 15 W) (P : PlanD G a4 tf W s (allRW W)) : sumZ (fun p => wk1 (G (15 + 2) p.toNat) (G (a4 + 2) p.toNat)) 54 = wkV tf W s := by
  have k := blk_sum hW (m := 3) (Or.inr rfl) (f := fun p => wk1 (G (15 + 2) p.toNat) (G (a4 + 2) p.toNat)) (f' := fun p => wk1 (plaW W p 0) (ddV tf W s p)) (fun b i b0 b1 i0 i1 => ⟨fun c => ?_, fun c => ?_⟩) (fun p p0 p1 => ?_)
  · exact k
  · show wk1 (G (15 + 2) (18 * b + i).toNat) (G (a4 + 2) (18 * b + i).toNat) = wk1 (plaW W (3 * frstW W b + i) 0) (ddV tf W s (3 * frstW W b + i))
    rw [(pd_dig hW P b0 b1 i0 (by omega)).1 c, ((hH.2 b i b0 b1 i0 (by omega)).1 c).1]
  · show wk1 (G (15 + 2) (18 * b + i).toNat) (G (a4 + 2) (18 * b + i).toNat) = 0
    rw [(pd_dig hW P b0 b1 i0 (by omega)).2 c, ((hH.2 b i b0 b1 i0 (by omega)).2 c).1]; exact wk1_n
  · have al := hW.allR
    show wk1 (plaW W p 0) (ddV tf W s p) = 0
    rw [ddV_out p0, hW.pf p p0 (by omega)]; exact wk1_n
theorem work_two {W : WT} {s1 s2 : Int} (hW : WF j W) (P1 : PlanD G 224 tf W s1 (allRW W)) (P2 : PlanD G 218 tf W s2 (allRW W)) : sumZ (fun p => wk1 (G (224 + 2) p.toNat) (G (218 + 2) p.toNat)) 54 = sumZ (fun p => wk1 (ddV tf W s1 p) (ddV tf W s2 p)) 54 := by
  have k := blk_sum hW (m := 3) (Or.inr rfl) (f := fun p => wk1 (G (224 + 2) p.toNat) (G (218 + 2) p.toNat)) (f' := fun p => wk1 (ddV tf W s1 p) (ddV tf W s2 p)) (fun b i b0 b1 i0 i1 => ⟨fun c => ?_, fun c => ?_⟩) (fun p p0 p1 => ?_)
  · exact k
  · show wk1 (G (224 + 2) (18 * b + i).toNat) (G (218 + 2) (18 * b + i).toNat) = _
    rw [(pd_dig hW P1 b0 b1 i0 (by omega)).1 c, (pd_dig hW P2 b0 b1 i0 (by omega)).1 c]
  · show wk1 (G (224 + 2) (18 * b + i).toNat) (G (218 + 2) (18 * b + i).toNat) = 0
    rw [(pd_dig hW P1 b0 b1 i0 (by omega)).2 c, (pd_dig hW P2 b0 b1 i0 (by omega)).2 c]; exact wk1_n
  · show wk1 (ddV tf W s1 p) (ddV tf W s2 p) = 0
    rw [ddV_out p0, ddV_out p0]; exact wk1_n
/-- the plan behind its cards shows W with the service hung -/
theorem plan_hs (hW : WF j W) (P : PlanD G 218 (-1) W s (allRW W)) (F : PlanF G W s) : HangS G 218 (hngW (-1) W s) := by
  have al := hW.allR
  have bo := hW.bo
  have act : ∀ m b i : Int, 0 ≤ b → b < 3 → (actD (hngW (-1) W s) m b i ↔ actD W m b i) := fun m b i b0 b1 => act_of (hng_low (by omega) (by omega) (by omega) (by omega) (by omega)) (hng_er.sub (by omega) (by omega)) b0 b1
  refine ⟨fun b r b0 b1 r0 r1 => ⟨fun c => ?_, fun c => ?_⟩, fun b i b0 b1 i0 i1 => ⟨fun c => ?_, fun c => ?_⟩⟩
  · have c := (act 1 b r b0 b1).mp c
    have fr := hW.frst b0 (by have := c.1; omega)
    have fs := frst_s (W := W) b0
    have fr1 := hW.frst (b := b + 1) (by omega) (by have := c.1; omega)
    have c2 := c.2
    rw [hng_frst (by omega), hng_hun (by omega) (by omega)]
    exact (pd_row hW P b0 b1 r0 r1).1 c
  · exact (pd_row hW P b0 b1 r0 r1).2 (fun w => c ((act 1 b r b0 b1).mpr w))
  · have c := (act 3 b i b0 b1).mp c
    have fr := hW.frst b0 (by have := c.1; omega)
    have fs := frst_s (W := W) b0
    have fr1 := hW.frst (b := b + 1) (by omega) (by have := c.1; omega)
    have c2 := c.2
    have z := F.1 b i b0 b1 i0 i1
    rw [if_pos c, if_pos c] at z
    rw [hng_frst (by omega), hng_pla (by omega) (by omega) (by omega) (by omega), hng_pla (by omega) (by omega) (by omega) (by omega), hng_pla (by omega) (by omega) (by omega) (by omega), plV_0]
    exact ⟨(pd_dig hW P b0 b1 i0 i1).1 c, z.1, z.2⟩
  · have c2 : ¬ actD W 3 b i := fun w => c ((act 3 b i b0 b1).mpr w)
    have z := F.1 b i b0 b1 i0 i1
    rw [if_neg c2, if_neg c2] at z
    exact ⟨(pd_dig hW P b0 b1 i0 i1).2 c2, z.1, z.2⟩
end HG
