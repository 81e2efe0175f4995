-- ===== p51, PURE LAYER: a step keeps what always holds =====
section PF
variable {c : Nat → Nat} {j : Int} {G : GH} {W W' : WT} {L : Nat} {xs : Nat → Int32}
theorem b01 {F : Int → Prop} {x : Int} (h : ∀ v, (v = 0 ∨ v = 1) → F v) : join1 F (fun (j_1 : Int → Prop) => (((x % 2) ≠ 0 → (j_1 0)) ∧ ((x % 2) = 0 → (j_1 1)))) := ⟨fun _ => h 0 (Or.inl rfl), fun _ => h 1 (Or.inr rfl)⟩
theorem step_ok (hI : InvW c j G W) (hj : 0 ≤ j ∧ j ≤ 100) {k : Nat} (hk : k < 12) : f_L_step L xs ((35 + 3 * k : Nat) : Int) G (fun G2 => ∃ W2, InvW c (j + 1) G2 W2) := by
  have hW := hI.wf
  have hR := hI.rp
  have hg := hI.rg
  obtain ⟨w4, w5, w3, hfr, hdg⟩ := hI.1.2
  have hlo := hW.lo
  have how := hW.ow
  unfold f_L_step f_L_cell
  have c1 := cellV_rng (L := L) (xs := xs) (i := ((35 + 3 * k : Nat) : Int) + 1)
  have c2 := cellV_rng (L := L) (xs := xs) (i := ((35 + 3 * k : Nat) : Int) + 2)
  have c0 := cellV_rng (L := L) (xs := xs) (i := ((35 + 3 * k : Nat) : Int))
  generalize cellV L xs (((35 + 3 * k : Nat) : Int) + 1) = v at c1 ⊢
  generalize cellV L xs (((35 + 3 * k : Nat) : Int) + 2) = u at c2 ⊢
  generalize cellV L xs ((35 + 3 * k : Nat) : Int) = t at c0 ⊢
  refine ⟨⟨by omega, by omega⟩, by omega, ⟨by omega, by omega⟩, by omega, e_size (by omega) hW hR ?_⟩
  have es : szW W 6 = 2 := w5
  rw [es]
  have stay : ∀ r : Int, ∃ W2, InvW c (j + 1) G W2 := fun _ => ⟨W, hI.mono (by omega)⟩
  have sv : 0 ≤ v % 2 ∧ v % 2 < W 5 := by omega
  have hang : f_X9_hang (v % 2) G (fun _ G2 => ∃ W2, InvW c (j + 1) G2 W2) (fun _ _ => False) := d_hang (by omega) hW hR hg sv (fun G2 a => ⟨_, hI.acted a ⟨by rw [hng_low (by omega) (by omega) (by omega) (by omega) (by omega)]; exact w4, by rw [hng_low (by omega) (by omega) (by omega) (by omega) (by omega)]; exact w5, by rw [hng_low (by omega) (by omega) (by omega) (by omega) (by omega)]; exact w3, hfr.same hlo (hng_low (by omega) (by omega) (by omega) (by omega) (by omega)) (hng_er.sub (by omega) (by omega)) (hng_er.sub (by omega) (by omega)), hng_DIG hW sv⟩⟩)
  have borrow : f_X9_borrow 0 (v % 10) (1 + (u % 3)) G (fun _ G2 => ∃ W2, InvW c (j + 1) G2 W2) (fun _ _ => False) := d_borrow hW hR hg (by omega) (by omega) (by omega) stay (fun W' G2 le l6 a r => ⟨W', hI.acted a ⟨by rw [le.out 4 (by omega) (by omega) (by omega) (by omega)]; exact w4, by rw [le.out 5 (by omega) (by omega) (by omega) (by omega)]; exact w5, by rw [le.out 3 (by omega) (by omega) (by omega) (by omega)]; exact w3, fun d d0 d1 => by
      rw [le.bor (by omega) (by omega) ⟨hlo.1, l6⟩]
      by_cases cc : d = v % 10
      · rw [if_pos ⟨rfl, cc⟩, cc, le.fri]
        have := hfr (v % 10) (by omega) (by omega)
        omega
      · rw [if_neg (fun q => cc q.2), Int.add_zero]
        have e : friW W' 0 (1 + d) = friW W 0 (1 + d) := le.out _ (by omega) (by omega) (by omega) (by omega)
        rw [e]; exact hfr d d0 d1, hdg.same (fun k k0 k1 => le.out k (by omega) (by omega) (by omega) (by omega))⟩⟩)
  -- places fell, cards of one's own changed
  have own : ∀ W' G2, (∀ k, k < 456 → ¬ (15 ≤ k ∧ k < 51) → ¬ (276 ≤ k ∧ k < 438) → W' k = W k) → (∀ p, 0 ≤ p → p < 54 → plaW W' p 0 = -1 ∨ plaW W' p 0 = plaW W p 0) → Acted j W W' G G2 → ∃ W2, InvW c (j + 1) G2 W2 := fun W' G2 o f a => ⟨W', hI.acted a ⟨by rw [o 4 (by omega) (by omega) (by omega)]; exact w4, by rw [o 5 (by omega) (by omega) (by omega)]; exact w5, by rw [o 3 (by omega) (by omega) (by omega)]; exact w3, hfr.same hlo (o 6 (by omega) (by omega) (by omega)) (fun k k0 k1 => o k (by omega) (by omega) (by omega)) (fun k k0 k1 => o k (by omega) (by omega) (by omega)), hdg.fell f (fun r r0 r1 => o _ (by omega) (by omega) (by omega))⟩⟩
  have serv : ∀ W' G2, (∀ k, k < 456 → ¬ (132 ≤ k ∧ k < 276) → W' k = W k) → Acted j W W' G G2 → ∃ W2, InvW c (j + 1) G2 W2 := fun W' G2 o a => ⟨W', hI.acted a ⟨by rw [o 4 (by omega) (by omega)]; exact w4, by rw [o 5 (by omega) (by omega)]; exact w5, by rw [o 3 (by omega) (by omega)]; exact w3, hfr.same hlo (o 6 (by omega) (by omega)) (fun k k0 k1 => o k (by omega) (by omega)) (fun k k0 k1 => o k (by omega) (by omega)), hdg.same (fun k k0 k1 => o k (by omega) (by omega))⟩⟩
  refine ⟨by omega, by omega, by omega, by omega, fun _ => ?_, fun _ => hang, fun _ => hang, fun _ => hang, fun _ => ?_, fun _ => ⟨by omega, ⟨by omega, by omega⟩, borrow⟩, fun _ => ⟨by omega, ⟨by omega, by omega⟩, borrow⟩, fun _ => ?_, fun _ => ?_, fun _ => ?_, fun _ => ⟨by omega, fun _ => b01 (fun x hx => ?_), fun _ => b01 (fun x hx => ?_)⟩, fun _ => ⟨by omega, hyN_q c1 (fun r r0 r1 => ?_)⟩, fun _ => ⟨by omega, fun _ => ⟨by omega, by omega, ⟨by omega, by omega⟩, ?_⟩, fun _ => hyN_q c1 (fun r r0 r1 => ?_)⟩, fun _ => ⟨by omega, fun _ => hang, fun _ => ?_⟩⟩
  · exact d_undo hI (fun G2 W2 h r => ⟨W2, h.mono (by omega)⟩)
  · refine d_hold (by omega) hW hR hg (fun _ => stay 0) (fun G2 _ a => ⟨_, hI.acted a ?_⟩)
    have f7 : Fell _ (holdW W) (heldW W) := fellW_is (fallW (heldW W) (cntW (-1) (heldW W))) (heldW W)
    have oh := held_out hW
    have lo : ∀ k, k < 276 → k ≠ 6 → k ≠ 8 → ¬ (51 ≤ k ∧ k < 132) → holdW W k = W k := fun k k0 k1 k2 k3 => (f7.1 k (by omega)).trans (oh k (by omega) k1 k2 k3)
    refine ⟨by rw [lo 4 (by omega) (by omega) (by omega) (by omega)]; exact w4, by rw [lo 5 (by omega) (by omega) (by omega) (by omega)]; exact w5, by rw [lo 3 (by omega) (by omega) (by omega) (by omega)]; exact w3, fun d d0 d1 => ?_, hdg.fell (fun p p0 p1 => ?_) (fun r r0 r1 => ?_)⟩
    · have q1 : friW (holdW W) 0 (1 + d) = friW (heldW W) 0 (1 + d) := f7.1 _ (by omega)
      have q2 : borW (holdW W) 0 d = borW (heldW W) 0 d := rR_bor (f7.1 6 (by omega)) (fun k k0 k1 => f7.1 k (by omega)) (held_flr hW).1.2
      rw [q1, q2, held_sum hW (by omega) (by omega) d0 d1]; exact hfr d d0 d1
    · rcases f7.same p p0 p1 with y | y
      · exact Or.inl y
      · have e9 : plaW (heldW W) p 0 = plaW W p 0 := oh _ (by omega) (by omega) (by omega) (by omega)
        exact Or.inr (y.trans e9)
    · have e9 : hunW (heldW W) r = hunW W r := oh _ (by omega) (by omega) (by omega) (by omega)
      have e8 : hunW (holdW W) r = hunW (heldW W) r := f7.1 _ (by omega)
      exact e8.trans e9
  · refine e_size (by omega) hW hR ⟨fun _ => stay 0, fun q => e_size (by omega) hW hR ⟨q, ?_⟩⟩
    have e6 : szW W 7 = W 6 := rfl
    rw [e6] at q ⊢
    have m0 := Int.emod_nonneg v (show W 6 ≠ 0 by omega)
    have m1 := Int.emod_lt_of_pos v q
    refine d_giveBack hW hR hg ⟨m0, m1⟩ (fun W' G2 o s f a r => ⟨W', hI.acted a ⟨by rw [o 4 (by omega) (by omega) (by omega) (by omega)]; exact w4, by rw [o 5 (by omega) (by omega) (by omega) (by omega)]; exact w5, by rw [o 3 (by omega) (by omega) (by omega) (by omega)]; exact w3, fun d d0 d1 => ?_, hdg.fell f (fun r r0 r1 => o _ (by omega) (by omega) (by omega) (by omega))⟩⟩)
    rw [s 0 d (by omega) (by omega) d0 d1]; exact hfr d d0 d1
  · refine e_size (by omega) hW hR ?_
    have e6 : szW W 4 = W 3 := rfl
    rw [e6]
    have m0 := Int.emod_nonneg v (show W 3 ≠ 0 by omega)
    have m1 := Int.emod_lt_of_pos v (show 0 < W 3 by omega)
    exact ⟨by omega, by omega, ⟨by omega, by omega⟩, d_buy hW hR hg ⟨m0, m1⟩ (by omega) stay (fun W' G2 o a r => own W' G2 (fun k k0 k1 k2 => o k k0 (by omega)) (fun p p0 p1 => Or.inr (o _ (by omega) (by omega))) a)⟩
  · refine e_size (by omega) hW hR ?_
    have e6 : szW W 4 = W 3 := rfl
    rw [e6]
    have m0 := Int.emod_nonneg v (show W 3 ≠ 0 by omega)
    have m1 := Int.emod_lt_of_pos v (show 0 < W 3 by omega)
    exact ⟨by omega, by omega, ⟨by omega, by omega⟩, d_lose hW hR hg ⟨m0, m1⟩ (by omega) stay (fun W' G2 o f a r => own W' G2 o f a)⟩
  · exact d_setSplit hW hR hg hx (fun W' G2 o a r => ⟨W', hI.acted a ⟨by rw [o 4 (by omega)]; exact w4, by rw [o 5 (by omega)]; exact w5, by rw [o 3 (by omega)]; exact w3, hfr.same hlo (o 6 (by omega)) (fun k k0 k1 => o k (by omega)) (fun k k0 k1 => o k (by omega)), hdg.same (fun k k0 k1 => o k (by omega))⟩⟩)
  · exact d_setTurn hW hR hg hx (fun W' G2 o a r => ⟨W', hI.acted a ⟨by rw [o 4 (by omega)]; exact w4, by rw [o 5 (by omega)]; exact w5, by rw [o 3 (by omega)]; exact w3, hfr.same hlo (o 6 (by omega)) (fun k k0 k1 => o k (by omega)) (fun k k0 k1 => o k (by omega)), hdg.same (fun k k0 k1 => o k (by omega))⟩⟩)
  · exact d_setHymn hW hR hg sv ⟨by omega, by omega⟩ ⟨r0, r1⟩ stay (fun W' G2 o a r => serv W' G2 o a)
  · exact d_addCard hW hR hg (by omega) (by omega) (by omega) stay (fun W' G2 o o3 a r => ⟨W', hI.acted a ⟨by rw [o 4 (by omega) (by omega) (by omega)]; exact w4, by rw [o 5 (by omega) (by omega) (by omega)]; exact w5, by rw [o3]; omega, hfr.same hlo (o 6 (by omega) (by omega) (by omega)) (fun k k0 k1 => o k (by omega) (by omega) (by omega)) (fun k k0 k1 => o k (by omega) (by omega) (by omega)), hdg.same (fun k k0 k1 => o k (by omega) (by omega) (by omega))⟩⟩)
  · exact d_addHymn hW hR hg sv ⟨r0, r1⟩ stay (fun W' G2 o a r => serv W' G2 o a)
  · refine d_clear hW hR hg (fun G2 a r => ⟨_, hI.acted a ⟨by rw [bare_is.1 4 (by omega) (by omega)]; exact w4, by rw [bare_is.1 5 (by omega) (by omega)]; exact w5, by rw [bare_is.1 3 (by omega) (by omega)]; exact w3, hfr.same hlo (bare_is.1 6 (by omega) (by omega)) (fun k k0 k1 => bare_is.1 k (by omega) (by omega)) (fun k k0 k1 => bare_is.1 k (by omega) (by omega)), fun r col r0 r1 c0 c1 => Or.inl (bare_is.pla (by omega) (by omega) (by omega) (by omega))⟩⟩)
end PF
