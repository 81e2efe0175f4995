/-- the cards of a kind that go back -/
def eW (W : WT) (kd : Int) : Int := sumZ (fun l => if (loanW W l 0 = kd / 10 ∧ loanW W l 1 = kd % 10) ∧ loanW W l 3 = 1 then loanW W l 2 else 0) (W 6)
theorem eW_rng {W : WT} {n : Int} (hW : WF n W) {kd x : Int} (hx0 : 0 ≤ x) (hx : x ≤ W 6) : 0 ≤ sumZ (fun l => if (loanW W l 0 = kd / 10 ∧ loanW W l 1 = kd % 10) ∧ loanW W l 3 = 1 then loanW W l 2 else 0) x ∧ sumZ (fun l => if (loanW W l 0 = kd / 10 ∧ loanW W l 1 = kd % 10) ∧ loanW W l 3 = 1 then loanW W l 2 else 0) x ≤ 60 * x := by
  constructor
  · refine sumZ_ge (fun i h0 h1 => ?_)
    have := hW.ln i h0 (by omega)
    split <;> omega
  · refine sumZ_le hx0 (fun i h0 h1 => ?_)
    have := hW.ln i h0 (by omega)
    split <;> omega
theorem eW_le {W : WT} {n : Int} (hW : WF n W) {kd : Int} : eW W kd ≤ borW W (kd / 10) (kd % 10) := by
  have lo := hW.lo
  have k : sumZ (fun l => (if loanW W l 0 = kd / 10 ∧ loanW W l 1 = kd % 10 then loanW W l 2 else 0) - (if (loanW W l 0 = kd / 10 ∧ loanW W l 1 = kd % 10) ∧ loanW W l 3 = 1 then loanW W l 2 else 0)) (W 6) + eW W kd = borW W (kd / 10) (kd % 10) := by
    unfold eW borW
    rw [← sumZ_add]
    exact sumZ_congr (fun i i0 i1 => by omega)
  have g : 0 ≤ sumZ (fun l => (if loanW W l 0 = kd / 10 ∧ loanW W l 1 = kd % 10 then loanW W l 2 else 0) - (if (loanW W l 0 = kd / 10 ∧ loanW W l 1 = kd % 10) ∧ loanW W l 3 = 1 then loanW W l 2 else 0)) (W 6) := sumZ_ge (fun i i0 i1 => by
    have := hW.ln i i0 i1
    by_cases c : loanW W i 0 = kd / 10 ∧ loanW W i 1 = kd % 10
    · rw [if_pos c]
      split <;> omega
    · rw [if_neg c, if_neg (fun w => c w.1)]; omega)
  omega
theorem c_endingOf {W : WT} {n : Int} {G : GH} {Q : Int → Prop} {kd : Int} (hW : WF n W) (hR : RepS G 1 W) (hk : 0 ≤ kd ∧ kd < 30) (h : Q (eW W kd)) : f_X8_endingOf 3 kd G Q := by
  have lo := hW.lo
  unfold f_X8_endingOf
  show loop2 _ 0 0
  have e8 : G 3 8 = W 6 := hR.lo
  rw [e8]
  refine sum_loop (fun l => if (loanW W l 0 = kd / 10 ∧ loanW W l 1 = kd % 10) ∧ loanW W l 3 = 1 then loanW W l 2 else 0) (W 6) lo.1 (fun k acc x h0 h1 hacc kk => ⟨fun c => ?_, fun c => ⟨⟨h0, by omega⟩, ?_⟩⟩)
  · have e : x = W 6 := by omega
    subst e
    rw [hacc, Int.zero_add]; exact h
  · have kk := kk c
    have r := hR.ln x h0 c
    have ln := hW.ln x h0 c
    have sr := eW_rng hW (kd := kd) h0 h1
    have e9 : G 9 x.toNat = loanW W x 0 * 10 + loanW W x 1 := r.1
    have e10 : G 10 x.toNat = loanW W x 2 := r.2.1
    have e11 : G 11 x.toNat = loanW W x 3 := r.2.2
    show (G 9 x.toNat ≠ kd → _) ∧ (G 9 x.toNat = kd → (G 11 x.toNat ≠ 1 → _) ∧ (G 11 x.toNat = 1 → inR (acc + G 10 x.toNat) ∧ k (acc + G 10 x.toNat) (x + 1)))
    rw [e9, e10, e11]
    refine ⟨fun c1 => ?_, fun c1 => ⟨fun c2 => ?_, fun c2 => ⟨⟨by omega, by omega⟩, ?_⟩⟩⟩
    · rw [if_neg (by omega), Int.add_zero] at kk; exact kk
    · rw [if_neg (fun w => c2 w.2), Int.add_zero] at kk; exact kk
    · rw [if_pos ⟨by omega, c2⟩] at kk; exact kk
def wfW (W : WT) : Int := sumZ (fun kd => max 0 (hgW W (12 + kd) - (borW W (kd / 10) (kd % 10) - eW W kd))) 30
theorem c_wouldFall {W : WT} {n : Int} {G : GH} {Q : Int → Prop} (hW : WF n W) (hR : RepS G 1 W) (h : Q (wfW W)) : f_X9_wouldFall G Q := by
  have lo := hW.lo
  unfold f_X9_wouldFall
  refine sum_loop (fun kd => max 0 (hgW W (12 + kd) - (borW W (kd / 10) (kd % 10) - eW W kd))) 30 (by omega) (fun k acc x h0 h1 hacc kk => ⟨fun c => ?_, fun c => ⟨⟨by omega, by omega⟩, ?_⟩⟩)
  · have e : x = 30 := by omega
    subst e
    rw [hacc, Int.zero_add]; exact h
  · have kk := kk c
    have hb : ∀ i : Int, 0 ≤ i → i < 30 → 0 ≤ max 0 (hgW W (12 + i) - (borW W (i / 10) (i % 10) - eW W i)) ∧ max 0 (hgW W (12 + i) - (borW W (i / 10) (i % 10) - eW W i)) ≤ 54 := fun i i0 i1 => by
      have r := rankW_rng (W := W) (s := 12 + i) (P := 54) (by omega)
      have e : hgW W (12 + i) = rankW W (12 + i) 54 := rfl
      have := eW_le hW (kd := i)
      omega
    have s1 := sumZ_ge (f := fun kd => max 0 (hgW W (12 + kd) - (borW W (kd / 10) (kd % 10) - eW W kd))) (x := x) (fun i i0 i1 => (hb i i0 (by omega)).1)
    have s2 := sumZ_le (f := fun kd => max 0 (hgW W (12 + kd) - (borW W (kd / 10) (kd % 10) - eW W kd))) (c := 54) h0 (fun i i0 i1 => (hb i i0 (by omega)).2)
    have hx := hb x h0 c
    have e20 : G 20 (12 + x).toNat = hgW W (12 + x) := hR.hg (12 + x) (by omega) (by omega)
    have e6 : G 6 (12 + x).toNat = borW W (x / 10) (x % 10) := by
      have z := hR.ct (12 + x) (by omega) (by omega)
      rw [cnt_bor (by omega) (by omega), show 12 + x - 12 = x by omega] at z
      exact z
    have r := rankW_rng (W := W) (s := 12 + x) (P := 54) (by omega)
    have e : hgW W (12 + x) = rankW W (12 + x) 54 := rfl
    have br := hW.loan_rng (f := x / 10) (d := x % 10) lo.1 (Int.le_refl _)
    have bb : borW W (x / 10) (x % 10) = sumZ (fun l => if loanW W l 0 = x / 10 ∧ loanW W l 1 = x % 10 then loanW W l 2 else 0) (W 6) := rfl
    have er := eW_rng hW (kd := x) lo.1 (Int.le_refl _)
    have ee : eW W x = sumZ (fun l => if (loanW W l 0 = x / 10 ∧ loanW W l 1 = x % 10) ∧ loanW W l 3 = 1 then loanW W l 2 else 0) (W 6) := rfl
    refine c_endingOf hW hR ⟨h0, c⟩ ?_
    rw [e20, e6]
    exact ⟨⟨by omega, by omega⟩, ⟨by omega, by omega⟩, kk⟩
theorem wf_is {W : WT} {n : Int} (hW : WF n W) : sumZ (fun p => b2 (fallW (heldW W) (cntW (-1) (heldW W)) p)) 54 = wfW W := by
  have oh := held_out hW
  have fl := held_flr hW
  have cb := fun s (s0 : 0 ≤ s) (s1 : s < 42) => fl.cnt hW (oh 3 (by omega) (by omega) (by omega) (by omega)) (fun k q0 q1 => oh k (by omega) (by omega) (by omega) (by omega)) s0 s1
  have ep : EqR 276 438 (heldW W) W := fun k q0 q1 => oh k (by omega) (by omega) (by omega) (by omega)
  rw [← fall_sum (fun p p0 p1 => by
    have e9 : plaW (heldW W) p 1 = plaW W p 1 := rR_pla ep p0 p1 (by omega) (by omega)
    rw [e9]; exact (hW.pl p p0 p1).2.1) (fun s s0 s1 => (cb s s0 s1).1)]
  have e : sumZ (fun s => max 0 (hgW (heldW W) s - cntW (-1) (heldW W) s)) 42 = sumN (fun s => max 0 (hgW (heldW W) s - cntW (-1) (heldW W) s)) (12 + 30) := rfl
  rw [e, sumN_split, sumN_zero 12 (fun s s0 s1 => ?_), Int.zero_add]
  · refine sumN_congr 30 (fun i i0 i1 => ?_)
    show max 0 (hgW (heldW W) (12 + i) - cntW (-1) (heldW W) (12 + i)) = max 0 (hgW W (12 + i) - (borW W (i / 10) (i % 10) - eW W i))
    rw [rR_hg ep, cnt_bor (by omega) (by omega), show 12 + i - 12 = i by omega, held_bor hW]
    rfl
  · rw [rR_hg ep]
    have c1 := hW.hc s s0 (by omega)
    have e2 : cntW (-1) (heldW W) s = cntW (-1) W s := by
      have e3 : cardW (heldW W) s 2 = cardW W s 2 := oh _ (by omega) (by omega) (by omega) (by omega)
      rw [cnt_own s0 (by omega), cnt_own s0 (by omega), oh 3 (by omega) (by omega) (by omega) (by omega), e3]
    rw [e2]; omega
theorem wf_none {W : WT} {n : Int} (hW : WF n W) (h7 : W 7 = -1) : wfW W = 0 := by
  refine sumN_zero 30 (fun i i0 i1 => ?_)
  have z : hgW W (12 + i) = 0 := sumN_zero 54 (fun p p0 p1 => b2_f (by
    have a := hW.nh h7 p p0 (by omega)
    have b := (hW.pl p p0 (by omega)).2.2.2.1.mp a
    rw [b]; omega))
  have := eW_le hW (kd := i)
  rw [z]; omega
section A13
variable {j : Nat} {G : GH} {K : GH → Prop} {L : Nat} {xs : Nat → Int32} {i4 : Int}
end A13
