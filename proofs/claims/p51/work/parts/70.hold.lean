-- ===== PURE LAYER: a service is held: the loans, both sides; hold =====
def decW (W : WT) : WT := fun k => if 84 ≤ k ∧ (k : Int) < 84 + 4 * W 6 ∧ k % 4 = 3 then W k - 1 else W k
def hV (V : WT) : Nat → WT
  | 0 => V
  | k + 1 => if loanW (hV V k) (V 6 - 1 - (k : Int)) 3 = 0 then endW (hV V k) (V 6 - 1 - (k : Int)) else hV V k
abbrev gV (V : WT) (f d l : Int) : Int := if (loanW V l 0 = f ∧ loanW V l 1 = d) ∧ loanW V l 3 = 0 then loanW V l 2 else 0
section HO
variable {V U U' W : WT} {l f d m x y z n : Int}
theorem endW_out (hf : 0 ≤ loanW V l 0 ∧ loanW V l 0 ≤ 2) (hd : 0 ≤ loanW V l 1 ∧ loanW V l 1 ≤ 9) (hl : 0 ≤ l) (h6 : V 6 ≤ 12) {k : Nat} (k1 : k ≠ 6) (k2 : ¬ (51 ≤ k ∧ k < 132)) : endW V l k = V k := by
  unfold endW
  rw [if_neg k1, if_neg (by omega), if_neg (by omega)]
def IV (V : WT) (k : Nat) : Prop := FLr (hV V k) (V 6 - k) ∧ V 6 - k ≤ hV V k 6 ∧ (∀ l h9 : Int, 0 ≤ l → l < V 6 - k → 0 ≤ h9 → h9 < 4 → loanW (hV V k) l h9 = loanW V l h9) ∧ (∀ i : Nat, i ≠ 6 → ¬ (51 ≤ i ∧ i < 132) → hV V k i = V i) ∧
  (∀ f d : Int, borW (hV V k) f d = borW V f d - (sumZ (gV V f d) (V 6) - sumZ (gV V f d) (V 6 - k))) ∧ (∀ f, 0 ≤ f → f < 3 → friW (hV V k) f 0 = friW V f 0)
theorem hV_inv (F : FLr V (V 6)) : ∀ k : Nat, (k : Int) ≤ V 6 → IV V k
  | 0, _ => by
    refine ⟨?_, ?_, fun _ _ _ _ _ _ => rfl, fun _ _ _ => rfl, fun f d => ?_, fun _ _ _ => rfl⟩
    · rw [show V 6 - ((0 : Nat) : Int) = V 6 by omega]; exact F
    · show V 6 - ((0 : Nat) : Int) ≤ V 6
      omega
    · rw [show V 6 - ((0 : Nat) : Int) = V 6 by omega]
      show borW V f d = _
      omega
  | k + 1, hk => by
    obtain ⟨I1, I2, I3, I4, I5, I6⟩ := hV_inv F k (by omega)
    have e1 : V 6 - ((k + 1 : Nat) : Int) = V 6 - 1 - (k : Int) := by omega
    have hl0 : 0 ≤ V 6 - 1 - (k : Int) := by omega
    have h6 := I1.1
    have h4 := I1.2.1
    have lU := I1.2.2.2 (V 6 - 1 - (k : Int)) hl0 (by omega)
    have s0 : ∀ f d, sumZ (gV V f d) (V 6 - k) = sumZ (gV V f d) (V 6 - 1 - k) + gV V f d (V 6 - 1 - k) := fun f d => by
      rw [show V 6 - (k : Int) = (V 6 - 1 - k) + 1 by omega]; exact sumZ_s hl0
    have l0 := I3 (V 6 - 1 - k) 0 hl0 (by omega) (by omega) (by omega)
    have l1 := I3 (V 6 - 1 - k) 1 hl0 (by omega) (by omega) (by omega)
    have l2 := I3 (V 6 - 1 - k) 2 hl0 (by omega) (by omega) (by omega)
    have l3 := I3 (V 6 - 1 - k) 3 hl0 (by omega) (by omega) (by omega)
    unfold IV
    rw [e1]
    by_cases c : loanW (hV V k) (V 6 - 1 - (k : Int)) 3 = 0
    · have eU : hV V (k + 1) = endW (hV V k) (V 6 - 1 - (k : Int)) := if_pos c
      have q : Ended (endW (hV V k) (V 6 - 1 - (k : Int))) (hV V k) (V 6 - 1 - (k : Int)) _ _ _ := endW_is rfl (by omega) rfl lU.2.1 rfl ⟨hl0, by omega⟩
      rw [eU]
      refine ⟨q.flr I1 ⟨hl0, by omega⟩ (by omega) (Or.inr rfl), ?_, fun i h9 i0 i1 a0 a1 => ?_, fun i k1 k2 => ?_, fun f d => ?_, fun f f0 f1 => ?_⟩
      · rw [q.2.1]; omega
      · rw [q.low ⟨hl0, by omega⟩ h6.2 (by omega) lU.2.1 i0 i1 a0 a1]; exact I3 i h9 i0 (by omega) a0 a1
      · rw [endW_out (by omega) lU.2.1 hl0 h6.2 k1 k2]; exact I4 i k1 k2
      · rw [q.bor ⟨hl0, by omega⟩ h6.2 (by omega) lU.2.1, I5, s0]
        have eg : gV V f d (V 6 - 1 - k) = if f = loanW (hV V k) (V 6 - 1 - (k : Int)) 0 ∧ d = loanW (hV V k) (V 6 - 1 - (k : Int)) 1 then loanW (hV V k) (V 6 - 1 - (k : Int)) 2 else 0 := by
          unfold gV
          rw [l0, l1, l2]
          rw [l3] at c
          by_cases c2 : loanW V (V 6 - 1 - (k : Int)) 0 = f ∧ loanW V (V 6 - 1 - (k : Int)) 1 = d
          · rw [if_pos ⟨c2, c⟩, if_pos ⟨c2.1.symm, c2.2.symm⟩]
          · rw [if_neg (fun w => c2 w.1), if_neg (fun w => c2 ⟨w.1.symm, w.2.symm⟩)]
        rw [← eg]; omega
      · rw [q.fri0 ⟨hl0, by omega⟩ h6.2 (by omega) lU.2.1 f0 f1 (by omega) (by omega) (by omega)]; exact I6 f f0 f1
    · have eU : hV V (k + 1) = hV V k := if_neg c
      rw [eU]
      refine ⟨⟨I1.1, I1.2.1, I1.2.2.1, fun i i0 i1 => ?_⟩, by omega, fun i h9 i0 i1 a0 a1 => I3 i h9 i0 (by omega) a0 a1, I4, fun f d => ?_, I6⟩
      · have w := I1.2.2.2 i i0 i1
        refine ⟨w.1, w.2.1, w.2.2.1, w.2.2.2.1, fun q9 => ?_⟩
        by_cases c2 : i = V 6 - 1 - k
        · have := w.2.2.2.1
          rw [c2] at this ⊢
          omega
        · exact w.2.2.2.2 (by omega)
      · rw [I5, s0]
        have eg : gV V f d (V 6 - 1 - k) = 0 := by
          unfold gV
          rw [l3] at c
          rw [if_neg (fun w => c w.2)]
        rw [eg]; omega
theorem FLr.of8 (F : FLr U x) (e : ∀ k, k ≠ 8 → U' k = U k) : FLr U' x := by
  obtain ⟨h6, h4, hf, hl⟩ := F
  have ef : ∀ f h9 : Int, 0 ≤ f → 0 ≤ h9 → friW U' f h9 = friW U f h9 := fun f h9 f0 h0 => e _ (by omega)
  have el : ∀ f h9 : Int, 0 ≤ f → 0 ≤ h9 → loanW U' f h9 = loanW U f h9 := fun f h9 f0 h0 => e _ (by omega)
  have eb : ∀ f d, borW U' f d = borW U f d := fun f d => rR_bor (e 6 (by omega)) (fun k q0 q1 => e k (by omega)) h6.2
  refine ⟨by rw [e 6 (by omega)]; exact h6, by rw [e 4 (by omega)]; exact h4, fun f f0 f1 => ?_, fun l l0 l1 => ?_⟩
  · rw [e 4 (by omega)] at f1
    rw [ef f 0 f0 (by omega)]
    refine ⟨(hf f f0 f1).1, fun d d0 d1 => ?_⟩
    rw [ef f (1 + d) f0 (by omega), eb]; exact (hf f f0 f1).2 d d0 d1
  · rw [e 6 (by omega)] at l1
    rw [el l 0 l0 (by omega), el l 1 l0 (by omega), el l 2 l0 (by omega), el l 3 l0 (by omega), e 4 (by omega)]; exact hl l l0 l1
theorem cnt_of8 (h3 : U 3 ≤ 12) (h6 : U 6 ≤ 12) (e : ∀ k, k ≠ 8 → U' k = U k) {s : Int} (s0 : 0 ≤ s) : cntW (-1) U' s = cntW (-1) U s := rR_cnt (e 3 (by omega)) (fun k q0 q1 => e k (by omega)) (e 6 (by omega)) (fun k q0 q1 => e k (by omega)) h3 h6 s0
theorem RLo.of8 {G : GH} (R : RLo G U x) (h3 : U 3 ≤ 12) (h6 : U 6 ≤ 12) (e : ∀ k, k ≠ 8 → U' k = U k) : RLo G U' x := by
  obtain ⟨R1, R2, R3, R4⟩ := R
  have ef : ∀ f h9 : Int, 0 ≤ f → 0 ≤ h9 → friW U' f h9 = friW U f h9 := fun f h9 f0 h0 => e _ (by omega)
  have el : ∀ f h9 : Int, 0 ≤ f → 0 ≤ h9 → loanW U' f h9 = loanW U f h9 := fun f h9 f0 h0 => e _ (by omega)
  refine ⟨by rw [e 6 (by omega)]; exact R1, fun f d f0 f1 d0 d1 => ?_, fun s s0 s1 => ?_, fun l l0 l1 => ?_⟩
  · rw [e 4 (by omega)] at f1
    rw [ef f (1 + d) f0 (by omega)]; exact R2 f d f0 f1 d0 d1
  · rw [cnt_of8 h3 h6 e s0]; exact R3 s s0 s1
  · rw [e 6 (by omega)] at l1
    rw [el l 0 l0 (by omega), el l 1 l0 (by omega), el l 2 l0 (by omega), el l 3 l0 (by omega)]; exact R4 l l0 l1
-- every loan has a service less
theorem dec_loan (h6 : W 6 ≤ 12) {i h9 : Int} (i0 : 0 ≤ i) (i1 : i < W 6) (h0 : 0 ≤ h9) (h1 : h9 < 4) : loanW (decW W) i h9 = if h9 = 3 then loanW W i 3 - 1 else loanW W i h9 := by
  show decW W ((84 + (4 * i)) + h9).toNat = _
  unfold decW
  by_cases c : h9 = 3
  · rw [if_pos c, if_pos (by omega), c]
  · rw [if_neg c, if_neg (by omega)]
theorem dec_out (h6 : W 6 ≤ 12) {k : Nat} (hk : ¬ (84 ≤ k ∧ k < 132)) : decW W k = W k := by
  unfold decW
  rw [if_neg (by omega)]
theorem dec_bor (h : WF n W) (f d : Int) : borW (decW W) f d = borW W f d := by
  have lo := h.lo
  unfold borW
  rw [dec_out lo.2 (k := 6) (by omega)]
  refine sumZ_congr (fun i i0 i1 => ?_)
  rw [dec_loan lo.2 i0 i1 (by omega) (by omega), dec_loan lo.2 i0 i1 (by omega) (by omega), dec_loan lo.2 i0 i1 (by omega) (by omega), if_neg (show ¬ (0 : Int) = 3 by omega), if_neg (show ¬ (1 : Int) = 3 by omega), if_neg (show ¬ (2 : Int) = 3 by omega)]
theorem dec_flr (h : WF n W) : FLr (decW W) (decW W 6) := by
  have lo := h.lo
  have fr := h.fr
  rw [dec_out lo.2 (k := 6) (by omega)]
  refine ⟨by rw [dec_out lo.2 (k := 6) (by omega)]; exact lo, by rw [dec_out lo.2 (k := 4) (by omega)]; exact fr, fun f f0 f1 => ?_, fun l l0 l1 => ?_⟩
  · rw [dec_out lo.2 (k := 4) (by omega)] at f1
    have e : ∀ h9 : Int, 0 ≤ h9 → h9 < 11 → friW (decW W) f h9 = friW W f h9 := fun h9 a0 a1 => dec_out lo.2 (by omega)
    rw [e 0 (by omega) (by omega)]
    refine ⟨(h.fd f f0 f1).1, fun d d0 d1 => ?_⟩
    rw [e (1 + d) (by omega) (by omega), dec_bor h]; exact (h.fd f f0 f1).2 d d0 d1
  · rw [dec_out lo.2 (k := 6) (by omega)] at l1
    have w := h.ln l l0 l1
    rw [dec_loan lo.2 l0 l1 (by omega) (by omega), dec_loan lo.2 l0 l1 (by omega) (by omega), dec_loan lo.2 l0 l1 (by omega) (by omega), dec_loan lo.2 l0 l1 (by omega) (by omega), if_neg (by omega), if_neg (by omega), if_neg (by omega), if_pos rfl, dec_out lo.2 (k := 4) (by omega)]
    exact ⟨w.1, w.2.1, w.2.2.1, by omega, fun q => by omega⟩
theorem dec_cnt (h : WF n W) {s : Int} (s0 : 0 ≤ s) (s1 : s < 42) : cntW (-1) (decW W) s = cntW (-1) W s := by
  have lo := h.lo
  by_cases c : s < 12
  · have e : cardW (decW W) s 2 = cardW W s 2 := dec_out lo.2 (by omega)
    rw [cnt_own s0 c, cnt_own s0 c, dec_out lo.2 (k := 3) (by omega), e]
  · rw [cnt_bor (by omega) s1, cnt_bor (by omega) s1, dec_bor h]
/-- the loans that end when the service is held; W with one more that was held -/
abbrev heldN (W : WT) : Nat := (decW W 6).toNat
def heldW (W : WT) : WT := fun k => if k = 8 then W 8 + 1 else hV (decW W) (heldN W) k
theorem held_inv (h : WF n W) : IV (decW W) (heldN W) := by
  have lo := h.lo
  have e6 : decW W 6 = W 6 := dec_out lo.2 (by omega)
  have en : heldN W = (decW W 6).toNat := rfl
  exact hV_inv (dec_flr h) _ (by omega)
theorem held_n8 {k : Nat} (hk : k ≠ 8) : heldW W k = hV (decW W) (heldN W) k := if_neg hk
theorem held_x0 (h : WF n W) : decW W 6 - (heldN W : Int) = 0 := by
  have lo := h.lo
  have e6 : decW W 6 = W 6 := dec_out lo.2 (by omega)
  have en : heldN W = (decW W 6).toNat := rfl
  omega
theorem held_flr (h : WF n W) : FLr (heldW W) 0 := by
  have I := (held_inv h).1
  rw [held_x0 h] at I
  exact I.of8 (fun k hk => held_n8 hk)
theorem held_outs (h : WF n W) {k : Nat} (k0 : k ≠ 6) (k1 : k ≠ 8) (k2 : ¬ (51 ≤ k ∧ k < 132)) : heldW W k = W k := by
  rw [held_n8 k1, (held_inv h).2.2.2.1 k k0 k2]
  exact dec_out h.lo.2 (by omega)
theorem held_out (h : WF n W) : OutH (heldW W) W := fun k _ k1 k2 k3 => held_outs h k1 k2 k3
theorem held_bor (h : WF n W) (f d : Int) : borW (heldW W) f d = borW W f d - sumZ (fun l => if (loanW W l 0 = f ∧ loanW W l 1 = d) ∧ loanW W l 3 = 1 then loanW W l 2 else 0) (W 6) := by
  have lo := h.lo
  have I := held_inv h
  have e : borW (heldW W) f d = borW (hV (decW W) (heldN W)) f d := rR_bor (held_n8 (by omega)) (fun k q0 q1 => held_n8 (by omega)) I.1.1.2
  rw [e, I.2.2.2.2.1, held_x0 h, dec_bor h, sumZ_0, Int.sub_zero, dec_out lo.2 (k := 6) (by omega)]
  have e2 : sumZ (gV (decW W) f d) (W 6) = sumZ (fun l => if (loanW W l 0 = f ∧ loanW W l 1 = d) ∧ loanW W l 3 = 1 then loanW W l 2 else 0) (W 6) := sumZ_congr (fun i i0 i1 => by
    unfold gV
    rw [dec_loan lo.2 i0 i1 (by omega) (by omega), dec_loan lo.2 i0 i1 (by omega) (by omega), dec_loan lo.2 i0 i1 (by omega) (by omega), dec_loan lo.2 i0 i1 (by omega) (by omega), if_neg (show ¬ (0 : Int) = 3 by omega), if_neg (show ¬ (1 : Int) = 3 by omega), if_neg (show ¬ (2 : Int) = 3 by omega), if_pos rfl]
    by_cases c : (loanW W i 0 = f ∧ loanW W i 1 = d) ∧ loanW W i 3 = 1
    · rw [if_pos c, if_pos ⟨c.1, by omega⟩]
    · rw [if_neg c, if_neg (fun w => c ⟨w.1, by omega⟩)])
  rw [e2]
theorem held_cb (h : WF n W) {k : Nat} (hk : (k : Int) ≤ decW W 6) {s : Int} (s0 : 0 ≤ s) (s1 : s < 42) : 0 ≤ cntW (-1) (hV (decW W) k) s ∧ cntW (-1) (hV (decW W) k) s ≤ 720 := by
  have lo := h.lo
  have I := hV_inv (dec_flr h) k hk
  exact I.1.cnt h ((I.2.2.2.1 3 (by omega) (by omega)).trans (dec_out lo.2 (by omega))) (fun i q0 q1 => (I.2.2.2.1 i (by omega) (by omega)).trans (dec_out lo.2 (by omega))) s0 s1
end HO
/-- the class's loans after a service -/
theorem c_pass {W : WT} {n : Int} {G : GH} {Q : GH → Prop} (hW : WF n W) (R : RLo G (decW W) (decW W 6)) (h : ∀ G' : GH, (∀ z, z ≠ 3 → z ≠ 6 → ¬ (8 ≤ z ∧ z ≤ 11) → G' z = G z) → (∀ k, k ≠ 8 → G' 3 k = G 3 k) → RLo G' (hV (decW W) (heldN W)) 0 → Q G') : f_X8_passService 3 G Q := by
  have lo := hW.lo
  have F := dec_flr hW
  have e6 : decW W 6 = W 6 := dec_out lo.2 (by omega)
  have R1 := R.1
  unfold f_X8_passService
  rw [R1]
  refine ⟨⟨by omega, by omega⟩, ?_⟩
  refine loopI2 (I := fun x G1 => (-1 ≤ x ∧ x ≤ decW W 6 - 1) ∧ (∀ z, z ≠ 3 → z ≠ 6 → ¬ (8 ≤ z ∧ z ≤ 11) → G1 z = G z) ∧ (∀ k, k ≠ 8 → G1 3 k = G 3 k) ∧ RLo G1 (hV (decW W) (decW W 6 - 1 - x).toNat) (x + 1)) (μ := fun x _ => (x + 1).toNat) (fun k x G1 hI ih => ?_) _ G ⟨by omega, fun _ _ _ _ => rfl, fun _ _ => rfl, ?_⟩
  · obtain ⟨hx, ho, hp, hr⟩ := hI
    refine ⟨fun c => ?_, fun c => ⟨⟨c, by omega⟩, ?_⟩⟩
    · have e : x = -1 := by omega
      rw [e] at hr
      rw [show decW W 6 - 1 - -1 = decW W 6 by omega, show (-1 : Int) + 1 = 0 by omega] at hr
      exact h G1 ho hp hr
    · have I := hV_inv F (decW W 6 - 1 - x).toNat (by omega)
      have hxe : decW W 6 - ((decW W 6 - 1 - x).toNat : Int) = x + 1 := by omega
      have F1 := I.1
      have I2 := I.2.1
      rw [hxe] at F1 I2
      obtain ⟨r1, r2, r3, r4⟩ := hr
      have w := r4 x c (by omega)
      rw [if_pos (by omega)] at w
      have lu := F1.2.2.2 x c (by omega)
      show inR (G1 11 x.toNat - 1) ∧ _
      rw [w.2.2]
      refine ⟨⟨by omega, by omega⟩, fun G2 e2 => ?_⟩
      have v2 : G2 11 x.toNat = loanW (hV (decW W) (decW W 6 - 1 - x).toNat) x 3 := by rw [e2, upG_same]; omega
      have o2 : ∀ z, z ≠ 11 → G2 z = G1 z := fun z hz => by rw [e2, up_na hz]
      have rl2 : RLo G2 (hV (decW W) (decW W 6 - 1 - x).toNat) x := by
        refine ⟨by rw [o2 3 (by omega)]; exact r1, fun f d f0 f1 d0 d1 => by rw [o2 8 (by omega)]; exact r2 f d f0 f1 d0 d1, fun s s0 s1 => by rw [o2 6 (by omega)]; exact r3 s s0 s1, fun l l0 l1 => ?_⟩
        rw [o2 9 (by omega), o2 10 (by omega)]
        have v := r4 l l0 l1
        refine ⟨v.1, v.2.1, ?_⟩
        by_cases c2 : l = x
        · rw [c2, v2, if_neg (by omega)]; omega
        · rw [e2, upG_nk (by omega), v.2.2]
          by_cases c3 : l < x
          · rw [if_pos c3, if_pos (by omega)]
          · rw [if_neg c3, if_neg (by omega)]
      have nx : (decW W 6 - 1 - (x + -1)).toNat = (decW W 6 - 1 - x).toNat + 1 := by omega
      have ex : decW W 6 - 1 - ((decW W 6 - 1 - x).toNat : Int) = x := by omega
      show (G2 11 x.toNat ≠ 0 → _) ∧ (G2 11 x.toNat = 0 → _)
      rw [v2]
      refine ⟨fun c2 => ih _ _ ⟨by omega, fun z z0 z1 z2 => by rw [o2 z (by omega)]; exact ho z z0 z1 z2, fun k hk => by rw [o2 3 (by omega)]; exact hp k hk, ?_⟩ (by omega), fun c2 => ?_⟩
      · have eU : hV (decW W) ((decW W 6 - 1 - x).toNat + 1) = hV (decW W) (decW W 6 - 1 - x).toNat := if_neg (by rw [ex]; exact c2)
        rw [nx, eU, show x + -1 + 1 = x by omega]; exact rl2
      · have q : Ended (endW (hV (decW W) (decW W 6 - 1 - x).toNat) x) (hV (decW W) (decW W 6 - 1 - x).toNat) x _ _ _ := endW_is rfl (by have := F1.2.1; omega) rfl lu.2.1 rfl ⟨c, by omega⟩
        have eU : hV (decW W) ((decW W 6 - 1 - x).toNat + 1) = endW (hV (decW W) (decW W 6 - 1 - x).toNat) x := by
          have : hV (decW W) ((decW W 6 - 1 - x).toNat + 1) = endW (hV (decW W) (decW W 6 - 1 - x).toNat) (decW W 6 - 1 - ((decW W 6 - 1 - x).toNat : Int)) := if_pos (by rw [ex]; exact c2)
          rw [this, ex]
        refine RLo.ends rl2 F1 ⟨c, by omega⟩ (Int.le_refl _) (fun s s0 s1 => held_cb hW (by omega) s0 s1) q (fun G3 o3 p3 r9 => ih _ _ ⟨by omega, fun z z0 z1 z2 => by rw [o3 z z0 z1 z2, o2 z (by omega)]; exact ho z z0 z1 z2, fun k hk => by rw [p3 k hk, o2 3 (by omega)]; exact hp k hk, ?_⟩ (by omega))
        rw [nx, eU, show x + -1 + 1 = x by omega]; exact r9
  · rw [show decW W 6 - 1 - (decW W 6 - 1) = 0 by omega, show decW W 6 - 1 + 1 = decW W 6 by omega]
    exact R
section A12
variable {j : Nat} {G : GH} {K : GH → Prop} {L : Nat} {xs : Nat → Int32} {i4 : Int}
end A12
