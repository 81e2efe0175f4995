-- ===== PURE LAYER: borrow =====
section A8
variable {W W' : WT} {a : Nat} {n n' : Int} {G' : GH}
variable {j : Nat} {G : GH} {K : GH → Prop} {L : Nat} {xs : Nat → Int32} {i4 : Int}
/-- friends and loans alone changed -/
def OutL (W' W : WT) : Prop := ∀ k, k < 456 → k ≠ 6 → ¬ (51 ≤ k ∧ k < 132) → W' k = W k
theorem OutL.wf (o : OutL W' W) (h : WF n W) (hn : n ≤ n') (w6 : 0 ≤ W' 6 ∧ W' 6 ≤ 12) (fd : ∀ f, 0 ≤ f → f < W' 4 → (1 ≤ friW W' f 0 ∧ friW W' f 0 ≤ 9) ∧ ∀ d, 0 ≤ d → d < 10 → 0 ≤ friW W' f (1 + d) ∧ friW W' f (1 + d) + borW W' f d ≤ 20)
    (ln : ∀ l, 0 ≤ l → l < W' 6 → (0 ≤ loanW W' l 0 ∧ loanW W' l 0 < W' 4) ∧ (0 ≤ loanW W' l 1 ∧ loanW W' l 1 ≤ 9) ∧ (1 ≤ loanW W' l 2 ∧ loanW W' l 2 ≤ 60) ∧ (1 ≤ loanW W' l 3 ∧ loanW W' l 3 ≤ 9)) (hc : ∀ s, 0 ≤ s → s < 42 → hgW W s ≤ cntW (-1) W' s) : WF n' W' := by
  have er : EqR 12 15 W' W := fun k q0 q1 => o k (by omega) (by omega) (by omega)
  have ec : EqR 15 51 W' W := fun k q0 q1 => o k (by omega) (by omega) (by omega)
  have es : EqR 132 276 W' W := fun k q0 q1 => o k (by omega) (by omega) (by omega)
  have ep : EqR 276 438 W' W := fun k q0 q1 => o k (by omega) (by omega) (by omega)
  have eh : EqR 438 456 W' W := fun k q0 q1 => o k (by omega) (by omega) (by omega)
  have f := fun k (q : k < 12) (q1 : k ≠ 6) => o k (by omega) q1 (by omega)
  have h8 := h.he; have h9 := h.wo; have h10 := h.hu; have h11 := h.ou
  exact ⟨by rw [f 0 (by omega) (by omega)]; exact h.bo, by rw [f 1 (by omega) (by omega)]; exact h.tu, by rw [f 2 (by omega) (by omega)]; exact h.sp, by rw [f 3 (by omega) (by omega)]; exact h.ow, by rw [f 4 (by omega) (by omega)]; exact h.fr, by rw [f 5 (by omega) (by omega)]; exact h.se, w6, by rw [f 7 (by omega) (by omega)]; exact h.ha,
    by rw [f 8 (by omega) (by omega)]; omega, by rw [f 9 (by omega) (by omega)]; omega, by rw [f 10 (by omega) (by omega)]; omega, by rw [f 11 (by omega) (by omega)]; omega, h.ro_of (f 0 (by omega) (by omega)) er, h.ca_of (f 3 (by omega) (by omega)) ec, fd, ln, h.sv_of (f 5 (by omega) (by omega)) es, h.pl_of ep, h.pf_of (f 0 (by omega) (by omega)) er ep, h.hr_of eh, h.hf_of (f 0 (by omega) (by omega)) er eh, (fun s s0 s1 => by rw [rR_hg ep]; exact hc s s0 s1), h.nh_of (f 7 (by omega) (by omega)) ep⟩
theorem OutL.rep (o : OutL W' W) (h : WF n W) (r : RepS G a W) (g : ∀ x, a ≤ x → x ≤ a + 19 → x ≠ a + 2 → ¬ (a + 5 ≤ x ∧ x ≤ a + 10) → G' x = G x) (g2 : ∀ k, k ≠ 8 → G' (a + 2) k = G (a + 2) k) (w6 : G' (a + 2) 8 = W' 6) (ct : ∀ s : Int, 0 ≤ s → s < 42 → G' (a + 5) s.toNat = cntW (-1) W' s)
    (fd : ∀ f : Int, 0 ≤ f → f < W' 4 → G' (a + 6) f.toNat = friW W' f 0 ∧ ∀ d : Int, 0 ≤ d → d < 10 → G' (a + 7) ((f * 10) + d).toNat = friW W' f (1 + d)) (ln : ∀ l : Int, 0 ≤ l → l < W' 6 → G' (a + 8) l.toNat = loanW W' l 0 * 10 + loanW W' l 1 ∧ G' (a + 9) l.toNat = loanW W' l 2 ∧ G' (a + 10) l.toNat = loanW W' l 3) : RepS G' a W' := by
  have er : EqR 12 15 W' W := fun k q0 q1 => o k (by omega) (by omega) (by omega)
  have ec : EqR 15 51 W' W := fun k q0 q1 => o k (by omega) (by omega) (by omega)
  have es : EqR 132 276 W' W := fun k q0 q1 => o k (by omega) (by omega) (by omega)
  have ep : EqR 276 438 W' W := fun k q0 q1 => o k (by omega) (by omega) (by omega)
  have ex : EqR 276 456 W' W := fun k q0 q1 => o k (by omega) (by omega) (by omega)
  have f := fun k (q : k < 12) (q1 : k ≠ 6) => o k (by omega) q1 (by omega)
  exact ⟨by rw [g a (by omega) (by omega) (by omega) (by omega), f 0 (by omega) (by omega)]; exact r.bo, r.ro_of h (f 0 (by omega) (by omega)) er (g _ (by omega) (by omega) (by omega) (by omega)), by rw [g a (by omega) (by omega) (by omega) (by omega), f 2 (by omega) (by omega)]; exact r.sp, by rw [g2 0 (by omega), f 1 (by omega) (by omega)]; exact r.tu, by rw [g2 1 (by omega), f 3 (by omega) (by omega)]; exact r.ow, by rw [g2 5 (by omega), f 4 (by omega) (by omega)]; exact r.fr, w6,
    r.ca_of h (f 3 (by omega) (by omega)) ec (g _ (by omega) (by omega) (by omega) (by omega)) (g _ (by omega) (by omega) (by omega) (by omega)), ct, fd, ln,
    by rw [g _ (by omega) (by omega) (by omega) (by omega), f 5 (by omega) (by omega)]; exact r.se, r.sv_of h (f 5 (by omega) (by omega)) es (g _ (by omega) (by omega) (by omega) (by omega)) (g _ (by omega) (by omega) (by omega) (by omega)), by rw [g _ (by omega) (by omega) (by omega) (by omega), f 7 (by omega) (by omega)]; exact r.ha, HangS.of h r.hs (f 0 (by omega) (by omega)) er ex (fun x x1 x2 => g x (by omega) (by omega) (by omega) (by omega)), r.hg_of ep (g _ (by omega) (by omega) (by omega) (by omega)),
    by rw [g a (by omega) (by omega) (by omega) (by omega), f 8 (by omega) (by omega)]; exact r.he, by rw [g a (by omega) (by omega) (by omega) (by omega), f 9 (by omega) (by omega)]; exact r.wo, by rw [g a (by omega) (by omega) (by omega) (by omega), f 10 (by omega) (by omega)]; exact r.hu, by rw [g a (by omega) (by omega) (by omega) (by omega), f 11 (by omega) (by omega)]; exact r.ou⟩
/-- a loan of m cards d from the friend f came -/
def Lent (W' W : WT) (f d m : Int) : Prop := (∀ k, k < 456 → k ≠ 6 → k ≠ ((51 + (11 * f)) + (1 + d)).toNat → ¬ ((84 + 4 * W 6).toNat ≤ k ∧ k < (84 + 4 * W 6).toNat + 4) → W' k = W k) ∧ (W' 6 = W 6 + 1) ∧ (friW W' f (1 + d) = friW W f (1 + d) - m) ∧ (loanW W' (W 6) 0 = f) ∧ (loanW W' (W 6) 1 = d) ∧ (loanW W' (W 6) 2 = m) ∧ (loanW W' (W 6) 3 = friW W f 0)
theorem Lent.out {f d m : Int} (q : Lent W' W f d m) : ∀ k, k < 456 → k ≠ 6 → k ≠ ((51 + (11 * f)) + (1 + d)).toNat → ¬ ((84 + 4 * W 6).toNat ≤ k ∧ k < (84 + 4 * W 6).toNat + 4) → W' k = W k := q.1
theorem Lent.six {f d m : Int} (q : Lent W' W f d m) : W' 6 = W 6 + 1 := q.2.1
theorem Lent.fri {f d m : Int} (q : Lent W' W f d m) : friW W' f (1 + d) = friW W f (1 + d) - m := q.2.2.1
theorem Lent.lo0 {f d m : Int} (q : Lent W' W f d m) : loanW W' (W 6) 0 = f := q.2.2.2.1
theorem Lent.lo1 {f d m : Int} (q : Lent W' W f d m) : loanW W' (W 6) 1 = d := q.2.2.2.2.1
theorem Lent.lo2 {f d m : Int} (q : Lent W' W f d m) : loanW W' (W 6) 2 = m := q.2.2.2.2.2.1
theorem Lent.lo3 {f d m : Int} (q : Lent W' W f d m) : loanW W' (W 6) 3 = friW W f 0 := q.2.2.2.2.2.2
theorem Lent.old {f d m : Int} (q : Lent W' W f d m) (hf : 0 ≤ f ∧ f < 3) (hd : 0 ≤ d ∧ d ≤ 9) (h6 : 0 ≤ W 6 ∧ W 6 < 12) {l h9 : Int} (l0 : 0 ≤ l) (l1 : l < W 6) (h0 : 0 ≤ h9) (h1 : h9 < 4) : loanW W' l h9 = loanW W l h9 := q.out _ (by omega) (by omega) (by omega) (by omega)
theorem Lent.bor {f d m : Int} (q : Lent W' W f d m) (hf : 0 ≤ f ∧ f < 3) (hd : 0 ≤ d ∧ d ≤ 9) (h6 : 0 ≤ W 6 ∧ W 6 < 12) (f' d' : Int) : borW W' f' d' = borW W f' d' + (if f' = f ∧ d' = d then m else 0) := by
  unfold borW
  rw [q.six, sumZ_s h6.1, q.lo0, q.lo1, q.lo2]
  have e1 : sumZ (fun l => if loanW W' l 0 = f' ∧ loanW W' l 1 = d' then loanW W' l 2 else 0) (W 6) = sumZ (fun l => if loanW W l 0 = f' ∧ loanW W l 1 = d' then loanW W l 2 else 0) (W 6) := sumZ_congr (fun l l0 l1 => by
    rw [q.old hf hd h6 l0 l1 (by omega) (by omega), q.old hf hd h6 l0 l1 (by omega) (by omega), q.old hf hd h6 l0 l1 (by omega) (by omega)])
  rw [e1]
  by_cases c : f' = f ∧ d' = d
  · rw [if_pos c, if_pos ⟨c.1.symm, c.2.symm⟩]
  · rw [if_neg c, if_neg (fun x => c ⟨x.1.symm, x.2.symm⟩)]
theorem Lent.facts {f d m : Int} (q : Lent W' W f d m) (h : WF n W) (hn : n ≤ n') (hf : 0 ≤ f ∧ f < W 4) (hd : 0 ≤ d ∧ d ≤ 9) (hm : 1 ≤ m ∧ m ≤ 60) (hm2 : m ≤ friW W f (1 + d)) (h6 : W 6 < 12) :
    WF n' W' ∧ OutL W' W ∧ (∀ s, 0 ≤ s → s < 42 → cntW (-1) W' s = cntW (-1) W s + if s = 12 + (f * 10 + d) then m else 0) := by
  have hfr := h.fr
  have hlo := h.lo
  have hf3 : 0 ≤ f ∧ f < 3 := by omega
  have h6' : 0 ≤ W 6 ∧ W 6 < 12 := by omega
  have o : OutL W' W := fun k k0 k1 k2 => q.out k k0 k1 (by omega) (by omega)
  have w4 : W' 4 = W 4 := o 4 (by omega) (by omega) (by omega)
  have w3 : W' 3 = W 3 := o 3 (by omega) (by omega) (by omega)
  have ct : ∀ s, 0 ≤ s → s < 42 → cntW (-1) W' s = cntW (-1) W s + if s = 12 + (f * 10 + d) then m else 0 := by
    intro s s0 s1
    by_cases c : s < 12
    · rw [cnt_own s0 c, cnt_own s0 c, w3, if_neg (show ¬ s = 12 + (f * 10 + d) by omega), rR_card (fun k q0 q1 => o k (by omega) (by omega) (by omega)) s0 c (by omega) (by omega)]; omega
    · rw [cnt_bor (by omega) s1, cnt_bor (by omega) s1, q.bor hf3 hd h6']
      by_cases c2 : s = 12 + (f * 10 + d)
      · rw [if_pos c2, if_pos (by omega)]
      · rw [if_neg c2, if_neg (by omega)]
  have fo : ∀ f' h9 : Int, 0 ≤ f' → f' < 3 → 0 ≤ h9 → h9 < 11 → ¬ (f' = f ∧ h9 = 1 + d) → friW W' f' h9 = friW W f' h9 := fun f' h9 f0 f1 h0 h1 hne => q.out _ (by omega) (by omega) (by omega) (by omega)
  refine ⟨o.wf h hn (by rw [q.six]; omega) (fun f' f0 f1 => ?_) (fun l l0 l1 => ?_) (fun s s0 s1 => ?_), o, ct⟩
  · rw [w4] at f1
    have fd := h.fd f' f0 f1
    rw [fo f' 0 f0 (by omega) (by omega) (by omega) (by omega)]
    refine ⟨fd.1, fun d' d0 d1 => ?_⟩
    have fdd := fd.2 d' d0 d1
    rw [q.bor hf3 hd h6']
    by_cases c : f' = f ∧ d' = d
    · rw [if_pos c, c.1, c.2, q.fri]
      rw [c.1, c.2] at fdd
      omega
    · rw [if_neg c, fo f' (1 + d') f0 (by omega) (by omega) (by omega) (by omega)]
      omega
  · rw [q.six] at l1
    rw [w4]
    by_cases c : l = W 6
    · rw [c, q.lo0, q.lo1, q.lo2, q.lo3]
      exact ⟨hf, hd, hm, (h.fd f hf.1 hf.2).1⟩
    · have hl := h.ln l l0 (by omega)
      rw [q.old hf3 hd h6' l0 (by omega) (by omega) (by omega), q.old hf3 hd h6' l0 (by omega) (by omega) (by omega), q.old hf3 hd h6' l0 (by omega) (by omega) (by omega), q.old hf3 hd h6' l0 (by omega) (by omega) (by omega)]
      exact hl
  · rw [ct s s0 s1]
    have := h.hc s s0 s1
    split <;> omega
end A8
