-- ===== PURE LAYER: friends, loans and the services held changed; what falls then, on both sides =====
section HF
variable {W W6 W7 : WT} {a : Nat} {n n' : Int} {G G' G2 : GH}
def OutH (W' W : WT) : Prop := ∀ k, k < 456 → k ≠ 6 → k ≠ 8 → ¬ (51 ≤ k ∧ k < 132) → W' k = W k
theorem OutH.rep {W' : WT} (o : OutH W' W) (h : WF n W) (r : RepS G a W) (g : ∀ x, a + 1 ≤ x → x ≤ a + 19 → x ≠ a + 2 → ¬ (a + 5 ≤ x ∧ x ≤ a + 10) → G' x = G x) (ga : ∀ k, k ≠ 6 → G' a k = G a k) (w8 : G' a 6 = W' 8) (g2 : ∀ k, k ≠ 8 → G' (a + 2) k = G (a + 2) k) (w6 : G' (a + 2) 8 = W' 6) (ct : ∀ s : Int, 0 ≤ s → s < 42 → G' (a + 5) s.toNat = cntW (-1) W' s)
    (fd : ∀ f : Int, 0 ≤ f → f < W' 4 → G' (a + 6) f.toNat = friW W' f 0 ∧ ∀ d : Int, 0 ≤ d → d < 10 → G' (a + 7) ((f * 10) + d).toNat = friW W' f (1 + d)) (ln : ∀ l : Int, 0 ≤ l → l < W' 6 → G' (a + 8) l.toNat = loanW W' l 0 * 10 + loanW W' l 1 ∧ G' (a + 9) l.toNat = loanW W' l 2 ∧ G' (a + 10) l.toNat = loanW W' l 3) : RepS G' a W' := by
  have er : EqR 12 15 W' W := fun k q0 q1 => o k (by omega) (by omega) (by omega) (by omega)
  have ec : EqR 15 51 W' W := fun k q0 q1 => o k (by omega) (by omega) (by omega) (by omega)
  have es : EqR 132 276 W' W := fun k q0 q1 => o k (by omega) (by omega) (by omega) (by omega)
  have ep : EqR 276 438 W' W := fun k q0 q1 => o k (by omega) (by omega) (by omega) (by omega)
  have ex : EqR 276 456 W' W := fun k q0 q1 => o k (by omega) (by omega) (by omega) (by omega)
  have f := fun k (q : k < 12) (q1 : k ≠ 6) (q2 : k ≠ 8) => o k (by omega) q1 q2 (by omega)
  have gg := fun x (x0 : a + 1 ≤ x) (x1 : x ≤ a + 19) (x2 : x ≠ a + 2) (x3 : ¬ (a + 5 ≤ x ∧ x ≤ a + 10)) => g x x0 x1 x2 x3
  exact ⟨by rw [ga 0 (by omega), f 0 (by omega) (by omega) (by omega)]; exact r.bo, r.ro_of h (f 0 (by omega) (by omega) (by omega)) er (gg _ (by omega) (by omega) (by omega) (by omega)), by rw [ga 2 (by omega), f 2 (by omega) (by omega) (by omega)]; exact r.sp, by rw [g2 0 (by omega), f 1 (by omega) (by omega) (by omega)]; exact r.tu, by rw [g2 1 (by omega), f 3 (by omega) (by omega) (by omega)]; exact r.ow, by rw [g2 5 (by omega), f 4 (by omega) (by omega) (by omega)]; exact r.fr, w6,
    r.ca_of h (f 3 (by omega) (by omega) (by omega)) ec (gg _ (by omega) (by omega) (by omega) (by omega)) (gg _ (by omega) (by omega) (by omega) (by omega)), ct, fd, ln, by rw [gg _ (by omega) (by omega) (by omega) (by omega), f 5 (by omega) (by omega) (by omega)]; exact r.se, r.sv_of h (f 5 (by omega) (by omega) (by omega)) es (gg _ (by omega) (by omega) (by omega) (by omega)) (gg _ (by omega) (by omega) (by omega) (by omega)), by rw [gg _ (by omega) (by omega) (by omega) (by omega), f 7 (by omega) (by omega) (by omega)]; exact r.ha,
    HangS.of h r.hs (f 0 (by omega) (by omega) (by omega)) er ex (fun x x1 x2 => gg x (by omega) (by omega) (by omega) (by omega)), r.hg_of ep (gg _ (by omega) (by omega) (by omega) (by omega)), w8, by rw [ga 7 (by omega), f 9 (by omega) (by omega) (by omega)]; exact r.wo, by rw [ga 8 (by omega), f 10 (by omega) (by omega) (by omega)]; exact r.hu, by rw [ga 9 (by omega), f 11 (by omega) (by omega) (by omega)]; exact r.ou⟩
/-- friends and loans; the loans below x may have no service left -/
def FLr (V : WT) (x : Int) : Prop := (0 ≤ V 6 ∧ V 6 ≤ 12) ∧ (0 ≤ V 4 ∧ V 4 ≤ 3) ∧ (∀ f, 0 ≤ f → f < V 4 → (1 ≤ friW V f 0 ∧ friW V f 0 ≤ 9) ∧ ∀ d, 0 ≤ d → d < 10 → 0 ≤ friW V f (1 + d) ∧ friW V f (1 + d) + borW V f d ≤ 20) ∧
  (∀ l, 0 ≤ l → l < V 6 → (0 ≤ loanW V l 0 ∧ loanW V l 0 < V 4) ∧ (0 ≤ loanW V l 1 ∧ loanW V l 1 ≤ 9) ∧ (1 ≤ loanW V l 2 ∧ loanW V l 2 ≤ 60) ∧ (0 ≤ loanW V l 3 ∧ loanW V l 3 ≤ 9) ∧ (x ≤ l → 1 ≤ loanW V l 3))
theorem WF.flr (h : WF n W) : FLr W 0 := ⟨h.lo, h.fr, h.fd, fun l l0 l1 => by have := h.ln l l0 l1; exact ⟨this.1, this.2.1, this.2.2.1, ⟨by omega, this.2.2.2.2⟩, fun _ => this.2.2.2.1⟩⟩
theorem FLr.loB {V : WT} {x : Int} (q : FLr V x) : LoB V := ⟨q.1, fun l l0 l1 => by have := q.2.2.2 l l0 l1; omega⟩
theorem FLr.cnt {x : Int} (q : FLr W6 x) (h : WF n W) (e3 : W6 3 = W 3) (ec : EqR 15 51 W6 W) {s : Int} (s0 : 0 ≤ s) (s1 : s < 42) : 0 ≤ cntW (-1) W6 s ∧ cntW (-1) W6 s ≤ 720 := by
  have ow := h.ow
  by_cases c : s < 12
  · have e : cntW (-1) W6 s = cntW (-1) W s := by
      rw [cnt_own s0 c, cnt_own s0 c, e3, rR_card ec s0 (by omega) (by omega) (by omega)]
    rw [e]; exact cnt_rng h ⟨s0, s1⟩
  · rw [cnt_bor (by omega) s1]
    have := q.loB.rng (f := (s - 12) / 10) (d := (s - 12) % 10) q.1.1 (Int.le_refl _)
    have := q.1
    unfold borW
    omega
theorem c_fallen {Q : Int → GH → Prop} (hW : WF n W) (o : OutH W6 W) (q : FLr W6 0) (hH2 : HangS G2 15 W) (r2 : RepS G2 1 W6)
    (h : ∀ G3 : GH, (∀ x, ¬ (17 ≤ x ∧ x ≤ 20) → G3 x = G2 x) → (∀ W7, Fell (fallW W6 (cntW (-1) W6)) W7 W6 → RepS G3 1 W7) → Q (sumZ (fun p => b2 (fallW W6 (cntW (-1) W6) p)) 54) G3) : f_X7_takeTooManyDown 1 G2 Q := by
  have ep : EqR 276 438 W6 W := fun k q0 q1 => o k (by omega) (by omega) (by omega) (by omega)
  have er : EqR 12 15 W6 W := fun k q0 q1 => o k (by omega) (by omega) (by omega) (by omega)
  have ec : EqR 15 51 W6 W := fun k q0 q1 => o k (by omega) (by omega) (by omega) (by omega)
  have eh : EqR 438 456 W6 W := fun k q0 q1 => o k (by omega) (by omega) (by omega) (by omega)
  have f := fun k (q : k < 12) (q1 : k ≠ 6) (q2 : k ≠ 8) => o k (by omega) q1 q2 (by omega)
  have cb := fun s (s0 : 0 ≤ s) (s1 : s < 42) => q.cnt hW (f 3 (by omega) (by omega) (by omega)) ec s0 s1
  have pe : ∀ p h9 : Int, 0 ≤ p → p < 54 → 0 ≤ h9 → h9 < 3 → plaW W6 p h9 = plaW W p h9 := fun p h9 p0 p1 h0 h1 => rR_pla ep p0 p1 h0 h1
  have rk : ∀ s p : Int, p ≤ 54 → rankW W6 s p = rankW W s p := fun s p p1 => sumZ_congr (fun i i0 i1 => by rw [pe i 1 i0 (by omega) (by omega) (by omega)])
  have fe : ∀ p, 0 ≤ p → p < 54 → (fallW W6 (cntW (-1) W6) p ↔ fallW W (cntW (-1) W6) p) := fun p p0 p1 => by
    unfold fallW
    rw [pe p 1 p0 p1 (by omega) (by omega), rk _ p (by omega)]
  refine c_tooMany (a := 1) (c := cntW (-1) W6) (fun P P0 P1 => hH2.rng hW P0 P1) (fun s s0 s1 => ?_) (fun s s0 s1 => ⟨r2.ct s s0 s1, (cb s s0 s1).1⟩) (fun G3 o3 g3 k3 => ?_)
  · have t := hH2.sum3 hW (fun _ x _ => b2 (x = s)) (b2_f (by omega))
    have t2 : rankC G2 (1 + 17) s 54 = hgW W s := t
    rw [t2, ← rR_hg ep]
    exact r2.hg s s0 s1
  · rw [hH2.falls_sum hW (a := 1) rfl, ← sumZ_congr (fun p p0 p1 => b2_iff (fe p p0 p1))]
    refine h G3 (fun x hx => o3 x (by omega)) (fun W7 f7 => ?_)
    have gg : ∀ x, ¬ (17 ≤ x ∧ x ≤ 20) → G3 x = G2 x := fun x hx => o3 x (by omega)
    have w7 : ∀ k, k < 276 ∨ 438 ≤ k → W7 k = W6 k := f7.1
    have fl : ∀ k, k < 276 → W7 k = W6 k := fun k k0 => w7 k (by omega)
    have fp : FellP (fallW W (cntW (-1) W6)) W7 W := fun p p0 p1 => by
      have z := f7.2 p p0 p1
      rw [pe p 0 p0 p1 (by omega) (by omega), pe p 1 p0 p1 (by omega) (by omega), pe p 2 p0 p1 (by omega) (by omega)] at z
      exact ⟨fun y => z.1 ((fe p p0 p1).mpr y), fun y => z.2 (fun y2 => y ((fe p p0 p1).mp y2))⟩
    have e0 : W7 0 = W 0 := (fl 0 (by omega)).trans (f 0 (by omega) (by omega) (by omega))
    have er7 : EqR 12 15 W7 W := fun k q0 q1 => (fl k (by omega)).trans (er k q0 q1)
    have eh7 : EqR 438 456 W7 W := fun k q0 q1 => (w7 k (by omega)).trans (eh k q0 q1)
    have bo := hW.bo
    have ow := hW.ow
    have w63 := f 3 (by omega) (by omega) (by omega)
    have w60 := f 0 (by omega) (by omega) (by omega)
    have w65 := f 5 (by omega) (by omega) (by omega)
    have se := hW.se
    have l6 := q.1
    have l4 := q.2.1
    refine ⟨by rw [gg 1 (by omega), fl 0 (by omega)]; exact r2.bo, fun b b0 b1 => ?_, by rw [gg 1 (by omega), fl 2 (by omega)]; exact r2.sp, by rw [gg _ (by omega), fl 1 (by omega)]; exact r2.tu, by rw [gg _ (by omega), fl 3 (by omega)]; exact r2.ow, by rw [gg _ (by omega), fl 4 (by omega)]; exact r2.fr, by rw [gg _ (by omega), fl 6 (by omega)]; exact r2.lo, fun k k0 k1 => ?_, fun s s0 s1 => ?_, fun f' f0 f1 => ?_, fun l l0 l1 => ?_, by rw [gg _ (by omega), fl 5 (by omega)]; exact r2.se, fun s s0 s1 => ?_, by rw [gg _ (by omega), fl 7 (by omega)]; exact r2.ha,
      HangS.fell hW hH2 rfl e0 er7 eh7 fp (gg _ (by omega)) g3, fun s s0 s1 => ?_, by rw [gg 1 (by omega), fl 8 (by omega)]; exact r2.he, by rw [gg 1 (by omega), fl 9 (by omega)]; exact r2.wo, by rw [gg 1 (by omega), fl 10 (by omega)]; exact r2.hu, by rw [gg 1 (by omega), fl 11 (by omega)]; exact r2.ou⟩
    · rw [fl 0 (by omega)] at b1
      have e : rowW W7 b = rowW W6 b := fl _ (by omega)
      rw [gg _ (by omega), e]; exact r2.ro b b0 b1
    · rw [fl 3 (by omega)] at k1
      have e1 : cardW W7 k 0 = cardW W6 k 0 := fl _ (by omega)
      have e2 : cardW W7 k 1 = cardW W6 k 1 := fl _ (by omega)
      rw [gg _ (by omega), gg _ (by omega), e1, e2]; exact r2.ca k k0 k1
    · have e : cntW (-1) W7 s = cntW (-1) W6 s := rR_cnt (fl 3 (by omega)) (fun k q0 q1 => fl k (by omega)) (fl 6 (by omega)) (fun k q0 q1 => fl k (by omega)) (by omega) l6.2 s0
      rw [e, gg _ (by omega)]; exact r2.ct s s0 s1
    · rw [fl 4 (by omega)] at f1
      have e1 : friW W7 f' 0 = friW W6 f' 0 := fl _ (by omega)
      rw [gg _ (by omega), gg _ (by omega), e1]
      refine ⟨(r2.fd f' f0 f1).1, fun d d0 d1 => ?_⟩
      have e2 : friW W7 f' (1 + d) = friW W6 f' (1 + d) := fl _ (by omega)
      rw [e2]; exact (r2.fd f' f0 f1).2 d d0 d1
    · rw [fl 6 (by omega)] at l1
      have e : ∀ h9 : Int, 0 ≤ h9 → h9 < 4 → loanW W7 l h9 = loanW W6 l h9 := fun h9 a0 a1 => fl _ (by omega)
      rw [gg _ (by omega), gg _ (by omega), gg _ (by omega), e 0 (by omega) (by omega), e 1 (by omega) (by omega), e 2 (by omega) (by omega), e 3 (by omega) (by omega)]; exact r2.ln l l0 l1
    · rw [fl 5 (by omega)] at s1
      have sv : servW W6 s 0 = servW W s 0 := o _ (by omega) (by omega) (by omega) (by omega)
      have svr := hW.sv s s0 (by omega)
      have e1 : servW W7 s 0 = servW W6 s 0 := fl _ (by omega)
      rw [gg _ (by omega), gg _ (by omega), e1]
      refine ⟨(r2.sv s s0 s1).1, fun i i0 i1 => ?_⟩
      have e2 : servW W7 s (1 + i) = servW W6 s (1 + i) := fl _ (by omega)
      rw [e2]; exact (r2.sv s s0 s1).2 i i0 i1
    · rw [fp.hg s0 (cb s s0 s1).1]
      have t := hH2.sum3 hW (fun _ x _ => b2 (x = s)) (b2_f (by omega))
      refine (k3 s s0 s1).trans ?_
      have t2 : rankC G2 (1 + 17) s 54 = hgW W s := t
      rw [t2]
theorem fallen_wf (hW : WF n W) (hn : n ≤ n') (o : OutH W6 W) (q : FLr W6 0) (w8 : 0 ≤ W6 8 ∧ W6 8 ≤ n') (f7 : Fell (fallW W6 (cntW (-1) W6)) W7 W6) : WF n' W7 := by
  have ep : EqR 276 438 W6 W := fun k q0 q1 => o k (by omega) (by omega) (by omega) (by omega)
  have er : EqR 12 15 W6 W := fun k q0 q1 => o k (by omega) (by omega) (by omega) (by omega)
  have ec : EqR 15 51 W6 W := fun k q0 q1 => o k (by omega) (by omega) (by omega) (by omega)
  have es : EqR 132 276 W6 W := fun k q0 q1 => o k (by omega) (by omega) (by omega) (by omega)
  have eh : EqR 438 456 W6 W := fun k q0 q1 => o k (by omega) (by omega) (by omega) (by omega)
  have f := fun k (q : k < 12) (q1 : k ≠ 6) (q2 : k ≠ 8) => o k (by omega) q1 q2 (by omega)
  have cb := fun s (s0 : 0 ≤ s) (s1 : s < 42) => q.cnt hW (f 3 (by omega) (by omega) (by omega)) ec s0 s1
  have pe : ∀ p h9 : Int, 0 ≤ p → p < 54 → 0 ≤ h9 → h9 < 3 → plaW W6 p h9 = plaW W p h9 := fun p h9 p0 p1 h0 h1 => rR_pla ep p0 p1 h0 h1
  have rk : ∀ s p : Int, p ≤ 54 → rankW W6 s p = rankW W s p := fun s p p1 => sumZ_congr (fun i i0 i1 => by rw [pe i 1 i0 (by omega) (by omega) (by omega)])
  have fe : ∀ p, 0 ≤ p → p < 54 → (fallW W6 (cntW (-1) W6) p ↔ fallW W (cntW (-1) W6) p) := fun p p0 p1 => by
    unfold fallW
    rw [pe p 1 p0 p1 (by omega) (by omega), rk _ p (by omega)]
  have fp : FellP (fallW W (cntW (-1) W6)) W7 W := fun p p0 p1 => by
    have z := f7.2 p p0 p1
    rw [pe p 0 p0 p1 (by omega) (by omega), pe p 1 p0 p1 (by omega) (by omega), pe p 2 p0 p1 (by omega) (by omega)] at z
    exact ⟨fun y => z.1 ((fe p p0 p1).mpr y), fun y => z.2 (fun y2 => y ((fe p p0 p1).mp y2))⟩
  have w7 : ∀ k, k < 276 ∨ 438 ≤ k → W7 k = W6 k := f7.1
  have fl : ∀ k, k < 276 → W7 k = W6 k := fun k k0 => w7 k (by omega)
  have ff : ∀ k, k < 12 → k ≠ 6 → k ≠ 8 → W7 k = W k := fun k k0 k1 k2 => (fl k (by omega)).trans (f k k0 k1 k2)
  have er7 : EqR 12 15 W7 W := fun k q0 q1 => (fl k (by omega)).trans (er k q0 q1)
  have ec7 : EqR 15 51 W7 W := fun k q0 q1 => (fl k (by omega)).trans (ec k q0 q1)
  have es7 : EqR 132 276 W7 W := fun k q0 q1 => (fl k (by omega)).trans (es k q0 q1)
  have eh7 : EqR 438 456 W7 W := fun k q0 q1 => (w7 k (by omega)).trans (eh k q0 q1)
  have h9 := hW.wo; have h10 := hW.hu; have h11 := hW.ou
  have l6 := q.1
  have l4 := q.2.1
  have w63 := f 3 (by omega) (by omega) (by omega)
  have ow := hW.ow
  have eb : ∀ f' d', borW W7 f' d' = borW W6 f' d' := fun f' d' => rR_bor (fl 6 (by omega)) (fun k q0 q1 => fl k (by omega)) l6.2
  refine fp.wf hW (ff 0 (by omega) (by omega) (by omega)) er7 eh7 (ff 1 (by omega) (by omega) (by omega)) (ff 2 (by omega) (by omega) (by omega)) (by rw [ff 3 (by omega) (by omega) (by omega)]; exact hW.ow) (by rw [fl 4 (by omega)]; exact l4) (by rw [ff 5 (by omega) (by omega) (by omega)]; exact hW.se) (by rw [fl 6 (by omega)]; exact l6) (ff 7 (by omega) (by omega) (by omega)) (by rw [fl 8 (by omega)]; exact w8) (by rw [ff 9 (by omega) (by omega) (by omega)]; omega) (by rw [ff 10 (by omega) (by omega) (by omega)]; omega) (by rw [ff 11 (by omega) (by omega) (by omega)]; omega)
    (hW.ca_of (ff 3 (by omega) (by omega) (by omega)) ec7) (fun f' f0 f1 => ?_) (fun l l0 l1 => ?_) (hW.sv_of (ff 5 (by omega) (by omega) (by omega)) es7) (fun s s0 s1 => ⟨?_, (cb s s0 s1).1⟩)
  · rw [fl 4 (by omega)] at f1
    have e1 : friW W7 f' 0 = friW W6 f' 0 := fl _ (by omega)
    rw [e1]
    refine ⟨(q.2.2.1 f' f0 f1).1, fun d d0 d1 => ?_⟩
    have e2 : friW W7 f' (1 + d) = friW W6 f' (1 + d) := fl _ (by omega)
    rw [e2, eb]; exact (q.2.2.1 f' f0 f1).2 d d0 d1
  · rw [fl 6 (by omega)] at l1
    have e : ∀ h9 : Int, 0 ≤ h9 → h9 < 4 → loanW W7 l h9 = loanW W6 l h9 := fun h9 a0 a1 => fl _ (by omega)
    rw [e 0 (by omega) (by omega), e 1 (by omega) (by omega), e 2 (by omega) (by omega), e 3 (by omega) (by omega), fl 4 (by omega)]
    have z := q.2.2.2 l l0 l1
    exact ⟨z.1, z.2.1, z.2.2.1, ⟨z.2.2.2.2 l0, z.2.2.2.1.2⟩⟩
  · exact (rR_cnt (fl 3 (by omega)) (fun k q0 q1 => fl k (by omega)) (fl 6 (by omega)) (fun k q0 q1 => fl k (by omega)) (by omega) l6.2 s0).symm
end HF
