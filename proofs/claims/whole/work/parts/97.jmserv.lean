-- ===== PURE LAYER: load, the reference reads a service =====
section MSRV
variable {T : BT} {n st p : Int} {G0 G : GH} {W : WT} {s : Int}
theorem MB.up9 {G' : GH} {k : Nat} {v : Int} (b : MB st G0 W G) (e : G' = upG G 279 k v) : MB st G0 W G' :=
  ⟨⟨fun x a1 a2 a3 => by rw [e, up_na a3]; exact b.1.1 x a1 a2 a3, fun k hk => by rw [e, up_na (by omega)]; exact b.1.2 k hk⟩, by rw [e, up_na (by omega)]; exact b.2.1, by rw [e, up_na (by omega)]; exact b.2.2.1, by rw [e, up_na (by omega)]; exact b.2.2.2.1, b.2.2.2.2⟩
theorem repH_lo {s ins : Int} {i : Nat} (hs : 0 ≤ s) (hi : i < 132) : ∀ (k : Nat) (x : Int) (V : WT), 0 ≤ x → repH s ins k x V i = V i := by
  intro k
  induction k with
  | zero => intro x V _; rfl
  | succ k ih =>
    intro x V hx
    have e := ih (x + 1) (pu V ((132 + (9 * s)) + (1 + x)).toNat (servW V s (1 + (x - ins)))) (by omega)
    rw [pu_ne (by omega)] at e
    exact e
theorem reU_lo {V : WT} {s ah v : Int} (hs : 0 ≤ s) (hl : 0 ≤ servW V s 0) : reU V s ah v 5 = V 5 := by
  unfold reU
  rw [pu_ne (by omega)]
  exact repH_lo hs (by omega) _ _ _ hl
def MvP (T : BT) (n st p : Int) (G0 : GH) (s : Int) (Q : Int → GH → Prop) (x3 x4 : Int) (G5 : GH) : Prop := ∃ (k : Nat) (q : Int) (V B : WT), (x4 = 0 ∨ x4 = 1) ∧ p < q ∧ V 5 = s ∧ MB st G0 V G5 ∧ AtS T n G5 q ∧ G5 272 10 = q ∧ ¬ (q < n ∧ T q.toNat = 40) ∧ ¬ ((q < n ∧ T q.toNat = 41) ∧ 0 < x3 ∧ 1 - x4 = 0) ∧ kdT T n q ≠ 2 ∧ EndM T n st G0 p (pSvc T n s (k + 1) q x3 (1 - x4) B V) Q
def MvI (T : BT) (n st p : Int) (G0 : GH) (s : Int) (Q : Int → GH → Prop) (x3 x4 : Int) (G5 : GH) : Prop := ∃ (k : Nat) (q : Int) (V B : WT), (x4 = 0 ∨ x4 = 1) ∧ n - q < k ∧ p < q ∧ (0 ≤ x3 ∧ x3 ≤ 3) ∧ V 5 = s ∧ MB st G0 V G5 ∧ AtS T n G5 q ∧ (0 ≤ servW V s 0 ∧ servW V s 0 ≤ 8) ∧ (∀ i : Int, 0 ≤ i → i < x3 → (0 ≤ B i.toNat ∧ B i.toNat ≤ servW V s 0) ∧ G5 279 i.toNat = B i.toNat) ∧ EndM T n st G0 p (pSvc T n s k q x3 (1 - x4) B V) Q
theorem mv_join {Q : Int → GH → Prop} {x3 x4 : Int} (s0 : 0 ≤ s ∧ s < 16) (h : MvP T n st p G0 s Q x3 x4 G) : ((x4 = 0 → (f_X10_fails 1 (G 272 10) G (fun r G1 => (Q r G1)))) ∧ (x4 ≠ 0 → ((x3 ≤ 0 → (inR ((G 273 5) + 1) ∧ (∀ G1, G1 = upG G 273 5 ((G 273 5) + 1) → (Q 1 G1)))) ∧ (0 < x3 → (f_X10_fails 1 (G 272 10) G (fun r G1 => (Q r G1))))))) := by
  obtain ⟨k, q, V, B, hx4, lq, v5, b, a, a10, c1, c2, c3, E⟩ := h
  have bw := b.2.2.2.2
  have e5 : G 273 5 = s := by rw [b.2.2.2.1]; exact v5
  unfold pSvc at E
  rw [if_neg c1, if_neg c2] at E
  have bad : (1 - x4 ≠ 0 ∨ 0 < x3) → f_X10_fails 1 (G 272 10) G (fun r G1 => (Q r G1)) := fun w => by
    rw [if_pos (Or.inr w)] at E
    have nm : nmT T n 1 999 q = 1 := if_pos c3
    rw [if_pos (by rw [nm]; omega), nm] at E
    rw [a10]
    exact mb_fails b (fun G' f' => E.2 _ _ G' rfl f')
  refine ⟨fun w => bad (Or.inl (by omega)), fun w => ⟨fun w2 => ?_, fun w2 => bad (Or.inr w2)⟩⟩
  rw [if_neg (by omega)] at E
  rw [e5]
  exact ⟨⟨by omega, by omega⟩, fun G1 e1 => E.1 _ _ G1 rfl lq (b.up e1 ⟨by rw [pu_ne (by omega)]; exact bw.1, by rw [pu_ne (by omega)]; exact bw.2.1, by rw [pu_at]; omega⟩) (a.to e1)⟩
theorem mr_servL {Q : Int → GH → Prop} {x3 x4 : Int} {jj kk : Int → Int → GH → Prop} (hT : TxO T n) (r0 : RfS T n G0) (s0 : 0 ≤ s ∧ s < 16) (hI : MvI T n st p G0 s Q x3 x4 G)
    (hj : ∀ x3 x4 G', MvP T n st p G0 s Q x3 x4 G' → jj x3 x4 G') (ih : ∀ y3 y4 G', MvI T n st p G0 s Q y3 y4 G' → skT T n (G 272 9) < skT T n (G' 272 9) ∧ skT T n (G 272 9) < n → kk y3 y4 G') : (f_X10_nextByte G (fun r_13 G_17 => ((r_13 ≠ 40 → (f_X10_in r_13 48 57 (fun r_14 => ((r_14 = 0 → ((r_13 ≠ 41 → (jj x3 x4 G_17)) ∧ (r_13 = 41 → ((x4 = 0 → (jj x3 x4 G_17)) ∧ (x4 ≠ 0 → ((x3 ≤ 0 → (jj x3 x4 G_17)) ∧ (0 < x3 → (inR ((G_17 272 9) + 1) ∧ (∀ G_18, G_18 = upG G_17 272 9 ((G_17 272 9) + 1) → ((0 ≤ (x3 + (-1)) ∧ (x3 + (-1)) < 3) ∧ (f_X10_repeats s (G_18 279 ((x3 + (-1))).toNat) G_18 (fun r_15 G_19 => ((r_15 ≠ 0 → (kk (x3 + (-1)) x4 G_19)) ∧ (r_15 = 0 → (Q 0 G_19))))))))))))))) ∧ (r_14 ≠ 0 → (f_X10_reads 1 999 G_17 (fun r_16 G_20 => ((r_16 ≠ 0 → (f_X10_hymnsOf s G_20 (fun r_17 => ((r_17 ≠ 8 → (f_X10_comesHymn s (G_20 272 11) G_20 (fun G_21 => (kk x3 1 G_21)))) ∧ (r_17 = 8 → (f_X10_fails 4 (G_20 272 10) G_20 (fun r_19 G_22 => (Q r_19 G_22)))))))) ∧ (r_16 = 0 → (Q 0 G_20)))))))))) ∧ (r_13 = 40 → ((x3 ≠ 3 → (f_X10_hymnsOf s G_17 (fun r_20 => ((0 ≤ x3 ∧ x3 < 3) ∧ (∀ G_23, G_23 = upG G_17 279 (x3).toNat r_20 → (inR ((G_23 272 9) + 1) ∧ (∀ G_24, G_24 = upG G_23 272 9 ((G_23 272 9) + 1) → (inR (x3 + 1) ∧ (kk (x3 + 1) 0 G_24))))))))) ∧ (x3 = 3 → (f_X10_fails 3 (G_17 272 10) G_17 (fun r_21 G_25 => (Q r_21 G_25)))))))))  := by
  obtain ⟨k, q, V, B, hx4, hk, lq, hd, v5, b, a, l8, hB, E⟩ := hI
  have hn := hT.1
  have aq := a.rng
  have l5 := nx_rng (T := T) aq.2
  rw [a.2] at ih
  obtain ⟨k', rfl⟩ : ∃ k', k = k' + 1 := ⟨k - 1, by omega⟩
  refine mb_next hT r0 b a (fun G1 b1 a1 a9 a10 e279 => ?_)
  obtain ⟨r, hr⟩ : ∃ r, r = if n ≤ q then -1 else T q.toNat := ⟨_, rfl⟩
  rw [← hr]
  have h40 : r = 40 ↔ (q < n ∧ T q.toNat = 40) := by
    rw [hr]
    by_cases c : n ≤ q
    · rw [if_pos c]; omega
    · rw [if_neg c]; omega
  have h41 : r = 41 ↔ (q < n ∧ T q.toNat = 41) := by
    rw [hr]
    by_cases c : n ≤ q
    · rw [if_pos c]; omega
    · rw [if_neg c]; omega
  have hdg : (48 ≤ r ∧ r ≤ 57) ↔ kdT T n q = 2 := by
    rw [hr]
    constructor
    · intro w
      by_cases c : n ≤ q
      · rw [if_pos c] at w; omega
      · rw [if_neg c] at w; exact kd_2 (by omega) w
    · intro w
      have := kd_of2 w
      rw [if_neg (by omega)]; exact this.2
  have ew : G1 273 = V := b1.2.2.2.1
  have bw := b1.2.2.2.2
  refine ⟨fun c1 => ?_, fun c1 => ?_⟩
  · have n1 : ¬ (q < n ∧ T q.toNat = 40) := fun w => c1 (h40.mpr w)
    refine p10_in ⟨fun c2 => ?_, fun c2 => ?_⟩
    · have n2 : kdT T n q ≠ 2 := fun w => b2_eq0 c2 (hdg.mpr w)
      have join : ¬ ((q < n ∧ T q.toNat = 41) ∧ 0 < x3 ∧ 1 - x4 = 0) → jj x3 x4 G1 := fun w => hj _ _ _ ⟨k', q, V, B, hx4, lq, v5, b1, a1, a10, n1, w, n2, E⟩
      refine ⟨fun c3 => join (fun w => c3 (h41.mpr w.1)), fun c3 => ⟨fun c4 => join (by omega), fun c4 => ⟨fun c5 => join (by omega), fun c5 => ?_⟩⟩⟩
      have c6 := h41.mp c3
      unfold pSvc at E
      rw [if_neg n1, if_pos (show (q < n ∧ T q.toNat = 41) ∧ 0 < x3 ∧ 1 - x4 = 0 from ⟨c6, c5, by omega⟩)] at E
      have k3 : kdT T n q = 3 := kd_3 c6.1 (by omega) (by omega)
      rw [a9]
      refine ⟨⟨by omega, by omega⟩, fun G2 e2 => ⟨⟨by omega, by omega⟩, ?_⟩⟩
      have b2 : MB st G0 V G2 := b1.to (fun x hx => by rw [e2, up_na hx]) (fun k hk => by rw [e2, upG_nk (by omega)])
      have a2 : AtS T n G2 (nxT T n q) := at_sign k3 aq.1 (by rw [e2, upG_same])
      have l6 := nx_rng (T := T) l5.2.1
      have g9 : G2 279 (x3 + (-1)).toNat = B (x3 - 1).toNat := by
        rw [e2, up_na (by omega), e279, show x3 + (-1) = x3 - 1 by omega]
        exact (hB (x3 - 1) (by omega) (by omega)).2
      have hb := (hB (x3 - 1) (by omega) (by omega)).1
      rw [g9]
      refine mr_repeats hT r0 b2 a2 s0 l8.2 hb (fun q1 lt1 c7 G3 b3 a3 e3 l9 => ⟨fun _ => ?_, fun w => by omega⟩) (fun q1 c7 G' f' => ⟨fun w => absurd rfl w, fun _ => E.2 _ _ G' (by rw [if_neg (fun w => w q1), if_pos c7]) f'⟩) (fun q1 G' f' => ⟨fun w => absurd rfl w, fun _ => E.2 _ _ G' (if_pos q1) f'⟩)
      rw [if_neg (fun w => w q1), if_neg c7] at E
      have x41 : x4 = 1 := by omega
      rw [x41, show x3 + (-1) = x3 - 1 by omega]
      refine ih _ _ G3 ⟨k', nxT T n (nxT T n q), _, B, Or.inr rfl, by omega, by omega, by omega, ?_, b3, a3, by omega, fun i i0 i1 => ?_, E⟩ (by rw [a3.2]; omega)
      · exact (reU_lo (by omega) (by omega)).trans v5
      · rw [e3, e2, up_na (by omega), e279]
        have := hB i i0 (by omega)
        exact ⟨⟨this.1.1, by omega⟩, this.2⟩
    · have k2 : kdT T n q = 2 := hdg.mp (b2_ne0 c2)
      have kq := kd_of2 k2
      unfold pSvc at E
      rw [if_neg n1, if_neg (by omega), if_pos (Or.inl k2)] at E
      refine mb_reads hT r0 b1 a1 (by omega) (fun q1 lt1 v1 G2 b2 a2 a210 e2 e2279 => ⟨fun _ => p10_hymnsOf s0 ?_, fun c => by omega⟩) (fun q1 G' f' => ⟨fun c => absurd rfl c, fun _ => E.2 _ _ G' (if_pos q1) f'⟩)
      rw [if_neg (fun w => w q1)] at E
      rw [b2.2.2.2.1, e2, a210]
      refine ⟨fun c3 => ?_, fun c3 => ?_⟩
      · rw [if_neg c3] at E
        refine mb_comesHymn b2 a2 s0 (by omega) (fun G3 b3 a3 e3 => ?_)
        have lh : servW (hyU V s (vlT T n q)) s 0 = servW V s 0 + 1 := pu_at
        refine ih _ _ G3 ⟨k', nxT T n q, _, B, Or.inr rfl, by omega, by omega, hd, ?_, b3, a3, by rw [lh]; omega, fun i i0 i1 => ?_, E⟩ (by rw [a3.2]; omega)
        · unfold hyU
          rw [pu_ne (by omega), pu_ne (by omega)]; exact v5
        · rw [e3, e2279, e279, lh]
          have := hB i i0 i1
          exact ⟨⟨this.1.1, by omega⟩, this.2⟩
      · rw [if_pos c3] at E
        exact mb_fails b2 (fun G' f' => E.2 _ _ G' rfl f')
  · have c2 := h40.mp c1
    have k3 : kdT T n q = 3 := kd_3 c2.1 (by omega) (by omega)
    unfold pSvc at E
    rw [if_pos c2] at E
    rw [a10]
    refine ⟨fun c3 => p10_hymnsOf s0 ⟨by omega, fun G2 e2 => ?_⟩, fun c3 => ?_⟩
    · rw [if_neg c3] at E
      rw [ew] at e2
      have g9 : G2 272 9 = q := by rw [e2, up_na (by omega)]; exact a9
      rw [g9]
      refine ⟨⟨by omega, by omega⟩, fun G3 e3 => ⟨⟨by omega, by omega⟩, ?_⟩⟩
      have b2 := b1.up9 e2
      have b3 : MB st G0 V G3 := b2.to (fun x hx => by rw [e3, up_na hx]) (fun k hk => by rw [e3, upG_nk (by omega)])
      have a3 : AtS T n G3 (nxT T n q) := at_sign k3 aq.1 (by rw [e3, upG_same])
      refine ih _ _ G3 ⟨k', nxT T n q, V, _, Or.inl rfl, by omega, by omega, by omega, v5, b3, a3, l8, fun i i0 i1 => ?_, E⟩ (by rw [a3.2]; omega)
      rw [e3, up_na (by omega), e2]
      by_cases c4 : i = x3
      · rw [c4, pu_at, upG_same]; exact ⟨⟨l8.1, Int.le_refl _⟩, rfl⟩
      · rw [pu_ne (by omega), upG_nk (by omega), e279]; exact hB i i0 (by omega)
    · rw [if_pos c3] at E
      exact mb_fails b1 (fun G' f' => E.2 _ _ G' rfl f')
theorem mr_serv {Q : Int → GH → Prop} (hT : TxO T n) (r0 : RfS T n G0) (b : MB st G0 W G) (a : AtS T n G (nxT T n p)) (hp : p < n) (E : EndM T n st G0 p (pServ T n p (fun _ => 0) W) Q) : f_X10_readService p G Q := by
  have ew : G 273 = W := b.2.2.2.1
  have bw := b.2.2.2.2
  have l0 := nx_rng (T := T) (n := n) (p := p) (by omega)
  unfold f_X10_readService
  rw [ew]
  unfold pServ at E
  refine ⟨fun w3 => ?_, fun w3 => ?_⟩
  · rw [if_neg w3] at E
    obtain ⟨s, hs⟩ : ∃ s, s = W 5 := ⟨_, rfl⟩
    rw [← hs] at E ⊢
    have s0 : 0 ≤ s ∧ s < 16 := by omega
    have l0' : servW (pu W ((132 + (9 * s)) + 0).toNat 0) s 0 = 0 := pu_at
    have ar := a.rng
    refine p10_serviceAt (by omega) (by omega) ⟨⟨by omega, by omega⟩, fun G1 e1 => ?_⟩
    have b1 := b.up e1 ⟨by rw [pu_ne (by omega)]; exact bw.1, by rw [pu_ne (by omega)]; exact bw.2.1, by rw [pu_ne (by omega)]; exact bw.2.2⟩
    refine joinI3 (P := MvP T n st p G0 s Q) (fun x3 x4 G2 hP => mv_join s0 hP) (fun jj hj => ?_)
    refine loopI3 (I := MvI T n st p G0 s Q) (μ := fun (_ _ : Int) (G5 : GH) => (n - skT T n (G5 272 9)).toNat) (fun kk x3 x4 G5 hI ih => mr_servL hT r0 s0 hI hj (fun y3 y4 G' hi lt => ih _ _ _ hi (by omega))) 0 0 G1 ⟨_, _, _, _, Or.inl rfl, ?_, ?_, by omega, ?_, b1, a.to e1, by rw [l0']; omega, fun i i0 i1 => by omega, E⟩
    · omega
    · omega
    · rw [pu_ne (by omega)]; exact hs.symm
  · rw [if_pos w3] at E
    exact mb_fails b (fun G' f' => E.2 _ _ G' rfl f')
end MSRV
