-- ===== PURE LAYER: load, the reference reads the whole text; the arm of load =====
section MLOAD
variable {T : BT} {n st p : Int} {G0 G : GH} {W : WT}
theorem mr_stmt {Q : Int → GH → Prop} (hT : TxO T n) (r0 : RfS T n G0) (b : MB st G0 W G) (a : AtS T n G p) (hst : st ≠ 0) (E : EndM T n st G0 p (pStmt T n p W) Q) : f_X10_readStatement G Q := by
  have pr := a.rng
  have e14 : G 272 14 = st := b.2.2.1
  unfold f_X10_readStatement
  rw [e14]
  unfold pStmt at E
  refine ⟨fun _ => mb_takes hT r0 b a (by omega) (fun c lt G1 b1 a1 a10 => ⟨fun w => by omega, fun _ => ?_⟩) (fun c G1 b1 a1 a10 => ⟨fun _ => ?_, fun w => absurd rfl w⟩), fun w => absurd w hst⟩
  · rw [if_pos c] at E
    rw [a10]
    exact mr_card hT r0 b1 a1 pr.2 E
  rw [if_neg c] at E
  refine mb_takes hT r0 b1 a1 (by omega) (fun c lt G1 b1 a1 a10 => ⟨fun w => by omega, fun _ => ?_⟩) (fun c G1 b1 a1 a10 => ⟨fun _ => ?_, fun w => absurd rfl w⟩)
  · rw [if_pos c] at E
    rw [a10]
    exact mr_friend hT r0 b1 a1 pr.2 E
  rw [if_neg c] at E
  refine mb_takes hT r0 b1 a1 (by omega) (fun c lt G1 b1 a1 a10 => ⟨fun w => by omega, fun _ => ?_⟩) (fun c G1 b1 a1 a10 => ⟨fun _ => ?_, fun w => absurd rfl w⟩)
  · rw [if_pos c] at E
    rw [a10]
    exact mr_serv hT r0 b1 a1 lt E
  rw [if_neg c] at E
  rw [a10]
  exact mb_fails b1 (fun G' f' => E.2 _ _ G' rfl f')
def EndQ (G0 : GH) (r : PL) (Q : Int → GH → Prop) : Prop := (∀ (W' : WT) (G' : GH) (st' : Int), r = .inr W' → MB st' G0 W' G' → Q 1 G') ∧ (∀ (e a st' : Int) (G' : GH), r = .inl (e, a, st') → MF st' G0 G' e a → Q 0 G')
theorem mr_all {Q : Int → GH → Prop} {V : WT} (hT : TxO T n) (r0 : RfS T n G0) (g0 : G0 = G) (h12 : G 272 12 = 0) (hV : G 273 = V) (bV : BW V) (E : EndQ G0 (pLoad T n V) Q) : f_X10_readAll G Q := by
  have hn := hT.1
  intro G1 e1 G2 e2
  have o2 : ∀ x, x ≠ 272 → G2 x = G x := fun x hx => by rw [e2, up_na hx, e1, up_na hx]
  have p2 : ∀ k, k ≠ 9 → k ≠ 14 → G2 272 k = G 272 k := fun k k9 k14 => by rw [e2, upG_nk k14, e1, upG_nk k9]
  have b2 : MB 0 G0 V G2 := ⟨⟨fun x a1 a2 a3 => by rw [o2 x a1, g0], fun k hk => by rw [p2 k (by omega) (by omega), g0]⟩, by rw [p2 12 (by omega) (by omega)]; exact h12, by rw [e2, upG_same], by rw [o2 273 (by omega)]; exact hV, bV⟩
  have g29 : G2 272 9 = 0 := by rw [e2, upG_nk (by omega), e1, upG_same]
  have a2 : AtS T n G2 (skT T n 0) := ⟨by rw [g29]; omega, by rw [g29]⟩
  have s0 := sk_rng (T := T) (n := n) (p := 0) hn.1
  refine loopI1 (I := fun G3 : GH => ∃ (k : Nat) (q x : Int) (W : WT), (0 ≤ x ∧ x ≤ q) ∧ n - q < k ∧ MB x G0 W G3 ∧ AtS T n G3 q ∧ EndQ G0 (if x = 0 then pThen (pBoard T n q (beW W)) 0 (pSts T n k 0) else pThen (pStmt T n q W) x (pSts T n k x)) Q) (μ := fun G3 : GH => (n - skT T n (G3 272 9)).toNat) (fun kk G3 hI ih => ?_) G2 ⟨(n + 1).toNat, skT T n 0, 0, V, by omega, by omega, b2, a2, by rw [if_pos rfl]; exact E⟩
  obtain ⟨k, q, x, W, hx, hk, b3, a3, E3⟩ := hI
  rw [a3.2] at ih
  have aq := a3.rng
  have rest : ∀ p' W' G', q < p' → MB x G0 W' G' → AtS T n G' p' → EndQ G0 (pSts T n k x p' W') Q → f_X10_nextByte G' (fun r_2 G_5 => ((r_2 ≠ (-1) → ((r_2 = 59 → (inR ((G_5 272 9) + 1) ∧ (∀ G_6, G_6 = upG G_5 272 9 ((G_5 272 9) + 1) → (inR ((G_6 272 14) + 1) ∧ (∀ G_7, G_7 = upG G_6 272 14 ((G_6 272 14) + 1) → (kk G_7)))))) ∧ (r_2 ≠ 59 → (f_X10_fails 1 (G_5 272 10) G_5 (fun r_3 G_8 => (Q r_3 G_8)))))) ∧ (r_2 = (-1) → (Q 1 G_5)))) := by
    intro p' W' G' lp b a E'
    have ap := a.rng
    have l := nx_rng (T := T) ap.2
    obtain ⟨k', rfl⟩ : ∃ k', k = k' + 1 := ⟨k - 1, by omega⟩
    unfold pSts at E'
    refine mb_next hT r0 b a (fun G5 b5 a5 a9 a10 _ => ?_)
    by_cases c : n ≤ p'
    · rw [if_pos c] at E' ⊢
      exact ⟨fun w => absurd rfl w, fun _ => E'.1 W' G5 x rfl b5⟩
    · rw [if_neg c] at E' ⊢
      have tr := hT.at ap.1 (by omega)
      refine ⟨fun _ => ⟨fun c2 => ?_, fun c2 => ?_⟩, fun w => by omega⟩
      · rw [if_pos c2] at E'
        have k3 : kdT T n p' = 3 := kd_3 (by omega) (by omega) (by omega)
        rw [a9]
        refine ⟨⟨by omega, by omega⟩, fun G6 e6 => ?_⟩
        have g14 : G6 272 14 = x := by rw [e6, upG_nk (by omega)]; exact b5.2.2.1
        rw [g14]
        refine ⟨⟨by omega, by omega⟩, fun G7 e7 => ?_⟩
        have o7 : ∀ y, y ≠ 272 → G7 y = G5 y := fun y hy => by rw [e7, up_na hy, e6, up_na hy]
        have p7 : ∀ y, y ≠ 9 → y ≠ 14 → G7 272 y = G5 272 y := fun y h9 h14 => by rw [e7, upG_nk h14, e6, upG_nk h9]
        have b7 : MB (x + 1) G0 W' G7 := ⟨⟨fun y a1 a2 a3 => by rw [o7 y a1]; exact b5.1.1 y a1 a2 a3, fun y hy => by rw [p7 y (by omega) (by omega)]; exact b5.1.2 y hy⟩, by rw [p7 12 (by omega) (by omega)]; exact b5.2.1, by rw [e7, upG_same], by rw [o7 273 (by omega)]; exact b5.2.2.2.1, b5.2.2.2.2⟩
        have a7 : AtS T n G7 (nxT T n p') := at_sign k3 ap.1 (by rw [e7, upG_nk (by omega), e6, upG_same])
        exact ih G7 ⟨k', nxT T n p', x + 1, W', by omega, by omega, b7, a7, by rw [if_neg (show ¬ x + 1 = 0 by omega)]; exact E'⟩ (by rw [a7.2]; omega)
      · rw [if_neg c2] at E'
        rw [a10]
        exact mb_fails b5 (fun G' f' => E'.2 _ _ _ G' rfl f')
  by_cases c : x = 0
  · rw [if_pos c] at E3
    rw [c] at b3 rest
    refine mr_board hT r0 b3 a3 ⟨fun p' W' G' hr lp b a => ⟨fun _ => rest p' W' G' lp b a ?_, fun w => by omega⟩, fun e a G' hr f' => ⟨fun w => absurd rfl w, fun _ => ?_⟩⟩
    · rw [hr] at E3; exact E3
    · rw [hr] at E3; exact E3.2 e a 0 G' rfl f'
  · rw [if_neg c] at E3
    refine mr_stmt hT r0 b3 a3 c ⟨fun p' W' G' hr lp b a => ⟨fun _ => rest p' W' G' lp b a ?_, fun w => by omega⟩, fun e a G' hr f' => ⟨fun w => absurd rfl w, fun _ => ?_⟩⟩
    · rw [hr] at E3; exact E3
    · rw [hr] at E3; exact E3.2 e a x G' rfl f'
end MLOAD
section ARML
variable {j : Nat} {G : GH} {K : GH → Prop} {L : Nat} {xs : Nat → Int32} {i4 : Int}
/-- the reference: load -/
theorem m_load {T : BT} {n : Int} {Q : Int → GH → Prop} {V : WT} (hT : TxO T n) (r0 : RfS T n G) (hV : G 273 = V) (bV : BW V)
    (h1 : ∀ W', pLoad T n V = .inr W' → ∀ G' : GH, (∀ x, x ≠ 272 → x ≠ 273 → x ≠ 274 → x ≠ 279 → G' x = G x) → (∀ k, k ≠ 0 → k ≠ 6 → k ≠ 8 → ¬ (9 ≤ k ∧ k ≤ 15) → G' 272 k = G 272 k) → G' 273 = W' → G' 272 6 = 0 → G' 272 8 = 0 → G' 272 12 = 0 → G' 272 15 = -1 → Q (W' 5) G')
    (h0 : ∀ e a st, pLoad T n V = .inl (e, a, st) → (0 ≤ a ∧ a ≤ n) ∧ ∀ G' : GH, (∀ x, x ≠ 272 → x ≠ 273 → x ≠ 274 → x ≠ 279 → G' x = G x) → (∀ k, k ≠ 0 → k ≠ 8 → ¬ (9 ≤ k ∧ k ≤ 15) → G' 272 k = G 272 k) → (∀ k, k < 456 → G' 273 k = V k) → G' 272 8 = 0 → G' 272 12 = e → G' 272 15 = st → Q (-100 - a) G') : f_X10_load G Q := by
  intro G1 e1 G2 e2 G3 e3
  have o3 : ∀ x, x ≠ 272 → G3 x = G x := fun x hx => by rw [e3, up_na hx, e2, up_na hx, e1, up_na hx]
  have p3 : ∀ k, k ≠ 0 → k ≠ 12 → k ≠ 15 → G3 272 k = G 272 k := fun k k0 k1 k2 => by rw [e3, upG_nk k2, e2, upG_nk k1, e1, upG_nk k0]
  have g12 : G3 272 12 = 0 := by rw [e3, upG_nk (by omega), e2, upG_same]
  have g15 : G3 272 15 = -1 := by rw [e3, upG_same]
  refine m_goesAside (fun G4 o4 w4 => ?_)
  have f4 : ∀ x, x ≠ 274 → x ≠ 272 → G4 x = G x := fun x h1 h2 => by rw [o4 x h1]; exact o3 x h2
  have k4 : ∀ k, k ≠ 0 → k ≠ 12 → k ≠ 15 → G4 272 k = G 272 k := fun k k0 k1 k2 => by rw [o4 272 (by omega)]; exact p3 k k0 k1 k2
  have hV4 : G4 273 = V := by rw [f4 273 (by omega) (by omega)]; exact hV
  have w4' : ∀ k, k < 456 → G4 274 k = V k := fun k hk => by rw [w4 k hk, o3 273 (by omega), hV]
  refine mr_all (G0 := G4) hT ⟨by rw [k4 8 (by omega) (by omega) (by omega)]; exact r0.1, fun i hi => by rw [f4 278 (by omega) (by omega)]; exact r0.2 i hi⟩ rfl (by rw [o4 272 (by omega)]; exact g12) hV4 bV ⟨fun W' G5 st' hr b5 G6 e6 => ⟨fun _ G7 e7 => ?_, fun w => by omega⟩, fun e a st' G5 hr f5 G6 e6 => ⟨fun w => absurd rfl w, fun _ G8 e8 => ?_⟩⟩
  · have o7 : ∀ x, x ≠ 272 → G7 x = G5 x := fun x hx => by rw [e7, up_na hx, e6, up_na hx]
    have w7 : G7 273 = W' := by rw [o7 273 (by omega)]; exact b5.2.2.2.1
    have p7 : ∀ k, k ≠ 6 → k ≠ 8 → G7 272 k = G5 272 k := fun k k6 k8 => by rw [e7, upG_nk k6, e6, upG_nk k8]
    have hq := h1 W' hr G7 (fun x a1 a2 a3 a4 => by rw [o7 x a1, b5.1.1 x a1 a2 a4]; exact f4 x a3 a1) (fun k k0 k6 k8 kk => by rw [p7 k k6 k8, b5.1.2 k (by omega)]; exact k4 k k0 (by omega) (by omega)) w7 (by rw [e7, upG_same]) (by rw [e7, upG_nk (by omega), e6, upG_same]) (by rw [p7 12 (by omega) (by omega)]; exact b5.2.1) (by rw [p7 15 (by omega) (by omega), b5.1.2 15 (by omega), o4 272 (by omega)]; exact g15)
    rw [w7]; exact hq
  · obtain ⟨ha, hq⟩ := h0 e a st' hr
    have hn := hT.1
    have g13 : G8 272 13 = a := by rw [e8, upG_nk (by omega), e6, upG_nk (by omega)]; exact f5.2.2.2
    have g614 : G6 272 14 = st' := by rw [e6, upG_nk (by omega)]; exact f5.2.1
    rw [g13]
    refine ⟨⟨by omega, by omega⟩, m_comesBack (fun G9 o9 v9 z9 => ?_)⟩
    have o8 : ∀ x, x ≠ 272 → G8 x = G5 x := fun x hx => by rw [e8, up_na hx, e6, up_na hx]
    have p8 : ∀ k, k ≠ 15 → k ≠ 8 → G8 272 k = G5 272 k := fun k k6 k8 => by rw [e8, upG_nk k6, e6, upG_nk k8]
    have g72 : G9 272 = G8 272 := o9 272 (by omega)
    refine hq G9 (fun x a1 a2 a3 a4 => by rw [o9 x a2, o8 x a1, f5.1.1 x a1 a2 a4]; exact f4 x a3 a1) (fun k k0 k8 kk => by rw [g72, p8 k (by omega) k8, f5.1.2 k (by omega)]; exact k4 k k0 (by omega) (by omega)) (fun k hk => by rw [v9 k hk, o8 274 (by omega), f5.1.1 274 (by omega) (by omega) (by omega)]; exact w4' k hk) (by rw [g72, e8, upG_nk (by omega), e6, upG_same]) (by rw [g72, p8 12 (by omega) (by omega)]; exact f5.2.2.1) (by rw [g72, e8, upG_same, g614])
end ARML
