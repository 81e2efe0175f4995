-- ===== PURE LAYER: load, the class reads the boards =====
section CBRD
variable {T : BT} {n st p : Int} {G0 G : GH} {R : GH → Prop} {W W0 : WT}
theorem stb_zs : Stb (fun G => ZS G 21 W) := fun G G' o _ q => by
  have e : ∀ x, 21 ≤ x → x ≤ 40 → G' x = G x := fun x x0 x1 => o x (by omega)
  obtain ⟨z, q0, qr, qs, qt⟩ := q
  exact ⟨z.congr (fun x x0 x1 x2 x3 x4 => e x x0 x1) (fun k _ _ => by rw [e 21 (by omega) (by omega)]) (fun k _ => by rw [e (21 + 2) (by omega) (by omega)]), by rw [e 21 (by omega) (by omega)]; exact q0, by rw [e (21 + 1) (by omega) (by omega)]; exact qr, by rw [e 21 (by omega) (by omega)]; exact qs, by rw [e (21 + 2) (by omega) (by omega)]; exact qt⟩
theorem ZW.pu12 {i : Nat} {v : Int} (z : ZW W) (hi : i = 1 ∨ i = 2) (hv : v = 0 ∨ v = 1) : ZW (pu W i v) := by
  obtain ⟨a0, a1, a2, a3, a4, a5, a6, a7, a8, a9, a10, a11, ar, ak⟩ := z
  have o : ∀ k, k ≠ i → pu W i v k = W k := fun k hk => pu_ne hk
  refine ⟨by rw [o 0 (by omega)]; exact a0, ?_, ?_, by rw [o 3 (by omega)]; exact a3, by rw [o 4 (by omega)]; exact a4, by rw [o 5 (by omega)]; exact a5, by rw [o 6 (by omega)]; exact a6, by rw [o 7 (by omega)]; exact a7, by rw [o 8 (by omega)]; exact a8, by rw [o 9 (by omega)]; exact a9, by rw [o 10 (by omega)]; exact a10, by rw [o 11 (by omega)]; exact a11, fun b b0 b1 => ?_, fun k k0 k1 => by rw [o k (by omega)]; exact ak k k0 k1⟩
  · by_cases c : i = 1
    · rw [c, pu_at]; exact hv
    · rw [o 1 (by omega)]; exact a1
  · by_cases c : i = 2
    · rw [c, pu_at]; exact hv
    · rw [o 2 (by omega)]; exact a2
  · rw [o 0 (by omega)] at b1
    unfold rowW
    rw [o _ (by omega)]
    exact ar b b0 b1
theorem ZW.brd {v : Int} (z : ZW W) (h3 : W 0 ≠ 3) (hv : 1 ≤ v ∧ v ≤ 6) : ZW (brdU W v) := by
  obtain ⟨a0, a1, a2, a3, a4, a5, a6, a7, a8, a9, a10, a11, ar, ak⟩ := z
  have o : ∀ k, k ≠ 0 → k ≠ (12 + W 0).toNat → brdU W v k = W k := fun k hk h2 => by unfold brdU; rw [pu_ne hk, pu_ne h2]
  have o0 : brdU W v 0 = W 0 + 1 := pu_at
  refine ⟨by rw [o0]; omega, by rw [o 1 (by omega) (by omega)]; exact a1, by rw [o 2 (by omega) (by omega)]; exact a2, by rw [o 3 (by omega) (by omega)]; exact a3, by rw [o 4 (by omega) (by omega)]; exact a4, by rw [o 5 (by omega) (by omega)]; exact a5, by rw [o 6 (by omega) (by omega)]; exact a6, by rw [o 7 (by omega) (by omega)]; exact a7, by rw [o 8 (by omega) (by omega)]; exact a8, by rw [o 9 (by omega) (by omega)]; exact a9, by rw [o 10 (by omega) (by omega)]; exact a10, by rw [o 11 (by omega) (by omega)]; exact a11, fun b b0 b1 => ?_, fun k k0 k1 => by rw [o k (by omega) (by omega)]; exact ak k k0 k1⟩
  rw [o0] at b1
  by_cases c : b = W 0
  · rw [c]
    unfold rowW brdU
    rw [pu_ne (by omega), pu_at]; exact hv
  · unfold rowW
    rw [o _ (by omega) (by omega)]
    exact ar b b0 (by omega)
theorem cb_store {G' : GH} {R' : GH → Prop} {a k : Nat} {v : Int} (b : CB n st G0 R G) (ha : 21 ≤ a ∧ a ≤ 40) (e : G' = upG G a k v) (h : R' G') : CB n st G0 R' G' :=
  ⟨fun x x1 x2 x3 => by rw [e, up_na (by omega)]; exact b.1 x x1 x2 x3, by rw [e, up_na (by omega)]; exact b.2.1, by rw [e, up_na (by omega)]; exact b.2.2.1, by rw [e, up_na (by omega)]; exact b.2.2.2.1, h⟩
theorem pu_id {V : WT} {k : Nat} {v : Int} (h : V k = v) : pu V k v = V := funext fun i => by
  by_cases c : i = k
  · rw [c, pu_at, h]
  · exact pu_ne c
theorem ZS.pu2 {V : WT} {v : Int} (q : ZS G 21 V) : ZS (upG G 21 2 v) 21 (pu V 2 v) := by
  obtain ⟨z, q0, qr, qs, qt⟩ := q
  refine ⟨z.congr (fun x x0 x1 x2 x3 x4 => up_na (by omega)) (fun k k0 k1 => upG_nk (by omega)) (fun k _ => upG_na (by omega)), ?_, fun b b0 b1 => ?_, ?_, ?_⟩
  · rw [upG_nk (by omega), pu_ne (by omega)]; exact q0
  · rw [pu_ne (by omega)] at b1
    unfold rowW
    rw [up_na (by omega), pu_ne (by omega)]; exact qr b b0 b1
  · rw [upG_same, pu_at]
  · rw [up_na (by omega), pu_ne (by omega)]; exact qt
theorem ZS.pu1 {V : WT} {v : Int} (q : ZS G 21 V) : ZS (upG G 23 0 v) 21 (pu V 1 v) := by
  obtain ⟨z, q0, qr, qs, qt⟩ := q
  refine ⟨z.congr (fun x x0 x1 x2 x3 x4 => up_na (by omega)) (fun k k0 k1 => upG_na (by omega)) (fun k hk => upG_nk hk), ?_, fun b b0 b1 => ?_, ?_, ?_⟩
  · rw [up_na (by omega), pu_ne (by omega)]; exact q0
  · rw [pu_ne (by omega)] at b1
    unfold rowW
    rw [up_na (by omega), pu_ne (by omega)]; exact qr b b0 b1
  · rw [up_na (by omega), pu_ne (by omega)]; exact qs
  · show upG G 23 0 v 23 0 = _
    rw [upG_same, pu_at]
theorem ZS.brd {V : WT} {v : Int} (q : ZS G 21 V) (z : ZW V) : ZS (upG (upG G 22 (V 0).toNat v) 21 0 (V 0 + 1)) 21 (brdU V v) := by
  have z0 := z.1
  obtain ⟨zr, q0, qr, qs, qt⟩ := q
  unfold brdU
  refine ⟨zr.congr (fun x x0 x1 x2 x3 x4 => by rw [up_na (by omega), up_na (by omega)]) (fun k k0 k1 => by rw [upG_nk (by omega), up_na (by omega)]) (fun k hk => by rw [up_na (by omega), up_na (by omega)]), ?_, fun b b0 b1 => ?_, ?_, ?_⟩
  · rw [upG_same, pu_at]
  · rw [pu_at] at b1
    unfold rowW
    rw [up_na (by omega), pu_ne (by omega)]
    by_cases c : b = V 0
    · rw [c, upG_same, pu_at]
    · rw [upG_nk (by omega), pu_ne (by omega)]; exact qr b b0 (by omega)
  · rw [upG_nk (by omega), up_na (by omega), pu_ne (by omega), pu_ne (by omega)]; exact qs
  · rw [up_na (by omega), up_na (by omega), pu_ne (by omega), pu_ne (by omega)]; exact qt
theorem c_spl {Q : Int → GH → Prop} {q : Int} {V : WT} (hT : TxO T n) (h0 : G0 42 = T) (lq : p < q) (b : CB n st G0 (fun G => ZS G 21 V) G) (t : TkS T n G q) (z : ZW V) (v0 : 1 ≤ V 0) (v2 : V 2 = 0) (E : EndC T n st G0 p (pSpl T n q V) Q) : f_X5_isWord 2 G (fun r => ((r = 0 → Q 1 G) ∧ (r ≠ 0 → ∀ G1, G1 = upG G 21 2 1 → f_X5_advance G1 (fun G2 => Q 1 G2)))) := by
  unfold pSpl at E
  have l := nx_rng (T := T) t.1.2
  refine cb_word hT h0 b t (by omega) (fun c lt => ⟨fun w => by omega, fun _ G4 e4 => ?_⟩) (fun c => ⟨fun _ => ?_, fun w => absurd rfl w⟩)
  · rw [if_pos c] at E
    have b4 : CB n st G0 (fun G => ZS G 21 (pu V 2 1)) G4 := cb_store b (by omega) e4 (by rw [e4]; exact b.2.2.2.2.pu2)
    have z4 : ZW (pu V 2 1) := z.pu12 (Or.inr rfl) (Or.inr rfl)
    have v4 : 1 ≤ pu V 2 1 0 := by rw [pu_ne (by omega)]; exact v0
    refine cb_adv hT h0 stb_zs b4 (t.of (by rw [e4, up_na (by omega)])) (fun G5 b5 t5 => E.1 _ _ G5 rfl (by omega) ⟨⟨b5.1, b5.2.1, b5.2.2.1, b5.2.2.2.1, b5.2.2.2.2.rep z4 v4⟩, t5, z4.wf v4 (Int.le_refl _), z4.2.2.2.2.2.2.1⟩)
  · rw [if_neg c, pu_id v2] at E
    exact E.1 _ _ G rfl lq ⟨⟨b.1, b.2.1, b.2.2.1, b.2.2.2.1, b.2.2.2.2.rep z v0⟩, t, z.wf v0 (Int.le_refl _), z.2.2.2.2.2.2.1⟩
theorem c_trn {Q : Int → GH → Prop} {q : Int} {V : WT} (hT : TxO T n) (h0 : G0 42 = T) (lq : p < q) (b : CB n st G0 (fun G => ZS G 21 V) G) (t : TkS T n G q) (z : ZW V) (v0 : 1 ≤ V 0) (v1 : V 1 = 0) (v2 : V 2 = 0) (E : EndC T n st G0 p (pTrn T n q V) Q) : f_X5_isWord 1 G (fun r => join1 (fun (G1 : GH) => f_X5_isWord 2 G1 (fun r => ((r = 0 → Q 1 G1) ∧ (r ≠ 0 → ∀ G2, G2 = upG G1 21 2 1 → f_X5_advance G2 (fun G3 => Q 1 G3))))) (fun (jj : GH → Prop) => ((r = 0 → jj G) ∧ (r ≠ 0 → ∀ G2, G2 = upG G 23 0 1 → f_X5_advance G2 (fun G3 => jj G3))))) := by
  unfold pTrn at E
  have l := nx_rng (T := T) t.1.2
  refine cb_word hT h0 b t (by omega) (fun c lt => ⟨fun w => by omega, fun _ G4 e4 => ?_⟩) (fun c => ⟨fun _ => ?_, fun w => absurd rfl w⟩)
  · rw [if_pos c] at E
    have b4 : CB n st G0 (fun G => ZS G 21 (pu V 1 1)) G4 := cb_store b (by omega) e4 (by rw [e4]; exact b.2.2.2.2.pu1)
    have z4 : ZW (pu V 1 1) := z.pu12 (Or.inl rfl) (Or.inr rfl)
    exact cb_adv hT h0 stb_zs b4 (t.of (by rw [e4, up_na (by omega)])) (fun G5 b5 t5 => c_spl hT h0 (by omega) b5 t5 z4 (by rw [pu_ne (by omega)]; exact v0) (by rw [pu_ne (by omega)]; exact v2) E)
  · rw [if_neg c, pu_id v1] at E
    exact c_spl hT h0 lq b t z v0 v2 E
theorem c_board {Q : Int → GH → Prop} (hT : TxO T n) (h0 : G0 42 = T) (b : CB n st G0 (fun G => ZS G 21 W) G) (t : TkS T n G p) (z : ZW W) (w0 : W 0 = 0) (w1 : W 1 = 0) (w2 : W 2 = 0) (E : EndC T n st G0 p (pBoard T n p W) Q) : f_X5_readBoards 21 G Q := by
  unfold f_X5_readBoards
  unfold pBoard at E
  refine cb_word hT h0 b t (by omega) (fun c lt => ⟨fun _ => ?_, fun q => by omega⟩) (fun c => ⟨fun q => absurd rfl q, fun _ => ?_⟩)
  · rw [if_pos c] at E
    refine cb_adv hT h0 stb_zs b t (fun G1 b1 t1 => ?_)
    have l1 := nx_rng (T := T) t.1.2
    refine joinI1 (P := fun G2 : GH => ∃ (q : Int) (V : WT), p < q ∧ CB n st G0 (fun G => ZS G 21 V) G2 ∧ TkS T n G2 q ∧ ZW V ∧ 1 ≤ V 0 ∧ (V 1 = 0 ∧ V 2 = 0) ∧ EndC T n st G0 p (pTrn T n q V) Q) (fun G2 hP => ?_) (fun jj hj => ?_)
    · obtain ⟨q, V, lq, b2, t2, z2, v0, ⟨v1, v2⟩, E2⟩ := hP
      exact c_trn hT h0 lq b2 t2 z2 v0 v1 v2 E2
    · refine loopI2 (I := fun (x : Int) (G2 : GH) => ∃ (k : Nat) (q : Int) (V : WT), p < q ∧ (k : Int) = 3 - x ∧ x = V 0 ∧ CB n st G0 (fun G => ZS G 21 V) G2 ∧ TkS T n G2 q ∧ ZW V ∧ (V 1 = 0 ∧ V 2 = 0) ∧ EndC T n st G0 p (if x = 0 ∨ kdT T n q = 2 then pBrdL T n (k + 1) q V else pTrn T n q V) Q) (μ := fun (x : Int) (_ : GH) => (4 - x).toNat) (fun kk x G2 hI ih => ?_) 0 G1 ⟨3, _, _, by omega, by omega, w0.symm, b1, t1, z, ⟨w1, w2⟩, by rw [if_pos (Or.inl rfl)]; exact E⟩
      obtain ⟨k, q, V, lq, hk, hx, b2, t2, z2, ⟨v1, v2⟩, E2⟩ := hI
      have z0 := z2.1
      have l2 := nx_rng (T := T) t2.1.2
      have step : (x = 0 ∨ kdT T n q = 2) → ∀ F : GH → Prop, (∀ G6, kk (x + 1) G6 → F G6) → f_X5_isNumber 1 6 G2 (fun r G3 => ((r ≠ 0 → ((x ≠ 3 → ((0 ≤ x ∧ x < 3) ∧ (∀ G4, G4 = upG G3 (21 + 1) x.toNat (G3 41 8) → (inR ((G4 21 0) + 1) ∧ (∀ G5, G5 = upG G4 21 0 ((G4 21 0) + 1) → (f_X5_advance G5 (fun G6 => F G6))))))) ∧ (x = 3 → f_X5_fail 3 G3 (fun r G6 => Q r G6)))) ∧ (r = 0 → Q 0 G3))) := by
        intro cc F hF
        rw [if_pos cc] at E2
        have E3 : EndC T n st G0 p (if nmT T n 1 6 q ≠ 0 then .inl (nmT T n 1 6 q, q) else if V 0 = 3 then .inl (3, q) else if kdT T n (nxT T n q) = 2 then pBrdL T n k (nxT T n q) (brdU V (vlT T n q)) else pTrn T n (nxT T n q) (brdU V (vlT T n q))) Q := E2
        refine cb_numb b2 t2 (fun q1 lt1 r1 e1 => ⟨fun _ => ⟨fun c3 => ?_, fun c3 => ?_⟩, fun w => by omega⟩) (fun q1 G' f' => ⟨fun w => absurd rfl w, fun _ => E3.2 _ _ G' (if_pos q1) f'⟩)
        · rw [if_neg (fun w => w q1), if_neg (by omega)] at E3
          rw [e1]
          refine ⟨⟨by omega, by omega⟩, fun G4 e4 => ?_⟩
          have g0 : G4 21 0 = V 0 := by rw [e4, up_na (by omega)]; exact b2.2.2.2.2.2.1
          rw [g0]
          refine ⟨⟨by omega, by omega⟩, fun G5 e5 => ?_⟩
          rw [hx] at e4
          have zs : ZS G5 21 (brdU V (vlT T n q)) := by rw [e5, e4]; exact b2.2.2.2.2.brd z2
          have zw : ZW (brdU V (vlT T n q)) := z2.brd (by omega) r1
          have b5 : CB n st G0 (fun G => ZS G 21 (brdU V (vlT T n q))) G5 := cb_store (cb_store (R' := fun _ => True) b2 (by omega) e4 trivial) (by omega) e5 zs
          refine cb_adv hT h0 stb_zs b5 (t2.of (by rw [e5, up_na (by omega), e4, up_na (by omega)])) (fun G6 b6 t6 => hF G6 (ih _ G6 ⟨k - 1, nxT T n q, brdU V (vlT T n q), by omega, by omega, ?_, b6, t6, zw, ⟨?_, ?_⟩, ?_⟩ (by omega)))
          · rw [hx]; exact pu_at.symm
          · unfold brdU; rw [pu_ne (by omega), pu_ne (by omega)]; exact v1
          · unfold brdU; rw [pu_ne (by omega), pu_ne (by omega)]; exact v2
          · rw [show k - 1 + 1 = k by omega]
            by_cases c5 : kdT T n (nxT T n q) = 2
            · rw [if_pos c5] at E3
              rw [if_pos (Or.inr c5)]; exact E3
            · rw [if_neg c5] at E3
              rw [if_neg (by omega)]; exact E3
        · rw [if_neg (fun w => w q1), if_pos (by omega)] at E3
          exact cb_fail b2 t2 (fun G' f' => E3.2 _ _ G' rfl f')
      have join : x ≠ 0 → kdT T n q ≠ 2 → jj G2 := fun a1 a2 => by
        rw [if_neg (by omega)] at E2
        exact hj G2 ⟨q, V, lq, b2, t2, z2, by omega, ⟨v1, v2⟩, E2⟩
      have e5 := t2.2.2.1
      refine ⟨fun c3 => ?_, fun c3 => ⟨fun c4 => by omega, fun c4 => ⟨fun c5 => join c3 (by omega), fun c5 => step (Or.inr (by omega)) _ (fun _ w => w)⟩⟩⟩
      exact step (Or.inl c3) (fun G6 => inR (x + 1) ∧ kk (x + 1) G6) (fun _ w => ⟨⟨by omega, by omega⟩, w⟩)
  · rw [if_neg c] at E
    exact cb_fail b t (fun G' f' => E.2 _ _ G' rfl f')
end CBRD
