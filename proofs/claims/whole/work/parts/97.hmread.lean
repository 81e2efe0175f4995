-- ===== PURE LAYER: load, the reference reads cards, friends, boards =====
abbrev BW (W : WT) : Prop := (0 ≤ W 3 ∧ W 3 ≤ 12) ∧ (0 ≤ W 4 ∧ W 4 ≤ 3) ∧ (0 ≤ W 5 ∧ W 5 ≤ 16)
abbrev FrM (G0 G : GH) : Prop := (∀ x, x ≠ 272 → x ≠ 273 → x ≠ 279 → G x = G0 x) ∧ ∀ k, ¬ (9 ≤ k ∧ k ≤ 14) → G 272 k = G0 272 k
def MB (st : Int) (G0 : GH) (W : WT) (G : GH) : Prop := FrM G0 G ∧ G 272 12 = 0 ∧ G 272 14 = st ∧ G 273 = W ∧ BW W
def MF (st : Int) (G0 G : GH) (e a : Int) : Prop := FrM G0 G ∧ G 272 14 = st ∧ G 272 12 = e ∧ G 272 13 = a
def EndM (T : BT) (n st : Int) (G0 : GH) (p : Int) (r : PR) (Q : Int → GH → Prop) : Prop := (∀ p' W' G', r = .inr (p', W') → p < p' → MB st G0 W' G' → AtS T n G' p' → Q 1 G') ∧ (∀ e a G', r = .inl (e, a) → MF st G0 G' e a → Q 0 G')
theorem up_pu {G : GH} {a k : Nat} {v : Int} : upG G a k v a = pu (G a) k v := funext fun i => by
  by_cases c : i = k
  · rw [c, upG_same, pu_at]
  · rw [upG_nk c, pu_ne c]
section MREAD
variable {T : BT} {n st p : Int} {G0 G : GH} {W : WT}
theorem MB.rf (r0 : RfS T n G0) (b : MB st G0 W G) : RfS T n G := by
  refine ⟨by rw [b.1.2 8 (by omega)]; exact r0.1, fun i hi => by rw [b.1.1 278 (by omega) (by omega) (by omega)]; exact r0.2 i hi⟩
theorem MB.to {G' : GH} (b : MB st G0 W G) (o : ∀ x, x ≠ 272 → G' x = G x) (q : ∀ k, ¬ (9 ≤ k ∧ k ≤ 11) → G' 272 k = G 272 k) : MB st G0 W G' :=
  ⟨⟨fun x a1 a2 a3 => by rw [o x a1]; exact b.1.1 x a1 a2 a3, fun k hk => by rw [q k (by omega)]; exact b.1.2 k hk⟩, by rw [q 12 (by omega)]; exact b.2.1, by rw [q 14 (by omega)]; exact b.2.2.1, by rw [o 273 (by omega)]; exact b.2.2.2.1, b.2.2.2.2⟩
theorem MB.up {G' : GH} {k : Nat} {v : Int} (b : MB st G0 W G) (e : G' = upG G 273 k v) (h : BW (pu W k v)) : MB st G0 (pu W k v) G' :=
  ⟨⟨fun x a1 a2 a3 => by rw [e, up_na a2]; exact b.1.1 x a1 a2 a3, fun k hk => by rw [e, up_na (by omega)]; exact b.1.2 k hk⟩, by rw [e, up_na (by omega)]; exact b.2.1, by rw [e, up_na (by omega)]; exact b.2.2.1, by rw [e, up_pu, b.2.2.2.1], h⟩
theorem AtS.to {G' : GH} {k : Nat} {v : Int} (a : AtS T n G p) (e : G' = upG G 273 k v) : AtS T n G' p := by
  unfold AtS
  rw [e, up_na (by omega)]; exact a
theorem mb_reads {Q : Int → GH → Prop} {lo hi : Int} (hT : TxO T n) (r0 : RfS T n G0) (b : MB st G0 W G) (a : AtS T n G p) (hh : 0 ≤ lo ∧ hi ≤ 999)
    (h1 : nmT T n lo hi p = 0 → p < n → lo ≤ vlT T n p ∧ vlT T n p ≤ hi → ∀ G' : GH, MB st G0 W G' → AtS T n G' (nxT T n p) → G' 272 10 = p → G' 272 11 = vlT T n p → G' 279 = G 279 → Q 1 G')
    (h0 : nmT T n lo hi p ≠ 0 → ∀ G' : GH, MF st G0 G' (nmT T n lo hi p) p → Q 0 G') : f_X10_reads lo hi G Q := by
  have pr := a.rng
  refine m_reads hT (b.rf r0) a hh (fun q k r G' o' p' a9 a10 a11 => ?_) (fun q G' o' p' e1 e2 => ?_)
  · have lt := (kd_of2 k).1
    have er := en_rng (T := T) pr.2
    exact h1 q lt r G' (b.to o' (fun k hk => p' k (by omega) (by omega) (by omega))) ⟨by rw [a9]; omega, by rw [a9]; rfl⟩ a10 a11 (o' 279 (by omega))
  · exact h0 q G' ⟨⟨fun x a1 a2 a3 => by rw [o' x a1]; exact b.1.1 x a1 a2 a3, fun k hk => by rw [p' k (by omega) (by omega) (by omega) (by omega)]; exact b.1.2 k hk⟩, by rw [p' 14 (by omega) (by omega) (by omega) (by omega)]; exact b.2.2.1, e1, e2⟩
theorem mb_takes {Q : Int → GH → Prop} {w : Nat} (hT : TxO T n) (r0 : RfS T n G0) (b : MB st G0 W G) (a : AtS T n G p) (hw : w < 10)
    (h1 : isWd T n w p → p < n → ∀ G' : GH, MB st G0 W G' → AtS T n G' (nxT T n p) → G' 272 10 = p → Q 1 G')
    (h0 : ¬ isWd T n w p → ∀ G' : GH, MB st G0 W G' → AtS T n G' p → G' 272 10 = p → Q 0 G') : f_X10_takes w G Q := by
  have pr := a.rng
  refine m_takes hT (b.rf r0) a hw (fun q G' o' p' a9 a10 => ?_) (fun q G' o' p' a9 a10 => ?_)
  · have er := en_rng (T := T) pr.2
    exact h1 q (kd_of1 q.1).1 G' (b.to o' (fun k hk => p' k (by omega) (by omega))) ⟨by rw [a9]; omega, by rw [a9]; rfl⟩ a10
  · exact h0 q G' (b.to o' (fun k hk => p' k (by omega) (by omega))) (a.self a9) a10
theorem mb_fails {Q : Int → GH → Prop} {e i : Int} (b : MB st G0 W G) (h : ∀ G' : GH, MF st G0 G' e i → Q 0 G') : f_X10_fails e i G Q :=
  m_fails (fun G' o' p' e1 e2 => h G' ⟨⟨fun x a1 a2 a3 => by rw [o' x a1]; exact b.1.1 x a1 a2 a3, fun k hk => by rw [p' k (by omega) (by omega)]; exact b.1.2 k hk⟩, by rw [p' 14 (by omega) (by omega)]; exact b.2.2.1, e1, e2⟩)
theorem mb_card {Q : Int → GH → Prop} {d e m : Int} (b : MB st G0 W G) (a : AtS T n G p) (w3 : W 3 ≠ 12) (h : ∀ G' : GH, MB st G0 (crdU W d e m) G' → AtS T n G' p → Q (W 3) G') : f_X10_comesCard d e m G Q := by
  have ew : G 273 = W := b.2.2.2.1
  have bw := b.2.2.2.2
  unfold f_X10_comesCard
  rw [ew]
  refine p10_cardAt (by omega) (by omega) ⟨⟨by omega, by omega⟩, fun G1 e1 => p10_cardAt (by omega) (by omega) ⟨⟨by omega, by omega⟩, fun G2 e2 => p10_cardAt (by omega) (by omega) ⟨⟨by omega, by omega⟩, fun G3 e3 => ?_⟩⟩⟩
  have w1 : G1 273 = pu W ((15 + (3 * W 3)) + 0).toNat d := by rw [e1, up_pu, ew]
  have w2 : G2 273 = pu (pu W ((15 + (3 * W 3)) + 0).toNat d) ((15 + (3 * W 3)) + 1).toNat e := by rw [e2, up_pu, w1]
  have w3' : G3 273 = pu (pu (pu W ((15 + (3 * W 3)) + 0).toNat d) ((15 + (3 * W 3)) + 1).toNat e) ((15 + (3 * W 3)) + 2).toNat m := by rw [e3, up_pu, w2]
  have e33 : G3 273 3 = W 3 := by rw [w3', pu_ne (by omega), pu_ne (by omega), pu_ne (by omega)]
  rw [e33]
  refine ⟨⟨by omega, by omega⟩, fun G4 e4 => ?_⟩
  have o4 : ∀ x, x ≠ 273 → G4 x = G x := fun x hx => by rw [e4, up_na hx, e3, up_na hx, e2, up_na hx, e1, up_na hx]
  have w4 : G4 273 = crdU W d e m := by rw [e4, up_pu, w3']; rfl
  have ok : ∀ k, k ≠ 3 → k < 12 → crdU W d e m k = W k := fun k k3 k12 => by
    unfold crdU
    rw [pu_ne k3, pu_ne (by omega), pu_ne (by omega), pu_ne (by omega)]
  have o3 : crdU W d e m 3 = W 3 + 1 := pu_at
  refine h G4 ⟨⟨fun x a1 a2 a3 => by rw [o4 x a2]; exact b.1.1 x a1 a2 a3, fun k hk => by rw [o4 272 (by omega)]; exact b.1.2 k hk⟩, by rw [o4 272 (by omega)]; exact b.2.1, by rw [o4 272 (by omega)]; exact b.2.2.1, w4, by rw [o3]; omega, by rw [ok 4 (by omega) (by omega)]; exact bw.2.1, by rw [ok 5 (by omega) (by omega)]; exact bw.2.2⟩ ?_
  unfold AtS
  rw [o4 272 (by omega)]; exact a
theorem mr_card {Q : Int → GH → Prop} (hT : TxO T n) (r0 : RfS T n G0) (b : MB st G0 W G) (a : AtS T n G (nxT T n p)) (hp : p ≤ n) (E : EndM T n st G0 p (pCard T n p W) Q) : f_X10_readCard p G Q := by
  have ew : G 273 = W := b.2.2.2.1
  have l0 := nx_rng (T := T) hp
  unfold f_X10_readCard
  rw [ew]
  unfold pCard at E
  refine ⟨fun w3 => ?_, fun w3 => ?_⟩
  · rw [if_neg w3] at E
    generalize nxT T n p = p1 at *
    unfold pCard0 at E
    refine mb_reads hT r0 b a (by omega) (fun q1 lt1 v1 G1 b1 a1 _ e1 _ => ⟨fun _ => ?_, fun c => by omega⟩) (fun q1 G' f' => ⟨fun c => absurd rfl c, fun _ => E.2 _ _ G' (if_pos q1) f'⟩)
    rw [if_neg (fun q => q q1)] at E
    have l1 := nx_rng (T := T) a.rng.2
    generalize nxT T n p1 = p2 at *
    unfold pCardA at E
    rw [e1]
    refine mb_takes hT r0 b1 a1 (by omega) (fun c lt2 G2 b2 a2 _ => ⟨fun q => by omega, fun _ => ?_⟩) (fun c G2 b2 a2 _ => ⟨fun _ => ?_, fun q => absurd rfl q⟩)
    · rw [if_pos c] at E
      have l2 := nx_rng (T := T) a1.rng.2
      generalize nxT T n p2 = p3 at *
      unfold pCardB at E
      refine mb_reads hT r0 b2 a2 (by omega) (fun q3 lt3 v3 G3 b3 a3 _ e3 _ => ⟨fun _ => ?_, fun c => by omega⟩) (fun q3 G' f' => ⟨fun c => absurd rfl c, fun _ => E.2 _ _ G' (if_pos q3) f'⟩)
      rw [if_neg (fun q => q q3)] at E
      have l3 := nx_rng (T := T) a2.rng.2
      rw [e3]
      generalize nxT T n p3 = p4 at *
      unfold pCardC at E
      refine mb_reads hT r0 b3 a3 (by omega) (fun q4 lt4 v4 G4 b4 a4 _ e4 _ => ⟨fun _ => ?_, fun c => by omega⟩) (fun q4 G' f' => ⟨fun c => absurd rfl c, fun _ => E.2 _ _ G' (if_pos q4) f'⟩)
      rw [if_neg (fun q => q q4)] at E
      have l4 := nx_rng (T := T) a3.rng.2
      rw [e4]
      exact mb_card b4 a4 w3 (fun G5 b5 a5 => E.1 _ _ G5 rfl (by omega) b5 a5)
    · rw [if_neg c] at E
      unfold pCardC at E
      refine mb_reads hT r0 b2 a2 (by omega) (fun q4 lt4 v4 G4 b4 a4 _ e4 _ => ⟨fun _ => ?_, fun c => by omega⟩) (fun q4 G' f' => ⟨fun c => absurd rfl c, fun _ => E.2 _ _ G' (if_pos q4) f'⟩)
      rw [if_neg (fun q => q q4)] at E
      have l4 := nx_rng (T := T) a2.rng.2
      rw [e4]
      exact mb_card b4 a4 w3 (fun G5 b5 a5 => E.1 _ _ G5 rfl (by omega) b5 a5)
  · rw [if_pos w3] at E
    exact mb_fails b (fun G' f' => E.2 _ _ G' rfl f')
theorem mb_setsFriend {Q : GH → Prop} {f h v : Int} (b : MB st G0 W G) (a : AtS T n G p) (hf : 0 ≤ f ∧ f < 3) (hh : 0 ≤ h ∧ h < 11) (hQ : ∀ G' : GH, MB st G0 (pu W ((51 + (11 * f)) + h).toNat v) G' → AtS T n G' p → Q G') : f_X10_setsFriend f h v G Q := by
  have bw := b.2.2.2.2
  refine ⟨⟨by omega, by omega⟩, fun G1 e1 => hQ G1 (b.up e1 ⟨by rw [pu_ne (by omega)]; exact bw.1, by rw [pu_ne (by omega)]; exact bw.2.1, by rw [pu_ne (by omega)]; exact bw.2.2⟩) (a.to e1)⟩
theorem mr_friend {Q : Int → GH → Prop} (hT : TxO T n) (r0 : RfS T n G0) (b : MB st G0 W G) (a : AtS T n G (nxT T n p)) (hp : p ≤ n) (E : EndM T n st G0 p (pFri T n p W) Q) : f_X10_readFriend p G Q := by
  have ew : G 273 = W := b.2.2.2.1
  have bw := b.2.2.2.2
  have l0 := nx_rng (T := T) hp
  unfold f_X10_readFriend
  rw [ew]
  unfold pFri at E
  refine ⟨fun w3 => ?_, fun w3 => ?_⟩
  · rw [if_neg w3] at E
    generalize nxT T n p = p1 at *
    unfold pFri0 at E
    refine mb_reads hT r0 b a (by omega) (fun q1 lt1 v1 G1 b1 a1 _ e1 _ => ⟨fun _ => ?_, fun c => by omega⟩) (fun q1 G' f' => ⟨fun c => absurd rfl c, fun _ => E.2 _ _ G' (if_pos q1) f'⟩)
    rw [if_neg (fun q => q q1)] at E
    have l1 := nx_rng (T := T) a.rng.2
    rw [e1]
    refine mb_setsFriend b1 a1 (by omega) (by omega) (fun G2 b2 a2 => ?_)
    refine loopI2 (I := fun (x : Int) (G5 : GH) => ∃ (k : Nat) (p5 : Int) (V : WT), (0 ≤ x ∧ x ≤ 10) ∧ (k : Int) = 10 - x ∧ p < p5 ∧ V 4 = W 4 ∧ MB st G0 V G5 ∧ AtS T n G5 p5 ∧ EndM T n st G0 p (pDig T n (W 4) k x p5 V) Q) (μ := fun (x : Int) (_ : GH) => (10 - x).toNat) (fun kk x G5 hI ih => ?_) 0 G2 ⟨10, _, _, by omega, by omega, by omega, pu_ne (by omega), b2, a2, E⟩
    obtain ⟨k, p5, V, hx, hk, lp, v4, b5, a5, E5⟩ := hI
    refine ⟨fun c => ?_, fun c => ?_⟩
    · have k0 : k = 0 := by omega
      rw [k0] at E5
      have e4 : G5 273 4 = W 4 := by rw [b5.2.2.2.1, v4]
      have bw5 := b5.2.2.2.2
      rw [e4]
      exact ⟨⟨by omega, by omega⟩, fun G6 e6 => E5.1 _ _ G6 rfl lp (b5.up e6 ⟨by rw [pu_ne (by omega)]; exact bw5.1, by rw [pu_at]; omega, by rw [pu_ne (by omega)]; exact bw5.2.2⟩) (a5.to e6)⟩
    · obtain ⟨k', rfl⟩ : ∃ k', k = k' + 1 := ⟨k - 1, by omega⟩
      have E6 : EndM T n st G0 p (if nmT T n 0 20 p5 ≠ 0 then .inl (nmT T n 0 20 p5, p5) else pDig T n (W 4) k' (x + 1) (nxT T n p5) (pu V ((51 + (11 * W 4)) + (1 + x)).toNat (vlT T n p5))) Q := E5
      refine mb_reads hT r0 b5 a5 (by omega) (fun q1 lt1 v1 G6 b6 a6 _ e6 _ => ⟨fun _ => ?_, fun c => by omega⟩) (fun q1 G' f' => ⟨fun c => absurd rfl c, fun _ => E6.2 _ _ G' (if_pos q1) f'⟩)
      rw [if_neg (fun q => q q1)] at E6
      have l5 := nx_rng (T := T) a5.rng.2
      rw [e6]
      exact ⟨⟨by omega, by omega⟩, mb_setsFriend b6 a6 (by omega) (by omega) (fun G7 b7 a7 => ih _ _ ⟨k', _, _, by omega, by omega, by omega, by rw [pu_ne (by omega)]; exact v4, b7, a7, E6⟩ (by omega))⟩
  · rw [if_pos w3] at E
    exact mb_fails b (fun G' f' => E.2 _ _ G' rfl f')
end MREAD
