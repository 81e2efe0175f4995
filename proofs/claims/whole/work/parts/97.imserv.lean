-- ===== PURE LAYER: load, the reference reads the boards and a service =====
section MSERV
variable {T : BT} {n st p : Int} {G0 G : GH} {W : WT} {s : Int}
theorem mb_digit {Q : Int → GH → Prop} (hT : TxO T n) (r0 : RfS T n G0) (b : MB st G0 W G) (a : AtS T n G p) (h : ∀ G' : GH, MB st G0 W G' → AtS T n G' p → Q (b2 (kdT T n p = 2)) G') : f_X10_isDigitNext G Q :=
  m_digitNext hT (b.rf r0) a (fun G' o' p' a9 a10 => h G' (b.to o' (fun k hk => p' k (by omega) (by omega))) (a.self a9))
theorem mb_next {Q : Int → GH → Prop} (hT : TxO T n) (r0 : RfS T n G0) (b : MB st G0 W G) (a : AtS T n G p) (h : ∀ G' : GH, MB st G0 W G' → AtS T n G' p → G' 272 9 = p → G' 272 10 = p → G' 279 = G 279 → Q (if n ≤ p then -1 else T p.toNat) G') : f_X10_nextByte G Q := by
  refine m_next hT (b.rf r0) rfl a.1 (fun G' o' p' a9 a10 => ?_)
  rw [a.2] at a9 a10 ⊢
  exact h G' (b.to o' (fun k hk => p' k (by omega) (by omega))) (a.self a9) a9 a10 (o' 279 (by omega))
theorem en_3 (h : kdT T n p = 3) : enT T n p = p + 1 := by
  have k := kd_of3 h
  unfold enT
  rw [if_neg (by omega), if_neg k.2.1, if_neg k.2.2]
/-- a sign was passed over -/
theorem at_sign {G' : GH} (h : kdT T n p = 3) (hp : 0 ≤ p) (e : G' 272 9 = p + 1) : AtS T n G' (nxT T n p) := by
  have k := kd_of3 h
  refine ⟨by omega, ?_⟩
  rw [e]
  unfold nxT
  rw [en_3 h]
theorem mr_spl {Q : Int → GH → Prop} {q : Int} {V : WT} (hT : TxO T n) (r0 : RfS T n G0) (lq : p < q) (b : MB st G0 V G) (a : AtS T n G q) (E : EndM T n st G0 p (pSpl T n q V) Q) : f_X10_takes 2 G (fun r G9 => ((r = 0 → (∀ G1, G1 = upG G9 273 2 0 → (Q 1 G1))) ∧ (r ≠ 0 → (∀ G1, G1 = upG G9 273 2 1 → (Q 1 G1))))) := by
  have bw := b.2.2.2.2
  have l := nx_rng (T := T) a.rng.2
  have bw' : ∀ v, BW (pu V 2 v) := fun v => ⟨by rw [pu_ne (by omega)]; exact bw.1, by rw [pu_ne (by omega)]; exact bw.2.1, by rw [pu_ne (by omega)]; exact bw.2.2⟩
  unfold pSpl at E
  refine mb_takes hT r0 b a (by omega) (fun c lt G1 b1 a1 _ => ⟨fun w => by omega, fun _ G2 e2 => ?_⟩) (fun c G1 b1 a1 _ => ⟨fun _ G2 e2 => ?_, fun w => absurd rfl w⟩)
  · rw [if_pos c] at E
    exact E.1 _ _ G2 rfl (by omega) (b1.up e2 (bw' 1)) (a1.to e2)
  · rw [if_neg c] at E
    exact E.1 _ _ G2 rfl (by omega) (b1.up e2 (bw' 0)) (a1.to e2)
theorem mr_trn {Q : Int → GH → Prop} {q : Int} {V : WT} (hT : TxO T n) (r0 : RfS T n G0) (lq : p < q) (b : MB st G0 V G) (a : AtS T n G q) (E : EndM T n st G0 p (pTrn T n q V) Q) : f_X10_takes 1 G (fun r G7 => (join1 (fun (v : Int) => (∀ G8, G8 = upG G7 273 1 v → (f_X10_takes 2 G8 (fun r G9 => ((r = 0 → (∀ G1, G1 = upG G9 273 2 0 → (Q 1 G1))) ∧ (r ≠ 0 → (∀ G1, G1 = upG G9 273 2 1 → (Q 1 G1)))))))) (fun (jj : Int → Prop) => ((r = 0 → (jj 0)) ∧ (r ≠ 0 → (jj 1)))))) := by
  have bw := b.2.2.2.2
  have l := nx_rng (T := T) a.rng.2
  have bw' : ∀ v, BW (pu V 1 v) := fun v => ⟨by rw [pu_ne (by omega)]; exact bw.1, by rw [pu_ne (by omega)]; exact bw.2.1, by rw [pu_ne (by omega)]; exact bw.2.2⟩
  unfold pTrn at E
  refine mb_takes hT r0 b a (by omega) (fun c lt G1 b1 a1 _ => ⟨fun w => by omega, fun _ G2 e2 => ?_⟩) (fun c G1 b1 a1 _ => ⟨fun _ G2 e2 => ?_, fun w => absurd rfl w⟩)
  · rw [if_pos c] at E
    exact mr_spl hT r0 (by omega) (b1.up e2 (bw' 1)) (a1.to e2) E
  · rw [if_neg c] at E
    exact mr_spl hT r0 (by omega) (b1.up e2 (bw' 0)) (a1.to e2) E
theorem mr_board {Q : Int → GH → Prop} {V : WT} (hT : TxO T n) (r0 : RfS T n G0) (b : MB 0 G0 V G) (a : AtS T n G p) (E : EndM T n 0 G0 p (pBoard T n p (beW V)) Q) : f_X10_readStatement G Q := by
  have e14 : G 272 14 = 0 := b.2.2.1
  have l := nx_rng (T := T) a.rng.2
  unfold f_X10_readStatement
  rw [e14]
  unfold pBoard at E
  refine ⟨fun w => absurd rfl w, fun _ => mb_takes hT r0 b a (by omega) (fun c lt G1 b1 a1 _ => ⟨fun w => by omega, fun _ => ?_⟩) (fun c G1 b1 a1 a10 => ⟨fun _ => ?_, fun w => absurd rfl w⟩)⟩
  · rw [if_pos c] at E
    refine m_begins (fun G2 o2 w2 => ?_)
    have b2 : MB 0 G0 (beW V) G2 := ⟨⟨fun x x1 x2 x3 => by rw [o2 x x2]; exact b1.1.1 x x1 x2 x3, fun k hk => by rw [o2 272 (by omega)]; exact b1.1.2 k hk⟩, by rw [o2 272 (by omega)]; exact b1.2.1, by rw [o2 272 (by omega)]; exact b1.2.2.1, by rw [w2, b1.2.2.2.1], ⟨⟨Int.le_refl 0, (show (0 : Int) ≤ 12 by decide)⟩, ⟨Int.le_refl 0, (show (0 : Int) ≤ 3 by decide)⟩, ⟨Int.le_refl 0, (show (0 : Int) ≤ 16 by decide)⟩⟩⟩
    have a2 : AtS T n G2 (nxT T n p) := by unfold AtS; rw [o2 272 (by omega)]; exact a1
    refine loopI1 (I := fun G3 : GH => ∃ (k : Nat) (q : Int) (U : WT), p < q ∧ (k : Int) = 3 - U 0 ∧ 0 ≤ U 0 ∧ MB 0 G0 U G3 ∧ AtS T n G3 q ∧ EndM T n 0 G0 p (pBrdL T n (k + 1) q U) Q) (μ := fun G3 : GH => (4 - G3 273 0).toNat) (fun kk G3 hI ih => ?_) G2 ⟨3, nxT T n p, beW V, by omega, rfl, Int.le_refl 0, b2, a2, E⟩
    obtain ⟨k, q, U, lq, hk, u0, b3, a3, E3⟩ := hI
    have E4 : EndM T n 0 G0 p (if nmT T n 1 6 q ≠ 0 then .inl (nmT T n 1 6 q, q) else if U 0 = 3 then .inl (3, q) else if kdT T n (nxT T n q) = 2 then pBrdL T n k (nxT T n q) (brdU U (vlT T n q)) else pTrn T n (nxT T n q) (brdU U (vlT T n q))) Q := E3
    have l3 := nx_rng (T := T) a3.rng.2
    have e30 : G3 273 0 = U 0 := by rw [b3.2.2.2.1]
    refine mb_reads hT r0 b3 a3 (by omega) (fun q1 lt1 v1 G4 b4 a4 a10 e4 _ => ⟨fun _ => ?_, fun c => by omega⟩) (fun q1 G' f' => ⟨fun c => absurd rfl c, fun _ => E4.2 _ _ G' (if_pos q1) f'⟩)
    rw [if_neg (fun w => w q1)] at E4
    have ew : G4 273 = U := b4.2.2.2.1
    have bw := b4.2.2.2.2
    rw [ew, e4, a10]
    refine ⟨fun c3 => ?_, fun c3 => ?_⟩
    · rw [if_neg c3] at E4
      refine ⟨⟨by omega, by omega⟩, fun G5 e5 => ?_⟩
      have w5 : G5 273 0 = U 0 := by rw [e5, upG_nk (by omega), ew]
      rw [w5]
      refine ⟨⟨by omega, by omega⟩, fun G6 e6 => ?_⟩
      have b5 := b4.up e5 ⟨by rw [pu_ne (by omega)]; exact bw.1, by rw [pu_ne (by omega)]; exact bw.2.1, by rw [pu_ne (by omega)]; exact bw.2.2⟩
      have b6 : MB 0 G0 (brdU U (vlT T n q)) G6 := b5.up e6 ⟨by rw [pu_ne (by omega), pu_ne (by omega)]; exact bw.1, by rw [pu_ne (by omega), pu_ne (by omega)]; exact bw.2.1, by rw [pu_ne (by omega), pu_ne (by omega)]; exact bw.2.2⟩
      have o0 : brdU U (vlT T n q) 0 = U 0 + 1 := pu_at
      refine mb_digit hT r0 b6 ((a4.to e5).to e6) (fun G7 b7 a7 => ⟨fun c5 => ?_, fun c5 => ?_⟩)
      · rw [if_pos (b2_ne0 c5)] at E4
        have e70 : G7 273 0 = U 0 + 1 := by rw [b7.2.2.2.1, o0]
        refine ih G7 ⟨k - 1, nxT T n q, _, by omega, by rw [o0]; omega, by rw [o0]; omega, b7, a7, ?_⟩ (by rw [e70, e30]; omega)
        rw [show k - 1 + 1 = k by omega]; exact E4
      · rw [if_neg (b2_eq0 c5)] at E4
        exact mr_trn hT r0 (by omega) b7 a7 E4
    · rw [if_pos c3] at E4
      exact mb_fails b4 (fun G' f' => E4.2 _ _ G' rfl f')
  · rw [if_neg c] at E
    rw [a10]
    exact mb_fails b1 (fun G' f' => E.2 _ _ G' rfl f')
theorem mb_comesHymn {Q : GH → Prop} {v : Int} (b : MB st G0 W G) (a : AtS T n G p) (s0 : 0 ≤ s ∧ s < 16) (l8 : 0 ≤ servW W s 0 ∧ servW W s 0 ≤ 7) (h : ∀ G' : GH, MB st G0 (hyU W s v) G' → AtS T n G' p → G' 279 = G 279 → Q G') : f_X10_comesHymn s v G Q := by
  have ew : G 273 = W := b.2.2.2.1
  have bw := b.2.2.2.2
  refine p10_hymnsOf s0 ?_
  rw [ew]
  refine ⟨⟨by omega, by omega⟩, p10_serviceAt (by omega) (by omega) ⟨⟨by omega, by omega⟩, fun G1 e1 => p10_serviceAt (by omega) (by omega) ⟨⟨by omega, by omega⟩, ?_⟩⟩⟩
  have w1 : G1 273 ((132 + (9 * s)) + 0).toNat = servW W s 0 := by rw [e1, upG_nk (by omega), ew]
  rw [w1]
  refine ⟨⟨by omega, by omega⟩, fun G2 e2 => ?_⟩
  have b1 := b.up e1 ⟨by rw [pu_ne (by omega)]; exact bw.1, by rw [pu_ne (by omega)]; exact bw.2.1, by rw [pu_ne (by omega)]; exact bw.2.2⟩
  exact h G2 (b1.up e2 ⟨by rw [pu_ne (by omega), pu_ne (by omega)]; exact bw.1, by rw [pu_ne (by omega), pu_ne (by omega)]; exact bw.2.1, by rw [pu_ne (by omega), pu_ne (by omega)]; exact bw.2.2⟩) ((a.to e1).to e2) (by rw [e2, up_na (by omega), e1, up_na (by omega)])
theorem mr_repeats {Q : Int → GH → Prop} {ah : Int} (hT : TxO T n) (r0 : RfS T n G0) (b : MB st G0 W G) (a : AtS T n G p) (s0 : 0 ≤ s ∧ s < 16) (l8 : servW W s 0 ≤ 8) (ha : 0 ≤ ah ∧ ah ≤ servW W s 0)
    (h1 : nmT T n 1 8 p = 0 → p < n → ¬ 8 < ah + (servW W s 0 - ah) * vlT T n p → ∀ G' : GH, MB st G0 (reU W s ah (vlT T n p)) G' → AtS T n G' (nxT T n p) → G' 279 = G 279 → (servW W s 0 ≤ servW (reU W s ah (vlT T n p)) s 0 ∧ servW (reU W s ah (vlT T n p)) s 0 ≤ 8) → Q 1 G')
    (h4 : nmT T n 1 8 p = 0 → 8 < ah + (servW W s 0 - ah) * vlT T n p → ∀ G' : GH, MF st G0 G' 4 p → Q 0 G') (hn : nmT T n 1 8 p ≠ 0 → ∀ G' : GH, MF st G0 G' (nmT T n 1 8 p) p → Q 0 G') : f_X10_repeats s ah G Q := by
  refine mb_reads hT r0 b a (by omega) (fun q1 lt1 v1 G1 b1 a1 a10 e1 e279 => ⟨fun _ => p10_hymnsOf s0 ?_, fun c => by omega⟩) (fun q1 G' f' => ⟨fun c => absurd rfl c, fun _ => hn q1 G' f'⟩)
  have ew : G1 273 = W := b1.2.2.2.1
  rw [ew, e1, a10]
  generalize vlT T n p = v at *
  have mr := mul_r (a := servW W s 0 - ah) (v := v) (by omega) v1
  refine ⟨⟨by omega, by omega⟩, fun c => ⟨⟨by omega, by omega⟩, ?_⟩, fun c => mb_fails b1 (fun G' f' => h4 q1 c G' f')⟩
  have c0 := c
  obtain ⟨ins, hins⟩ : ∃ ins, ins = servW W s 0 - ah := ⟨_, rfl⟩
  obtain ⟨tot, htot⟩ : ∃ tot, tot = ah + (servW W s 0 - ah) * v := ⟨_, rfl⟩
  have re : reU W s ah v = pu (repH s ins (ins * v - ins).toNat (servW W s 0) W) ((132 + (9 * s)) + 0).toNat tot := by rw [htot, hins]; rfl
  rw [re] at h1
  rw [← hins] at mr c ⊢
  rw [← hins] at htot
  refine loopI2 (I := fun (x : Int) (G4 : GH) => ∃ (k : Nat) (V : WT), ins ≤ x ∧ MB st G0 V G4 ∧ AtS T n G4 (nxT T n p) ∧ G4 272 11 = v ∧ G4 279 = G 279 ∧ repH s ins k (ah + x) V = repH s ins (ins * v - ins).toNat (servW W s 0) W ∧ x + k = ins * v ∧ (1 ≤ ins ∨ k = 0)) (μ := fun (x : Int) (_ : GH) => (ins * v - x).toNat) (fun kk x G4 hI ih => ?_) ins G1 ⟨(ins * v - ins).toNat, W, Int.le_refl _, b1, a1, e1, e279, by rw [show ah + ins = servW W s 0 by omega], by omega, by omega⟩
  obtain ⟨k, V, hx, b4, a4, e11, e279', hr, hm, hk⟩ := hI
  have bw := b4.2.2.2.2
  have ew4 : G4 273 = V := b4.2.2.2.1
  rw [e11]
  refine ⟨⟨by omega, by omega⟩, fun c2 => p10_serviceAt (by omega) (by omega) ⟨⟨by omega, by omega⟩, ⟨by omega, by omega⟩, fun G5 e5 => ?_⟩, fun c2 => ⟨⟨by omega, by omega⟩, ?_⟩⟩
  · have k0 : k = 0 := by omega
    rw [k0] at hr
    have hr : V = repH s ins (ins * v - ins).toNat (servW W s 0) W := hr
    have b5 := b4.up e5 ⟨by rw [pu_ne (by omega)]; exact bw.1, by rw [pu_ne (by omega)]; exact bw.2.1, by rw [pu_ne (by omega)]; exact bw.2.2⟩
    rw [hr, ← htot] at b5
    have lt : servW (pu (repH s ins (ins * v - ins).toNat (servW W s 0) W) ((132 + (9 * s)) + 0).toNat tot) s 0 = tot := pu_at
    exact h1 q1 lt1 (by omega) G5 b5 (a4.to e5) (by rw [e5, up_na (by omega)]; exact e279') (by rw [lt]; omega)
  · obtain ⟨k', rfl⟩ : ∃ k', k = k' + 1 := ⟨k - 1, by omega⟩
    have hr : repH s ins k' (ah + x + 1) (pu V ((132 + (9 * s)) + (1 + (ah + x))).toNat (servW V s (1 + (ah + x - ins)))) = _ := hr
    refine p10_hymnOf s0 (by omega) ?_
    rw [ew4]
    refine ⟨⟨by omega, by omega⟩, ⟨by omega, by omega⟩, p10_serviceAt (by omega) (by omega) ⟨⟨by omega, by omega⟩, fun G5 e5 => ?_⟩⟩
    have b5 := b4.up e5 ⟨by rw [pu_ne (by omega)]; exact bw.1, by rw [pu_ne (by omega)]; exact bw.2.1, by rw [pu_ne (by omega)]; exact bw.2.2⟩
    exact ih _ G5 ⟨k', _, by omega, b5, a4.to e5, by rw [e5, up_na (by omega)]; exact e11, by rw [e5, up_na (by omega)]; exact e279', by rw [← Int.add_assoc]; exact hr, by omega, by omega⟩ (by omega)
end MSERV
