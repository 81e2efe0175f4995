-- ===== PURE LAYER: load, the class reads a service: its loop =====
section CSRL
variable {T : BT} {n st p : Int} {G0 G : GH} {R : GH → Prop} {W W0 B : WT} {s d : Int}
theorem SvR.hy {G' : GH} {v : Int} (q : SvR s d W0 W B G) (hs : s = W0 5) (s0 : 0 ≤ s ∧ s < 16) (hW : WF 0 W0) (h8 : servW W s 0 ≠ 8) (hv : 1 ≤ v ∧ v ≤ 999) (g : ∀ x, x ≠ 33 → x ≠ 34 → G' x = G x) (k33 : ∀ k, k ≠ s.toNat → G' 33 k = G 33 k) (e33 : G' 33 s.toNat = servW W s 0 + 1) (k34 : ∀ k, k ≠ ((s * 8) + servW W s 0).toNat → G' 34 k = G 34 k) (e34 : G' 34 ((s * 8) + servW W s 0).toNat = v) : SvR s d W0 (hyU W s v) B G' := by
  obtain ⟨r, o, g32, l8, g33, g34, g9, g43⟩ := q
  have l' : servW (hyU W s v) s 0 = servW W s 0 + 1 := pu_at
  refine ⟨rep_srv r (fun x x0 x1 x2 x3 => by unfold upG; rw [g x x2 x3]) (fun k hk => ?_) (fun k hk => ?_) (fun s' a0 a1 => (hW.sv s' a0 a1).1.2), fun k hk => ?_, by rw [g 32 (by omega) (by omega)]; exact g32, by rw [l']; omega, by rw [l']; exact e33, fun i i0 i1 => ?_, by rw [g 41 (by omega) (by omega)]; exact g9, fun i i0 i1 => ?_⟩
  · rw [up_na (by omega), up_na (by omega)]; exact k33 k (by omega)
  · rw [up_na (by omega), up_na (by omega)]; exact k34 k (by omega)
  · unfold hyU
    rw [pu_ne (by omega), pu_ne (by omega)]; exact o k hk
  · rw [l'] at i1
    by_cases c : i = servW W s 0
    · have e : servW (hyU W s v) s (1 + i) = v := by
        rw [c]
        unfold hyU
        show pu _ _ _ _ = _
        rw [pu_ne (by omega), pu_at]
      rw [e, c]; exact ⟨hv, e34⟩
    · have e : servW (hyU W s v) s (1 + i) = servW W s (1 + i) := by
        unfold hyU
        show pu _ _ _ _ = _
        rw [pu_ne (by omega), pu_ne (by omega)]
      rw [e, k34 _ (by omega)]; exact g34 i i0 (by omega)
  · rw [l', g 43 (by omega) (by omega)]
    have := g43 i i0 i1
    exact ⟨⟨this.1.1, by omega⟩, this.2⟩
theorem c_hymn {Q : Int → GH → Prop} (hT : TxO T n) (h0 : G0 42 = T) (hs : s = W0 5) (s0 : 0 ≤ s ∧ s < 16) (hW : WF 0 W0) (b : CB n st G0 (SvR s d W0 W B) G) (t : TkS T n G p)
    (h1 : nmT T n 1 999 p = 0 → servW W s 0 ≠ 8 → p < n → ∀ G' : GH, CB n st G0 (SvR s d W0 (hyU W s (vlT T n p)) B) G' → TkS T n G' (nxT T n p) → Q 1 G')
    (h4 : nmT T n 1 999 p = 0 → servW W s 0 = 8 → ∀ G' : GH, CF n st G0 G' 4 p → Q 0 G') (hn : nmT T n 1 999 p ≠ 0 → ∀ G' : GH, CF n st G0 G' (nmT T n 1 999 p) p → Q 0 G') : f_X5_readHymn 32 s G Q := by
  refine cb_numb b t (fun q1 lt1 v1 e1 => ⟨fun _ => ⟨s0, ?_⟩, fun w => by omega⟩) (fun q1 G' f' => ⟨fun w => absurd rfl w, fun _ => hn q1 G' f'⟩)
  have g33 : G 33 s.toNat = servW W s 0 := b.2.2.2.2.2.2.2.2.1
  have l8 := b.2.2.2.2.2.2.2.1
  show (G 33 s.toNat ≠ 8 → _) ∧ (G 33 s.toNat = 8 → _)
  rw [g33, e1]
  refine ⟨fun c => ?_, fun c => cb_fail b t (fun G' f' => h4 q1 c G' f')⟩
  refine c_lengthen s0 (len := servW W s 0) g33 (by omega) (fun G2 o2 k33 e33 k34 e34 => ?_)
  have e41 : G2 41 = G 41 := o2 41 (by omega) (by omega)
  have b2 : CB n st G0 (SvR s d W0 (hyU W s (vlT T n p)) B) G2 := ⟨fun x x1 x2 x3 => by rw [o2 x (by omega) (by omega)]; exact b.1 x x1 x2 x3, by rw [e41]; exact b.2.1, by rw [e41]; exact b.2.2.1, by rw [e41]; exact b.2.2.2.1, b.2.2.2.2.hy hs s0 hW c v1 o2 k33 e33 k34 e34⟩
  exact cb_adv hT h0 stb_srv b2 (t.of e41) (fun G3 b3 t3 => h1 q1 c lt1 G3 b3 t3)
theorem c_close {Q : Int → GH → Prop} (hT : TxO T n) (h0 : G0 42 = T) (hs : s = W0 5) (s0 : 0 ≤ s ∧ s < 16) (hW : WF 0 W0) (hd : 0 < d ∧ d ≤ 3) (b : CB n st G0 (SvR s d W0 W B) G) (t : TkS T n G p)
    (h1 : nmT T n 1 8 (nxT T n p) = 0 → ¬ 8 < B (d - 1).toNat + (servW W s 0 - B (d - 1).toNat) * vlT T n (nxT T n p) → ∀ G' : GH, CB n st G0 (SvR s (d - 1) W0 (reU W s (B (d - 1).toNat) (vlT T n (nxT T n p))) B) G' → TkS T n G' (nxT T n (nxT T n p)) → servW W s 0 ≤ servW (reU W s (B (d - 1).toNat) (vlT T n (nxT T n p))) s 0 → Q 1 G')
    (h4 : nmT T n 1 8 (nxT T n p) = 0 → 8 < B (d - 1).toNat + (servW W s 0 - B (d - 1).toNat) * vlT T n (nxT T n p) → ∀ G' : GH, CF n st G0 G' 4 (nxT T n p) → Q 0 G') (hn : nmT T n 1 8 (nxT T n p) ≠ 0 → ∀ G' : GH, CF n st G0 G' (nmT T n 1 8 (nxT T n p)) (nxT T n p) → Q 0 G') : f_X5_closeBracket 32 s G Q := by
  refine cb_adv hT h0 stb_srv b t (fun G1 b1 t1 => ?_)
  generalize nxT T n p = p1 at *
  refine cb_numb b1 t1 (fun q1 lt1 v1 e1 => ⟨fun _ => ?_, fun w => by omega⟩) (fun q1 G' f' => ⟨fun w => absurd rfl w, fun _ => hn q1 G' f'⟩)
  obtain ⟨r, o, g32, l8, g33, g34, g9, g43⟩ := b1.2.2.2.2
  have hB := g43 (d - 1) (by omega) (by omega)
  rw [g9]
  refine ⟨⟨by omega, by omega⟩, fun G3 e3 => ?_⟩
  have e39 : G3 41 9 = d - 1 := by rw [e3, upG_same]
  have e343 : G3 43 (d - 1).toNat = B (d - 1).toNat := by rw [e3, up_na (by omega)]; exact hB.2
  have e333 : G3 33 s.toNat = servW W s 0 := by rw [e3, up_na (by omega)]; exact g33
  have e38 : G3 41 8 = vlT T n p1 := by rw [e3, upG_nk (by omega)]; exact e1
  show (0 ≤ G3 41 9 ∧ G3 41 9 < 3) ∧ (0 ≤ s ∧ s < 16) ∧ (inR ((G3 43 ((G3 41 9)).toNat) + (((G3 33 s.toNat) - (G3 43 ((G3 41 9)).toNat)) * (G3 41 8)))) ∧ _
  rw [e39, e343, e333, e38]
  have b3 : CB n st G0 (SvR s (d - 1) W0 W B) G3 := ⟨fun x x1 x2 x3 => by rw [e3, up_na (by omega)]; exact b1.1 x x1 x2 x3, by rw [e3, upG_nk (by omega)]; exact b1.2.1, by rw [e3, upG_nk (by omega)]; exact b1.2.2.1, by rw [e3, upG_nk (by omega)]; exact b1.2.2.2.1, r.congr (fun x x0 x1 => by unfold upG; rw [e3, up_na (by omega)]), o, by rw [e3, up_na (by omega)]; exact g32, l8, by rw [e3, up_na (by omega)]; exact g33, by rw [e3, up_na (by omega)]; exact g34, e39, fun i i0 i1 => by rw [e3, up_na (by omega)]; exact g43 i i0 (by omega)⟩
  have t3 : TkS T n G3 p1 := by
    obtain ⟨u0, u1, u2, u3, u4⟩ := t1
    exact ⟨u0, by rw [e3, upG_nk (by omega)]; exact u1, by rw [e3, upG_nk (by omega)]; exact u2, by rw [e3, upG_nk (by omega)]; exact u3, by rw [e3, upG_nk (by omega)]; exact u4⟩
  generalize vlT T n p1 = v at *
  generalize hah : B (d - 1).toNat = ah at *
  have mr := mul_r (a := servW W s 0 - ah) (v := v) (by omega) v1
  refine ⟨by omega, s0, ⟨by omega, by omega⟩, fun c => ⟨⟨by omega, by omega⟩, ?_⟩, fun c => cb_fail b3 t3 (fun G' f' => h4 q1 c G' f')⟩
  have hins : ∃ ins, ins = servW W s 0 - ah := ⟨_, rfl⟩
  obtain ⟨ins, hins⟩ := hins
  have hf : ∃ tot, tot = ah + (servW W s 0 - ah) * v := ⟨_, rfl⟩
  obtain ⟨tot, htot⟩ := hf
  have re : reU W s ah v = pu (repH s ins (ins * v - ins).toNat (servW W s 0) W) ((132 + (9 * s)) + 0).toNat tot := by rw [htot, hins]; rfl
  rw [re] at h1
  have c0 := c
  rw [← hins] at mr c ⊢
  rw [← hins] at htot
  refine loopI2 (I := fun (x : Int) (G4 : GH) => ∃ (k : Nat) (V : WT) (m : Int), x = k ∧ CB n st G0 (SvR s (d - 1) W0 (pu V ((132 + (9 * s)) + 0).toNat m) B) G4 ∧ TkS T n G4 p1 ∧ repH s ins k m V = repH s ins (ins * v - ins).toNat (servW W s 0) W ∧ m + k = tot ∧ ah + ins ≤ m ∧ (1 ≤ ins ∨ k = 0)) (μ := fun (x : Int) (_ : GH) => x.toNat) (fun kk x G4 hI ih => ?_) _ G3 ⟨(ins * v - ins).toNat, W, servW W s 0, by omega, by rw [pu_id rfl]; exact b3, t3, rfl, by omega, by omega, by omega⟩
  obtain ⟨k, V, m, rfl, b4, t4, hr, hm, hm2, hk⟩ := hI
  have lm : servW (pu V ((132 + (9 * s)) + 0).toNat m) s 0 = m := pu_at
  have g433 : G4 33 s.toNat = m := by rw [← lm]; exact b4.2.2.2.2.2.2.2.2.1
  have g434 := b4.2.2.2.2.2.2.2.2.2.1
  rw [lm] at g434
  refine ⟨fun c2 => ?_, fun c2 => ?_⟩
  · have k0 : k = 0 := by omega
    rw [k0] at hr hm
    have hr : V = repH s ins (ins * v - ins).toNat (servW W s 0) W := hr
    rw [hr, show m = tot by omega] at b4
    refine cb_adv hT h0 stb_srv b4 t4 (fun G5 b5 t5 => h1 q1 (by omega) G5 b5 t5 ?_)
    have : servW (pu (repH s ins (ins * v - ins).toNat (servW W s 0) W) ((132 + (9 * s)) + 0).toNat tot) s 0 = tot := pu_at
    rw [this]; omega
  · obtain ⟨k', rfl⟩ : ∃ k', k = k' + 1 := ⟨k - 1, by omega⟩
    have g := g434 (m - ins) (by omega) (by omega)
    have ev : servW (pu V ((132 + (9 * s)) + 0).toNat m) s (1 + (m - ins)) = servW V s (1 + (m - ins)) := pu_ne (by omega)
    rw [ev] at g
    show inR ((G4 33 s.toNat) - ins) ∧ f_X6_hymnAt 32 s ((G4 33 s.toNat) - ins) G4 _
    rw [g433]
    refine ⟨⟨by omega, by omega⟩, s0, ?_⟩
    show inR ((G4 33 s.toNat) - 1) ∧ f_X9_within (m - ins) 0 ((G4 33 s.toNat) - 1) _
    rw [g433]
    refine ⟨⟨by omega, by omega⟩, c_within ⟨fun c3 => absurd (b2_eq0 c3) (fun q => q (by omega)), fun _ => ⟨⟨by omega, by omega⟩, ?_⟩⟩⟩
    show f_X6_lengthen 32 s (G4 34 ((s * 8) + (m - ins)).toNat) G4 _
    rw [g.2]
    refine c_lengthen s0 (len := m) g433 (by omega) (fun G5 o5 k33 e33 k34 e34 => ?_)
    have e41 : G5 41 = G4 41 := o5 41 (by omega) (by omega)
    have sv := b4.2.2.2.2.hy (G' := G5) (v := servW V s (1 + (m - ins))) hs s0 hW (by rw [lm]; omega) g.1 o5 k33 (by rw [lm]; exact e33) (by rw [lm]; exact k34) (by rw [lm]; exact e34)
    have ee : hyU (pu V ((132 + (9 * s)) + 0).toNat m) s (servW V s (1 + (m - ins))) = pu (pu V ((132 + (9 * s)) + (1 + m)).toNat (servW V s (1 + (m - ins)))) ((132 + (9 * s)) + 0).toNat (m + 1) := by
      unfold hyU
      rw [lm]
      funext i
      by_cases c1 : i = ((132 + (9 * s)) + 0).toNat
      · rw [c1, pu_at, pu_at]
      · rw [pu_ne c1, pu_ne c1]
        by_cases c2 : i = ((132 + (9 * s)) + (1 + m)).toNat
        · rw [c2, pu_at, pu_at]
        · rw [pu_ne c2, pu_ne c2, pu_ne c1]
    rw [ee] at sv
    refine ih _ G5 ⟨k', pu V ((132 + (9 * s)) + (1 + m)).toNat (servW V s (1 + (m - ins))), m + 1, by omega, ⟨fun x x1 x2 x3 => by rw [o5 x (by omega) (by omega)]; exact b4.1 x x1 x2 x3, by rw [e41]; exact b4.2.1, by rw [e41]; exact b4.2.2.1, by rw [e41]; exact b4.2.2.2.1, sv⟩, t4.of e41, hr, by omega, by omega, by omega⟩ (by omega)
theorem c_open {Q : Int → GH → Prop} (hT : TxO T n) (h0 : G0 42 = T) (hd : 0 ≤ d ∧ d ≤ 3) (b : CB n st G0 (SvR s d W0 W B) G) (t : TkS T n G p)
    (h1 : d ≠ 3 → ∀ G' : GH, CB n st G0 (SvR s (d + 1) W0 W (pu B d.toNat (servW W s 0))) G' → TkS T n G' (nxT T n p) → Q 1 G') (h4 : d = 3 → ∀ G' : GH, CF n st G0 G' 3 p → Q 0 G') : f_X5_openBracket (G 33 s.toNat) G Q := by
  obtain ⟨r, o, g32, l8, g33, g34, g9, g43⟩ := b.2.2.2.2
  unfold f_X5_openBracket
  rw [g33, g9]
  refine ⟨fun c2 => ⟨⟨by omega, by omega⟩, fun G6 e6 => ?_⟩, fun c2 => cb_fail b t (fun G' f' => h4 c2 G' f')⟩
  have g69 : G6 41 9 = d := by rw [e6, up_na (by omega)]; exact g9
  rw [g69]
  refine ⟨⟨by omega, by omega⟩, fun G7 e7 => ?_⟩
  have x7 : ∀ x, x ≠ 41 → x ≠ 43 → G7 x = G x := fun x a b => by rw [e7, up_na a, e6, up_na b]
  have p7 : ∀ k, k ≠ 9 → G7 41 k = G 41 k := fun k hk => by rw [e7, upG_nk hk, e6, up_na (by omega)]
  have sv : SvR s (d + 1) W0 W (pu B d.toNat (servW W s 0)) G7 := by
    refine ⟨r.congr (fun x a0 a1 => by unfold upG; rw [x7 x (by omega) (by omega)]), o, by rw [x7 32 (by omega) (by omega)]; exact g32, l8, by rw [x7 33 (by omega) (by omega)]; exact g33, by rw [x7 34 (by omega) (by omega)]; exact g34, by rw [e7, upG_same], fun i i0 i1 => ?_⟩
    rw [e7, up_na (by omega), e6]
    by_cases c3 : i = d
    · rw [c3, pu_at, upG_same]; exact ⟨⟨l8.1, Int.le_refl _⟩, rfl⟩
    · rw [pu_ne (by omega), upG_nk (by omega)]; exact g43 i i0 (by omega)
  have b7 : CB n st G0 (SvR s (d + 1) W0 W (pu B d.toNat (servW W s 0))) G7 := ⟨fun x a1 a2 a3 => by rw [x7 x a1 a2]; exact b.1 x a1 a2 a3, by rw [p7 1 (by omega)]; exact b.2.1, by rw [p7 2 (by omega)]; exact b.2.2.1, by rw [p7 4 (by omega)]; exact b.2.2.2.1, sv⟩
  have t7 : TkS T n G7 p := by
    obtain ⟨u0, u1, u2, u3, u4⟩ := t
    exact ⟨u0, by rw [p7 6 (by omega)]; exact u1, by rw [p7 5 (by omega)]; exact u2, by rw [p7 7 (by omega)]; exact u3, by rw [p7 8 (by omega)]; exact u4⟩
  exact cb_adv hT h0 stb_srv b7 t7 (fun G8 b8 t8 => h1 c2 G8 b8 t8)
/-- the loop's invariant -/
def SvI (T : BT) (n st p : Int) (G0 : GH) (s : Int) (W : WT) (Q : Int → GH → Prop) (x3 x4 : Int) (G5 : GH) : Prop := ∃ (k : Nat) (q : Int) (V B' : WT) (d : Int), (x3 = 0 ∨ x3 = 1) ∧ (0 ≤ x4 ∧ x4 ≤ q) ∧ n - q < k ∧ p < q ∧ (0 ≤ d ∧ d ≤ 3) ∧ (x3 = 0 → 1 ≤ servW V s 0) ∧ CB n st G0 (SvR s d W V B') G5 ∧ TkS T n G5 q ∧ EndC T n st G0 p (pSvc T n s k q d x3 B' V) Q
/-- a hymn within the loop -/
theorem c_hymnL {Q : Int → GH → Prop} {k : Nat} {q : Int} {V : WT} {x4 : Int} {kk : Int → Int → GH → Prop} (hT : TxO T n) (h0 : G0 42 = T) (hs : s = W 5) (s0 : 0 ≤ s ∧ s < 16) (hW : WF 0 W) (hx4 : 0 ≤ x4 ∧ x4 ≤ q) (hk : n - q < ((k + 1 : Nat) : Int)) (lq : p < q) (hd : 0 ≤ d ∧ d ≤ 3) (b5 : CB n st G0 (SvR s d W V B) G) (t5 : TkS T n G q)
    (E5 : EndC T n st G0 p (if nmT T n 1 999 q ≠ 0 then .inl (nmT T n 1 999 q, q) else if servW V s 0 = 8 then .inl (4, q) else pSvc T n s k (nxT T n q) d 0 B (hyU V s (vlT T n q))) Q)
    (ih : ∀ G', SvI T n st p G0 s W Q 0 (x4 + 1) G' → kk 0 (x4 + 1) G') : f_X5_readHymn 32 s G (fun r G6 => ((r ≠ 0 → (inR (x4 + 1) ∧ (kk 0 (x4 + 1) G6))) ∧ (r = 0 → (Q 0 G6)))) := by
  have tq := t5.1
  have hn := hT.1
  have l5 := nx_rng (T := T) (n := n) (p := q) tq.2
  refine c_hymn hT h0 hs s0 hW b5 t5 (fun q1 c lt G' b' t' => ⟨fun _ => ⟨⟨by omega, by omega⟩, ?_⟩, fun w => by omega⟩) (fun q1 c G' f' => ⟨fun w => absurd rfl w, fun _ => E5.2 _ _ G' (by rw [if_neg (fun w => w q1), if_pos c]) f'⟩) (fun q1 G' f' => ⟨fun w => absurd rfl w, fun _ => E5.2 _ _ G' (if_pos q1) f'⟩)
  rw [if_neg (fun w => w q1), if_neg c] at E5
  have lh : servW (hyU V s (vlT T n q)) s 0 = servW V s 0 + 1 := pu_at
  have l8 := b5.2.2.2.2.2.2.2.1
  exact ih G' ⟨k, nxT T n q, _, B, d, Or.inl rfl, by omega, by omega, by omega, hd, fun _ => by rw [lh]; omega, b', t', E5⟩
theorem c_servL {Q : Int → GH → Prop} {q : Int} {V : WT} (hT : TxO T n) (h0 : G0 42 = T) (hs : s = W 5) (s0 : 0 ≤ s ∧ s < 16) (hW : WF 0 W) (h6 : W 6 = 0) {k : Nat} {x3 x4 : Int} {kk : Int → Int → GH → Prop} (hx3 : x3 = 0 ∨ x3 = 1) (hx4 : 0 ≤ x4 ∧ x4 ≤ q) (hk : n - q < ((k + 1 : Nat) : Int)) (lq : p < q) (hd : 0 ≤ d ∧ d ≤ 3) (hdue : x3 = 0 → 1 ≤ servW V s 0) (b5 : CB n st G0 (SvR s d W V B) G) (t5 : TkS T n G q) (E5 : EndC T n st G0 p (pSvc T n s (k + 1) q d x3 B V) Q)
    (ih : ∀ x G', SvI T n st p G0 s W Q x (x4 + 1) G' → kk x (x4 + 1) G') : (f_X5_isSign 40 G (fun r_3 => ((r_3 = 0 → (f_X5_isSign 41 G (fun r_4 => ((r_4 = 0 → ((G 41 5 = 2 → (f_X5_readHymn 32 s G (fun r G6 => ((r ≠ 0 → (inR (x4 + 1) ∧ (kk 0 (x4 + 1) G6))) ∧ (r = 0 → (Q 0 G6)))))) ∧ (G 41 5 ≠ 2 → ((x3 ≠ 0 → (f_X5_readHymn 32 s G (fun r G6 => ((r ≠ 0 → (inR (x4 + 1) ∧ (kk 0 (x4 + 1) G6))) ∧ (r = 0 → (Q 0 G6)))))) ∧ (x3 = 0 → (((G 41 9) ≤ 0 → (Q 1 G)) ∧ (0 < (G 41 9) → (f_X5_readHymn 32 s G (fun r G6 => ((r ≠ 0 → (inR (x4 + 1) ∧ (kk 0 (x4 + 1) G6))) ∧ (r = 0 → (Q 0 G6)))))))))))) ∧ (r_4 ≠ 0 → (((G 41 9) ≤ 0 → ((G 41 5 = 2 → (f_X5_readHymn 32 s G (fun r G6 => ((r ≠ 0 → (inR (x4 + 1) ∧ (kk 0 (x4 + 1) G6))) ∧ (r = 0 → (Q 0 G6)))))) ∧ (G 41 5 ≠ 2 → ((x3 ≠ 0 → (f_X5_readHymn 32 s G (fun r G6 => ((r ≠ 0 → (inR (x4 + 1) ∧ (kk 0 (x4 + 1) G6))) ∧ (r = 0 → (Q 0 G6)))))) ∧ (x3 = 0 → (((G 41 9) ≤ 0 → (Q 1 G)) ∧ (0 < (G 41 9) → (f_X5_readHymn 32 s G (fun r G6 => ((r ≠ 0 → (inR (x4 + 1) ∧ (kk 0 (x4 + 1) G6))) ∧ (r = 0 → (Q 0 G6)))))))))))) ∧ (0 < (G 41 9) → ((x3 ≠ 0 → ((G 41 5 = 2 → (f_X5_readHymn 32 s G (fun r G6 => ((r ≠ 0 → (inR (x4 + 1) ∧ (kk 0 (x4 + 1) G6))) ∧ (r = 0 → (Q 0 G6)))))) ∧ (G 41 5 ≠ 2 → ((x3 ≠ 0 → (f_X5_readHymn 32 s G (fun r G6 => ((r ≠ 0 → (inR (x4 + 1) ∧ (kk 0 (x4 + 1) G6))) ∧ (r = 0 → (Q 0 G6)))))) ∧ (x3 = 0 → (((G 41 9) ≤ 0 → (Q 1 G)) ∧ (0 < (G 41 9) → (f_X5_readHymn 32 s G (fun r G6 => ((r ≠ 0 → (inR (x4 + 1) ∧ (kk 0 (x4 + 1) G6))) ∧ (r = 0 → (Q 0 G6)))))))))))) ∧ (x3 = 0 → (f_X5_closeBracket 32 s G (fun r_14 G_14 => ((r_14 ≠ 0 → (inR (x4 + 1) ∧ (kk x3 (x4 + 1) G_14))) ∧ (r_14 = 0 → (Q 0 G_14)))))))))))))) ∧ (r_3 ≠ 0 → ((0 ≤ s ∧ s < 16) ∧ (f_X5_openBracket (G 33 s.toNat) G (fun r_15 G_15 => ((r_15 ≠ 0 → (inR (x4 + 1) ∧ (kk 1 (x4 + 1) G_15))) ∧ (r_15 = 0 → (Q 0 G_15)))))))))) := by
  have tq := t5.1
  have hn := hT.1
  have l5 := nx_rng (T := T) (n := n) (p := q) tq.2
  unfold pSvc at E5
  have e9 : G 41 9 = d := b5.2.2.2.2.2.2.2.2.2.2.1
  have ekd : G 41 5 = kdT T n q := t5.2.2.1
  have en : G 41 1 = n := b5.2.1
  have hym : ¬ (q < n ∧ T q.toNat = 40) → ¬ ((q < n ∧ T q.toNat = 41) ∧ 0 < d ∧ x3 = 0) → (kdT T n q = 2 ∨ x3 ≠ 0 ∨ 0 < d) → (f_X5_readHymn 32 s G (fun r G6 => ((r ≠ 0 → (inR (x4 + 1) ∧ (kk 0 (x4 + 1) G6))) ∧ (r = 0 → (Q 0 G6))))) := by
    intro c1 c2 c3
    rw [if_neg c1, if_neg c2, if_pos c3] at E5
    exact c_hymnL hT h0 hs s0 hW hx4 hk lq hd b5 t5 E5 (ih 0)
  have fin : ¬ (q < n ∧ T q.toNat = 40) → ¬ ((q < n ∧ T q.toNat = 41) ∧ 0 < d ∧ x3 = 0) → ¬ (kdT T n q = 2 ∨ x3 ≠ 0 ∨ 0 < d) → Q 1 G := by
    intro c1 c2 c3
    rw [if_neg c1, if_neg c2, if_neg c3] at E5
    obtain ⟨wf, rp, w6⟩ := srv_done hW h6 hs s0.2 b5.2.2.2.2 (hdue (by omega))
    exact E5.1 _ _ G rfl lq ⟨⟨b5.1, b5.2.1, b5.2.2.1, b5.2.2.2.1, rp⟩, t5, wf, w6⟩
  have blk : ¬ (q < n ∧ T q.toNat = 40) → ¬ ((q < n ∧ T q.toNat = 41) ∧ 0 < d ∧ x3 = 0) → ((G 41 5 = 2 → (f_X5_readHymn 32 s G (fun r G6 => ((r ≠ 0 → (inR (x4 + 1) ∧ (kk 0 (x4 + 1) G6))) ∧ (r = 0 → (Q 0 G6)))))) ∧ (G 41 5 ≠ 2 → ((x3 ≠ 0 → (f_X5_readHymn 32 s G (fun r G6 => ((r ≠ 0 → (inR (x4 + 1) ∧ (kk 0 (x4 + 1) G6))) ∧ (r = 0 → (Q 0 G6)))))) ∧ (x3 = 0 → (((G 41 9) ≤ 0 → (Q 1 G)) ∧ (0 < (G 41 9) → (f_X5_readHymn 32 s G (fun r G6 => ((r ≠ 0 → (inR (x4 + 1) ∧ (kk 0 (x4 + 1) G6))) ∧ (r = 0 → (Q 0 G6))))))))))) := fun c1 c2 => by
    rw [ekd, e9]
    exact ⟨fun c3 => hym c1 c2 (Or.inl c3), fun c3 => ⟨fun c4 => hym c1 c2 (Or.inr (Or.inl c4)), fun c4 => ⟨fun c5 => fin c1 c2 (by omega), fun c5 => hym c1 c2 (Or.inr (Or.inr c5))⟩⟩⟩
  refine c_sign t5 (by omega) ⟨fun c1 => ?_, fun c1 => ?_⟩
  · have c1 := b2_eq0 c1
    refine c_sign t5 (by omega) ⟨fun c2 => ?_, fun c2 => ?_⟩
    · have c2 := b2_eq0 c2
      exact blk c1 (fun w => c2 w.1)
    · have c2 := b2_ne0 c2
      refine ⟨fun c3 => blk c1 (fun w => by omega), fun c3 => ⟨fun c4 => blk c1 (fun w => c4 w.2.2), fun c4 => ?_⟩⟩
      rw [if_neg c1, if_pos (show (q < n ∧ T q.toNat = 41) ∧ 0 < d ∧ x3 = 0 from ⟨c2, by omega, c4⟩)] at E5
      have l6 := nx_rng (T := T) (n := n) (p := nxT T n q) l5.2.1
      refine c_close hT h0 hs s0 hW ⟨by omega, hd.2⟩ b5 t5 (fun q1 c G' b' t' lh => ⟨fun _ => ⟨⟨by omega, by omega⟩, ?_⟩, fun w => by omega⟩) (fun q1 c G' f' => ⟨fun w => absurd rfl w, fun _ => E5.2 _ _ G' (by rw [if_neg (fun w => w q1), if_pos c]) f'⟩) (fun q1 G' f' => ⟨fun w => absurd rfl w, fun _ => E5.2 _ _ G' (if_pos q1) f'⟩)
      rw [if_neg (fun w => w q1), if_neg c] at E5
      have hv := hdue c4
      rw [c4]
      exact ih 0 G' ⟨k, nxT T n (nxT T n q), _, B, d - 1, Or.inl rfl, by omega, by omega, by omega, by omega, fun _ => by omega, b', t', E5⟩
  · have c1 := b2_ne0 c1
    rw [if_pos c1] at E5
    refine ⟨s0, c_open hT h0 hd b5 t5 (fun c2 G8 b8 t8 => ⟨fun _ => ⟨⟨by omega, by omega⟩, ?_⟩, fun w => by omega⟩) (fun c2 G' f' => ⟨fun w => absurd rfl w, fun _ => E5.2 _ _ G' (if_pos c2) f'⟩)⟩
    rw [if_neg c2] at E5
    exact ih 1 G8 ⟨k, nxT T n q, V, _, d + 1, Or.inr rfl, by omega, by omega, by omega, by omega, fun w => by omega, b8, t8, E5⟩
theorem c_serv {Q : Int → GH → Prop} (hT : TxO T n) (h0 : G0 42 = T) (cs : CS T n st G0 G p W) (hp : p < n) (E : EndC T n st G0 p (pServ T n p B W) Q) : f_X5_readService 32 G Q := by
  obtain ⟨b, t, hW, h6⟩ := cs
  have se := hW.se
  have e5 : G 32 0 = W 5 := b.2.2.2.2.se
  unfold f_X5_readService
  rw [e5]
  unfold pServ at E
  refine ⟨fun w3 => ?_, fun w3 => ?_⟩
  · rw [if_neg w3] at E
    unfold f_X6_addEmpty
    rw [e5]
    refine ⟨⟨by omega, by omega⟩, fun G1 e1 => ?_⟩
    have g1 : G1 32 0 = W 5 := by rw [e1, up_na (by omega)]; exact e5
    rw [g1]
    refine ⟨⟨by omega, by omega⟩, fun G2 e2 => ?_⟩
    have g2 : G2 32 0 = W 5 + 1 := by rw [e2, upG_same]
    rw [g2]
    refine ⟨⟨by omega, by omega⟩, fun G3 e3 => ?_⟩
    rw [show W 5 + 1 - 1 = W 5 by omega]
    have hs : ∃ s, s = W 5 := ⟨_, rfl⟩
    obtain ⟨s, hs⟩ := hs
    rw [← hs] at E e5 g1 g2 w3 ⊢
    have s0 : 0 ≤ s ∧ s < 16 := by omega
    have l0 : servW (pu W ((132 + (9 * s)) + 0).toNat 0) s 0 = 0 := pu_at
    have x1 : ∀ x, x ≠ 32 → x ≠ 33 → x ≠ 41 → G3 x = G x := fun x a b c => by rw [e3, up_na c, e2, up_na a, e1, up_na b]
    have p41 : ∀ k, k ≠ 9 → G3 41 k = G 41 k := fun k hk => by rw [e3, upG_nk hk, e2, up_na (by omega), e1, up_na (by omega)]
    have sv : SvR s 0 W (pu W ((132 + (9 * s)) + 0).toNat 0) B G3 := by
      refine ⟨rep_srv b.2.2.2.2 (fun x a0 a1 a2 a3 => ?_) (fun k hk => ?_) (fun k hk => ?_) (fun s' a0 a1 => (hW.sv s' a0 a1).1.2), fun k hk => pu_ne (by omega), ?_, by rw [l0]; omega, ?_, fun i i0 i1 => by rw [l0] at i1; omega, by rw [e3, upG_same], fun i i0 i1 => by omega⟩
      · by_cases c : x = 32
        · rw [c]
          funext k
          by_cases c2 : k = 0
          · rw [c2, upG_same]; exact e5.symm
          · rw [upG_nk c2, e3, up_na (by omega), e2, upG_nk c2, e1, up_na (by omega)]
        · rw [up_na c]; exact x1 x c a2 (by omega)
      · rw [up_na (by omega), e3, up_na (by omega), e2, up_na (by omega), e1, upG_nk (by omega)]
      · rw [up_na (by omega), x1 34 (by omega) (by omega) (by omega)]
      · rw [e3, up_na (by omega)]; exact g2
      · rw [l0, e3, up_na (by omega), e2, up_na (by omega), e1, hs]; exact upG_same _ _ _ _
    have b3 : CB n st G0 (SvR s 0 W (pu W ((132 + (9 * s)) + 0).toNat 0) B) G3 := ⟨fun x a1 a2 a3 => by rw [x1 x (by omega) (by omega) a1]; exact b.1 x a1 a2 a3, by rw [p41 1 (by omega)]; exact b.2.1, by rw [p41 2 (by omega)]; exact b.2.2.1, by rw [p41 4 (by omega)]; exact b.2.2.2.1, sv⟩
    have t3 : TkS T n G3 p := by
      obtain ⟨u0, u1, u2, u3, u4⟩ := t
      exact ⟨u0, by rw [p41 6 (by omega)]; exact u1, by rw [p41 5 (by omega)]; exact u2, by rw [p41 7 (by omega)]; exact u3, by rw [p41 8 (by omega)]; exact u4⟩
    refine cb_adv hT h0 stb_srv b3 t3 (fun G4 b4 t4 => ?_)
    have l1 := nx_rng (T := T) t.1.2
    have tp := t.1
    have hn := hT.1
    refine loopI3 (I := SvI T n st p G0 s W Q) (μ := fun (_ x4 : Int) (_ : GH) => (n + 1 - x4).toNat) (fun kk x3 x4 G5 hI ih => ?_) 1 0 G4 ⟨_, _, _, _, 0, Or.inr rfl, by omega, by omega, by omega, by omega, fun w => by omega, b4, t4, E⟩
    obtain ⟨k, q, V, B', d, hx3, hx4, hk, lq, hd, hdue, b5, t5, E5⟩ := hI
    have tq := t5.1
    have en : G5 41 1 = n := b5.2.1
    obtain ⟨k', rfl⟩ : ∃ k', k = k' + 1 := ⟨k - 1, by omega⟩
    refine ⟨fun c => by omega, fun _ => c_servL hT h0 hs s0 hW h6 hx3 hx4 hk lq hd hdue b5 t5 E5 (fun x G' hi => ih _ _ G' hi (by omega))⟩
  · rw [if_pos w3] at E
    exact cb_fail b t (fun G' f' => E.2 _ _ G' rfl f')
end CSRL
