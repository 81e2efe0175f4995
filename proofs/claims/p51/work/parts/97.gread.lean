-- ===== PURE LAYER: load, the class reads the whole text =====
def pStmt (T : BT) (n p : Int) (W : WT) : PR := if isWd T n 3 p then pCard T n p W else if isWd T n 5 p then pFri T n p W else if isWd T n 6 p then pServ T n p (fun _ => 0) W else .inl (1, p)
abbrev PL : Type := Sum (Int × Int × Int) WT
def pThen (r : PR) (st : Int) (f : Int → WT → PL) : PL := match r with
  | .inl x => .inl (x.1, x.2, st)
  | .inr x => f x.1 x.2
def pSts (T : BT) (n : Int) : Nat → Int → Int → WT → PL
  | 0, st, p, _ => .inl (0, p, st)
  | k + 1, st, p, W => if n ≤ p then .inr W else if T p.toNat = 59 then pThen (pStmt T n (nxT T n p) W) (st + 1) (pSts T n k (st + 1)) else .inl (1, p, st)
def pLoad (T : BT) (n : Int) (V : WT) : PL := pThen (pBoard T n (skT T n 0) (beW V)) 0 (pSts T n (n + 1).toNat 0)
section CREADI
variable {T : BT} {n st p : Int} {G0 G : GH} {W : WT}
theorem c_stmt {Q : Int → GH → Prop} (hT : TxO T n) (h0 : G0 42 = T) (cs : CS T n st G0 G p W) (E : EndC T n st G0 p (pStmt T n p W) Q) : f_X5_readStatement 21 G Q := by
  unfold f_X5_readStatement
  unfold pStmt at E
  have b := cs.1
  have t := cs.2.1
  refine cb_word hT h0 b t (by omega) (fun c lt => ⟨fun w => by omega, fun _ => ?_⟩) (fun c => ⟨fun _ => ?_, fun w => absurd rfl w⟩)
  · rw [if_pos c] at E
    exact c_card hT h0 cs E
  rw [if_neg c] at E
  refine cb_word hT h0 b t (by omega) (fun c lt => ⟨fun w => by omega, fun _ => ?_⟩) (fun c => ⟨fun _ => ?_, fun w => absurd rfl w⟩)
  · rw [if_pos c] at E
    exact c_friend hT h0 cs E
  rw [if_neg c] at E
  refine cb_word hT h0 b t (by omega) (fun c lt => ⟨fun w => by omega, fun _ => ?_⟩) (fun c => ⟨fun _ => ?_, fun w => absurd rfl w⟩)
  · rw [if_pos c] at E
    exact c_serv hT h0 cs lt E
  rw [if_neg c] at E
  exact cb_fail b t (fun G' f' => E.2 _ _ G' rfl f')
/-- how the class's reader of the whole text ends -/
def EndL (n : Int) (G0 : GH) (r : PL) (Q : Int → GH → Prop) : Prop := (∀ (W' : WT) (G' : GH) (st' : Int), r = .inr W' → CB n st' G0 (fun G => RepS G 21 W') G' → WF 0 W' → Q 1 G') ∧ (∀ (e a st' : Int) (G' : GH), r = .inl (e, a, st') → CF n st' G0 G' e a → Q 0 G')
theorem c_into {Q : Int → GH → Prop} {V : WT} (hT : TxO T n) (h0 : G 42 = T) (h1 : G 41 1 = n) (E : EndL n G (pLoad T n V) Q) : f_X5_readInto 21 G Q := by
  have hn := hT.1
  refine c_startAnew (fun G1 o1 zr z0 z2 zt G2 e2 G3 e3 G4 e4 G5 e5 => ?_)
  have x5 : ∀ x, x ≠ 41 → G5 x = G1 x := fun x hx => by rw [e5, up_na hx, e4, up_na hx, e3, up_na hx, e2, up_na hx]
  have k5 : ∀ k, k ≠ 2 → k ≠ 3 → k ≠ 4 → k ≠ 7 → G5 41 k = G 41 k := fun k a b c d => by rw [e5, upG_nk d, e4, upG_nk c, e3, upG_nk b, e2, upG_nk a, o1 41 (by omega)]
  have s0 := sk_rng (T := T) (n := n) (p := 0) hn.1
  refine c_adv (e := 0) hT (by rw [k5 1 (by omega) (by omega) (by omega) (by omega)]; exact h1) (by rw [x5 42 (by omega), o1 42 (by omega)]; exact h0) (by rw [e5, upG_same]) ⟨by omega, hn.1⟩ (fun G6 o6 p6 t6 => ?_)
  have r6 : ∀ x, x ≠ 41 → G6 x = G1 x := fun x hx => by rw [o6 x hx]; exact x5 x hx
  have zs : ZS G6 21 (beW V) := by
    refine ⟨zr.congr (fun x a0 a1 a2 a3 a4 => r6 x (by omega)) (fun k _ _ => by rw [r6 21 (by omega)]) (fun k _ => by rw [r6 (21 + 2) (by omega)]), by rw [r6 21 (by omega)]; exact z0, fun b b0 b1 => by have : b < 0 := b1; omega, by rw [r6 21 (by omega)]; exact z2, by rw [r6 (21 + 2) (by omega)]; exact zt⟩
  have b6 : CB n 0 G (fun G => ZS G 21 (beW V)) G6 := ⟨fun x a1 a2 a3 => by rw [r6 x a1]; exact o1 x (by omega), by rw [p6 1 (by omega), k5 1 (by omega) (by omega) (by omega) (by omega)]; exact h1, by rw [p6 2 (by omega), e5, upG_nk (by omega), e4, upG_nk (by omega), e3, upG_nk (by omega), e2, upG_same], by rw [p6 4 (by omega), e5, upG_nk (by omega), e4, upG_same], zs⟩
  unfold pLoad at E
  refine c_board hT h0 b6 t6 be_zw rfl rfl rfl ⟨fun q W' G7 hr lq cs7 => ⟨fun _ => ?_, fun w => by omega⟩, fun e a G' hr f' => ⟨fun w => absurd rfl w, fun _ => ?_⟩⟩
  · rw [hr] at E
    have E : EndL n G (pSts T n (n + 1).toNat 0 q W') Q := E
    have l7 := cs7.2.1.1
    refine joinI1 (P := fun G8 : GH => ∃ (k : Nat) (q st : Int) (W : WT), CS T n st G G8 q W ∧ ¬ (q < n ∧ T q.toNat = 59) ∧ EndL n G (pSts T n (k + 1) st q W) Q) (fun G8 hP => ?_) (fun jj hj => ?_)
    · obtain ⟨k, q, st, W, cs, c, E8⟩ := hP
      obtain ⟨b, t, wf, w6⟩ := cs
      have ekd : G8 41 5 = kdT T n q := t.2.2.1
      unfold pSts at E8
      rw [ekd]
      refine ⟨fun c0 => ?_, fun c0 => ?_⟩
      · rw [if_pos (kd_of0 c0)] at E8
        exact E8.1 W G8 st rfl b wf
      · have : ¬ n ≤ q := fun w => c0 (kd_0 w)
        rw [if_neg this, if_neg (fun w => c ⟨by omega, w⟩)] at E8
        exact cb_fail b t (fun G' f' => ⟨fun _ => E8.2 _ _ _ G' rfl f', fun w => absurd rfl w⟩)
    · refine loopI2 (I := fun (x : Int) (G8 : GH) => ∃ (k : Nat) (q : Int) (W : WT), (0 ≤ x ∧ x ≤ q) ∧ n - q < k ∧ CS T n x G G8 q W ∧ EndL n G (pSts T n k x q W) Q) (μ := fun (x : Int) (_ : GH) => (n + 1 - x).toNat) (fun kk x G8 hI ih => ?_) 0 G7 ⟨_, q, W', by omega, by omega, cs7, E⟩
      obtain ⟨k, q, W, hx, hk, cs, E8⟩ := hI
      have cs' := cs
      obtain ⟨b, t, wf, w6⟩ := cs
      have tq := t.1
      have l8 := nx_rng (T := T) tq.2
      obtain ⟨k', rfl⟩ : ∃ k', k = k' + 1 := ⟨k - 1, by omega⟩
      have e1 : G8 41 1 = n := b.2.1
      have e4 : G8 41 4 = x := b.2.2.2.1
      rw [e1]
      refine ⟨fun c => hj G8 ⟨k', q, x, W, cs', by omega, E8⟩, fun c => c_sign t (by omega) ⟨fun c1 => hj G8 ⟨k', q, x, W, cs', b2_eq0 c1, E8⟩, fun c1 => ?_⟩⟩
      have c1 := b2_ne0 c1
      unfold pSts at E8
      rw [if_neg (show ¬ n ≤ q by omega), if_pos c1.2] at E8
      rw [e4]
      refine ⟨⟨by omega, by omega⟩, fun G9 e9 => ?_⟩
      have b9 : CB n (x + 1) G (fun G => RepS G 21 W) G9 := ⟨fun y a1 a2 a3 => by rw [e9, up_na a1]; exact b.1 y a1 a2 a3, by rw [e9, upG_nk (by omega)]; exact b.2.1, by rw [e9, upG_nk (by omega)]; exact b.2.2.1, by rw [e9, upG_same], b.2.2.2.2.congr (fun y a0 a1 => by rw [e9, up_na (by omega)])⟩
      have t9 : TkS T n G9 q := by
        obtain ⟨u0, u1, u2, u3, u4⟩ := t
        exact ⟨u0, by rw [e9, upG_nk (by omega)]; exact u1, by rw [e9, upG_nk (by omega)]; exact u2, by rw [e9, upG_nk (by omega)]; exact u3, by rw [e9, upG_nk (by omega)]; exact u4⟩
      refine cb_adv hT h0 stb_rep b9 t9 (fun G10 b10 t10 => c_stmt hT h0 ⟨b10, t10, wf, w6⟩ ⟨fun p' W' G' hr lp cs' => ⟨fun _ => ih _ G' ⟨k', p', W', by omega, by omega, cs', ?_⟩ (by omega), fun w => by omega⟩, fun e a G' hr f' => ⟨fun w => absurd rfl w, fun _ => ?_⟩⟩)
      · rw [hr] at E8; exact E8
      · rw [hr] at E8; exact E8.2 e a (x + 1) G' rfl f'
  · rw [hr] at E
    exact E.2 e a 0 G' rfl f'
end CREADI
