-- ===== PURE LAYER: load, what the text says (cards, friends, boards); the class reads it =====
def pu (W : WT) (k : Nat) (v : Int) : WT := fun i => if i = k then v else W i
theorem pu_at {W : WT} {k : Nat} {v : Int} : pu W k v k = v := if_pos rfl
theorem pu_ne {W : WT} {k i : Nat} {v : Int} (h : i ≠ k) : pu W k v i = W i := if_neg h
abbrev PR : Type := Sum (Int × Int) (Int × WT)
def crdU (W : WT) (d e m : Int) : WT := pu (pu (pu (pu W ((15 + (3 * W 3)) + 0).toNat d) ((15 + (3 * W 3)) + 1).toNat e) ((15 + (3 * W 3)) + 2).toNat m) 3 (W 3 + 1)
def pCardC (T : BT) (n p : Int) (W : WT) (d e : Int) : PR := if nmT T n 0 60 p ≠ 0 then .inl (nmT T n 0 60 p, p) else .inr (nxT T n p, crdU W d e (vlT T n p))
def pCardB (T : BT) (n p : Int) (W : WT) (d : Int) : PR := if nmT T n 0 9 p ≠ 0 then .inl (nmT T n 0 9 p, p) else pCardC T n (nxT T n p) W d (vlT T n p)
def pCardA (T : BT) (n p : Int) (W : WT) (d : Int) : PR := if isWd T n 4 p then pCardB T n (nxT T n p) W d else pCardC T n p W d (-1)
def pCard0 (T : BT) (n p : Int) (W : WT) : PR := if nmT T n 0 9 p ≠ 0 then .inl (nmT T n 0 9 p, p) else pCardA T n (nxT T n p) W (vlT T n p)
def pCard (T : BT) (n p : Int) (W : WT) : PR := if W 3 = 12 then .inl (3, p) else pCard0 T n (nxT T n p) W
def pDig (T : BT) (n f : Int) : Nat → Int → Int → WT → PR
  | 0, _, p, W => .inr (p, pu W 4 (f + 1))
  | k + 1, d, p, W => if nmT T n 0 20 p ≠ 0 then .inl (nmT T n 0 20 p, p) else pDig T n f k (d + 1) (nxT T n p) (pu W ((51 + (11 * f)) + (1 + d)).toNat (vlT T n p))
def pFri0 (T : BT) (n p : Int) (W : WT) : PR := if nmT T n 1 9 p ≠ 0 then .inl (nmT T n 1 9 p, p) else pDig T n (W 4) 10 0 (nxT T n p) (pu W ((51 + (11 * W 4)) + 0).toNat (vlT T n p))
def pFri (T : BT) (n p : Int) (W : WT) : PR := if W 4 = 3 then .inl (3, p) else pFri0 T n (nxT T n p) W
theorem crd_wf {n p : Int} {T : BT} {W : WT} {d e m : Int} {j : Int} (h : WF j W) (w3 : W 3 ≠ 12) (hd : 0 ≤ d ∧ d ≤ 9) (he : -1 ≤ e ∧ e ≤ 9) (hm : 0 ≤ m ∧ m ≤ 60) :
    WF j (crdU W d e m) ∧ OutC (crdU W d e m) W ∧ (∀ k h9, 0 ≤ k → k < W 3 → 0 ≤ h9 → h9 < 3 → cardW (crdU W d e m) k h9 = cardW W k h9) ∧ (∀ s, 0 ≤ s → s < 42 → cntW (-1) (crdU W d e m) s = if s = W 3 then m else cntW (-1) W s) ∧ crdU W d e m 3 = W 3 + 1 ∧ (cardW (crdU W d e m) (W 3) 0 = d ∧ cardW (crdU W d e m) (W 3) 1 = e ∧ cardW (crdU W d e m) (W 3) 2 = m) := by
  have ow := h.ow
  have o3 : crdU W d e m 3 = W 3 + 1 := pu_at
  have v : cardW (crdU W d e m) (W 3) 0 = d ∧ cardW (crdU W d e m) (W 3) 1 = e ∧ cardW (crdU W d e m) (W 3) 2 = m := by
    unfold cardW crdU
    refine ⟨?_, ?_, ?_⟩
    · rw [pu_ne (by omega), pu_ne (by omega), pu_ne (by omega), pu_at]
    · rw [pu_ne (by omega), pu_ne (by omega), pu_at]
    · rw [pu_ne (by omega), pu_at]
  have o : ∀ k, k < 456 → k ≠ 3 → ¬ ((15 + 3 * W 3).toNat ≤ k ∧ k < (15 + 3 * W 3).toNat + 3) → crdU W d e m k = W k := fun k _ k3 kk => by
    unfold crdU
    rw [pu_ne k3, pu_ne (by omega), pu_ne (by omega), pu_ne (by omega)]
  obtain ⟨a1, a2, a3, a4⟩ := came_wf h (Int.le_refl _) (by omega) o o3 hd he hm v
  exact ⟨a1, a2, a3, a4, o3, v⟩
abbrev FrL (G0 G : GH) : Prop := ∀ x, x ≠ 41 → x ≠ 43 → ¬ (21 ≤ x ∧ x ≤ 40) → G x = G0 x
def CB (n st : Int) (G0 : GH) (R : GH → Prop) (G : GH) : Prop := FrL G0 G ∧ G 41 1 = n ∧ G 41 2 = 0 ∧ G 41 4 = st ∧ R G
def CF (n st : Int) (G0 : GH) (G : GH) (e a : Int) : Prop := FrL G0 G ∧ G 41 1 = n ∧ G 41 4 = st ∧ G 41 2 = e ∧ G 41 3 = a ∧ e ≠ 0 ∧ 0 ≤ a ∧ a ≤ n
def Stb (R : GH → Prop) : Prop := ∀ G G' : GH, (∀ x, x ≠ 41 → G' x = G x) → G' 41 9 = G 41 9 → R G → R G'
def CS (T : BT) (n st : Int) (G0 G : GH) (p : Int) (W : WT) : Prop := CB n st G0 (fun G => RepS G 21 W) G ∧ TkS T n G p ∧ WF 0 W ∧ W 6 = 0
section CLOAD
variable {T : BT} {n st p : Int} {G0 G : GH} {R : GH → Prop} {W : WT}
theorem stb_rep : Stb (fun G => RepS G 21 W) := fun _ _ o _ r => r.congr (fun x _ _ => o x (by omega))
theorem TkS.of {G' : GH} (e : G' 41 = G 41) (t : TkS T n G p) : TkS T n G' p := by
  unfold TkS
  rw [e]; exact t
theorem cb_adv {Q : GH → Prop} (hT : TxO T n) (h0 : G0 42 = T) (hR : Stb R) (b : CB n st G0 R G) (t : TkS T n G p) (h : ∀ G' : GH, CB n st G0 R G' → TkS T n G' (nxT T n p) → Q G') : f_X5_advance G Q := by
  obtain ⟨b0, b1, b2, b4, bR⟩ := b
  have hn := hT.1
  have e := en_rng (T := T) t.1.2
  refine c_adv hT b1 (by rw [b0 42 (by omega) (by omega) (by omega)]; exact h0) t.2.2.2.1 ⟨by omega, e.2.1⟩ (fun G' o' p' t' => h G' ⟨fun x x1 x2 x3 => by rw [o' x x1]; exact b0 x x1 x2 x3, by rw [p' 1 (by omega)]; exact b1, by rw [p' 2 (by omega)]; exact b2, by rw [p' 4 (by omega)]; exact b4, hR G G' o' (p' 9 (by omega)) bR⟩ t')
theorem cb_fail {Q : Int → GH → Prop} {e : Int} (b : CB n st G0 R G) (t : TkS T n G p) (h : ∀ G' : GH, CF n st G0 G' e p → Q 0 G') (he : e ≠ 0 := by omega) : f_X5_fail e G Q := by
  obtain ⟨b0, b1, b2, b4, bR⟩ := b
  exact c_fail t (fun G' o' p' e' a' => h G' ⟨fun x x1 x2 x3 => by rw [o' x x1]; exact b0 x x1 x2 x3, by rw [p' 1 (by omega) (by omega)]; exact b1, by rw [p' 4 (by omega) (by omega)]; exact b4, e', a', he, t.1⟩)
theorem cb_numb {Q : Int → GH → Prop} {lo hi : Int} (b : CB n st G0 R G) (t : TkS T n G p) (h1 : nmT T n lo hi p = 0 → p < n → lo ≤ vlT T n p ∧ vlT T n p ≤ hi → G 41 8 = vlT T n p → Q 1 G) (h0 : nmT T n lo hi p ≠ 0 → ∀ G' : GH, CF n st G0 G' (nmT T n lo hi p) p → Q 0 G') : f_X5_isNumber lo hi G Q := by
  obtain ⟨b0, b1, b2, b4, bR⟩ := b
  exact c_numb t (fun q k r v => h1 q (kd_of2 k).1 r v) (fun q G' o' p' e' a' => h0 q G' ⟨fun x x1 x2 x3 => by rw [o' x x1]; exact b0 x x1 x2 x3, by rw [p' 1 (by omega) (by omega)]; exact b1, by rw [p' 4 (by omega) (by omega)]; exact b4, e', a', q, t.1⟩)
theorem cb_word {Q : Int → Prop} {w : Nat} (hT : TxO T n) (h0 : G0 42 = T) (b : CB n st G0 R G) (t : TkS T n G p) (hw : w < 10) (h1 : isWd T n w p → p < n → Q 1) (h2 : ¬ isWd T n w p → Q 0) : f_X5_isWord w G Q := by
  refine c_word hT (by rw [b.1 42 (by omega) (by omega) (by omega)]; exact h0) t hw ?_
  by_cases c : isWd T n w p
  · rw [b2_t c]; exact h1 c (kd_of1 c.1).1
  · rw [b2_f c]; exact h2 c
/-- how a reader of the class ends -/
def EndC (T : BT) (n st : Int) (G0 : GH) (p : Int) (r : PR) (Q : Int → GH → Prop) : Prop := (∀ p' W' G', r = .inr (p', W') → p < p' → CS T n st G0 G' p' W' → Q 1 G') ∧ (∀ e a G', r = .inl (e, a) → CF n st G0 G' e a → Q 0 G')
theorem c_cardEnd {Q : Int → GH → Prop} {d e m p0 : Int} (hT : TxO T n) (h0 : G0 42 = T) (b : CB n st G0 (fun G => RepS G 21 W) G) (t : TkS T n G p) (hW : WF 0 W) (h6 : W 6 = 0) (w3 : W 3 ≠ 12) (hd : 0 ≤ d ∧ d ≤ 9) (he : -1 ≤ e ∧ e ≤ 9) (hm : 0 ≤ m ∧ m ≤ 60) (hp : p < n) (hp0 : p0 ≤ p)
    (E : EndC T n st G0 p0 (.inr (nxT T n p, crdU W d e m)) Q) : f_X8_addSort 23 d e m G (fun _ G5 => f_X5_advance G5 (fun G6 => Q 1 G6)) := by
  have ow := hW.ow
  obtain ⟨b0, b1, b2, b4, r⟩ := b
  refine c_addSort (c := W 3) r.ow (by omega) (fun G2 o2 q2 q21 s2 v2 => ?_)
  obtain ⟨wf, oc, cd, ct, w31, wv⟩ := crd_wf (T := T) (n := n) (p := p) hW w3 hd he hm
  have r2 : RepS G2 21 (crdU W d e m) := oc.rep hW r (fun x x0 x1 x2 x3 x4 x5 => o2 x x2 x3 x4 x5) q2 (by rw [w31]; exact q21) (fun k k0 k1 => ?_) (fun s s0 s1 => ?_)
  · have t2 : TkS T n G2 p := t.of (o2 41 (by omega) (by omega) (by omega) (by omega))
    have e41 : G2 41 = G 41 := o2 41 (by omega) (by omega) (by omega) (by omega)
    refine cb_adv (R := fun G => RepS G 21 (crdU W d e m)) hT h0 stb_rep ⟨fun x x1 x2 x3 => by rw [o2 x (by omega) (by omega) (by omega) (by omega)]; exact b0 x x1 x2 x3, by rw [e41]; exact b1, by rw [e41]; exact b2, by rw [e41]; exact b4, r2⟩ t2 (fun G6 b6 t6 => E.1 _ _ G6 rfl ?_ ⟨b6, t6, wf, ?_⟩)
    · have := (nx_rng (T := T) t.1.2).2.2 hp
      omega
    · rw [oc 6 (by omega) (by omega) (by omega)]; exact h6
  · rw [w31] at k1
    by_cases c : k = W 3
    · rw [c, wv.1, wv.2.1]; exact ⟨v2.1, v2.2.1⟩
    · have := s2 k.toNat (by omega)
      rw [cd k 0 k0 (by omega) (by omega) (by omega), cd k 1 k0 (by omega) (by omega) (by omega)]
      show G2 (23 + 1) _ = _ ∧ G2 (23 + 2) _ = _
      rw [this.1, this.2.1]
      exact r.ca k k0 (by omega)
  · rw [ct s s0 s1]
    show G2 (23 + 3) _ = _
    by_cases c : s = W 3
    · rw [if_pos c, c]; exact v2.2.2
    · rw [if_neg c, (s2 s.toNat (by omega)).2.2]
      exact r.ct s s0 s1
theorem c_card {Q : Int → GH → Prop} (hT : TxO T n) (h0 : G0 42 = T) (s : CS T n st G0 G p W) (E : EndC T n st G0 p (pCard T n p W) Q) : f_X5_readCard 23 G Q := by
  obtain ⟨b, t, hW, h6⟩ := s
  have ow := hW.ow
  have e31 : G 23 1 = W 3 := b.2.2.2.2.ow
  unfold f_X5_readCard
  rw [e31]
  unfold pCard at E
  refine ⟨fun w3 => ?_, fun w3 => ?_⟩
  · rw [if_neg w3] at E
    refine cb_adv hT h0 stb_rep b t (fun G1 b1 t1 => ?_)
    have l1 := nx_rng (T := T) t.1.2
    generalize nxT T n p = p1 at *
    unfold pCard0 at E
    refine cb_numb b1 t1 (fun q1 lt1 v1 e1 => ⟨fun _ => ?_, fun c => by omega⟩) (fun q1 G' f' => ⟨fun c => absurd rfl c, fun _ => E.2 _ _ G' (if_pos q1) f'⟩)
    rw [if_neg (fun q => q q1)] at E
    refine cb_adv hT h0 stb_rep b1 t1 (fun G2 b2 t2 => ?_)
    have l2 := nx_rng (T := T) t1.1.2
    rw [e1]
    generalize nxT T n p1 = p2 at *
    unfold pCardA at E
    refine cb_word hT h0 b2 t2 (by omega) (fun c lt2 => ⟨fun q => by omega, fun _ => ?_⟩) (fun c => ⟨fun _ => ?_, fun q => absurd rfl q⟩)
    · rw [if_pos c] at E
      refine cb_adv hT h0 stb_rep b2 t2 (fun G3 b3 t3 => ?_)
      have l3 := nx_rng (T := T) t2.1.2
      generalize nxT T n p2 = p3 at *
      unfold pCardB at E
      refine cb_numb b3 t3 (fun q3 lt3 v3 e3 => ⟨fun _ => ?_, fun c => by omega⟩) (fun q3 G' f' => ⟨fun c => absurd rfl c, fun _ => E.2 _ _ G' (if_pos q3) f'⟩)
      rw [if_neg (fun q => q q3)] at E
      refine cb_adv hT h0 stb_rep b3 t3 (fun G4 b4 t4 => ?_)
      have l4 := nx_rng (T := T) t3.1.2
      rw [e3]
      generalize nxT T n p3 = p4 at *
      unfold pCardC at E
      refine cb_numb b4 t4 (fun q4 lt4 v4 e4 => ⟨fun _ => ?_, fun c => by omega⟩) (fun q4 G' f' => ⟨fun c => absurd rfl c, fun _ => E.2 _ _ G' (if_pos q4) f'⟩)
      rw [if_neg (fun q => q q4)] at E
      rw [e4]
      exact c_cardEnd hT h0 b4 t4 hW h6 w3 v1 (by omega) v4 lt4 (by omega) E
    · rw [if_neg c] at E
      unfold pCardC at E
      refine cb_numb b2 t2 (fun q4 lt4 v4 e4 => ⟨fun _ => ?_, fun c => by omega⟩) (fun q4 G' f' => ⟨fun c => absurd rfl c, fun _ => E.2 _ _ G' (if_pos q4) f'⟩)
      rw [if_neg (fun q => q q4)] at E
      rw [e4]
      exact c_cardEnd hT h0 b2 t2 hW h6 w3 v1 (by omega) v4 lt4 (by omega) E
  · rw [if_pos w3] at E
    exact cb_fail b t (fun G' f' => E.2 _ _ G' rfl f')
end CLOAD
