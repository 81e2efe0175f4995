-- ===== PURE LAYER: load, the class reads a friend and the boards =====
def pSpl (T : BT) (n p : Int) (W : WT) : PR := if isWd T n 2 p then .inr (nxT T n p, pu W 2 1) else .inr (p, pu W 2 0)
def pTrn (T : BT) (n p : Int) (W : WT) : PR := if isWd T n 1 p then pSpl T n (nxT T n p) (pu W 1 1) else pSpl T n p (pu W 1 0)
def brdU (W : WT) (v : Int) : WT := pu (pu W (12 + W 0).toNat v) 0 (W 0 + 1)
def pBrdL (T : BT) (n : Int) : Nat → Int → WT → PR
  | 0, p, _ => .inl (0, p)
  | k + 1, p, W => if nmT T n 1 6 p ≠ 0 then .inl (nmT T n 1 6 p, p) else if W 0 = 3 then .inl (3, p) else if kdT T n (nxT T n p) = 2 then pBrdL T n k (nxT T n p) (brdU W (vlT T n p)) else pTrn T n (nxT T n p) (brdU W (vlT T n p))
def pBoard (T : BT) (n p : Int) (W : WT) : PR := if isWd T n 0 p then pBrdL T n 4 (nxT T n p) W else .inl (1, p)
def FrR (f d : Int) (W0 W : WT) (G : GH) : Prop := RepS G 21 W0 ∧ (∀ k, ¬ ((51 + (11 * f)).toNat ≤ k ∧ k < (51 + (11 * f)).toNat + 11) → W k = W0 k) ∧ ((1 ≤ friW W f 0 ∧ friW W f 0 ≤ 9) ∧ G 27 f.toNat = friW W f 0) ∧ ∀ d', 0 ≤ d' → d' < d → (0 ≤ friW W f (1 + d') ∧ friW W f (1 + d') ≤ 20) ∧ G 28 ((f * 10) + d').toNat = friW W f (1 + d')
section CFRI
variable {T : BT} {n st p : Int} {G0 G : GH} {R : GH → Prop} {W W0 : WT} {f d : Int}
theorem rep_fri {G' : GH} (r : RepS G 21 W0) (g : ∀ x, 21 ≤ x → x ≤ 40 → x ≠ 27 → x ≠ 28 → G' x = G x) (g27 : ∀ k, k < (W0 4).toNat → G' 27 k = G 27 k) (g28 : ∀ k : Nat, (k : Int) < W0 4 * 10 → G' 28 k = G 28 k) : RepS G' 21 W0 := by
  obtain ⟨a1, a2, a3, a4, a5, a6, a7, a8, a9, a10, a11, a12, a13, a14, a15, a16⟩ := r
  unfold RepS
  rw [g 21 (by omega) (by omega) (by omega) (by omega), g (21 + 1) (by omega) (by omega) (by omega) (by omega), g (21 + 2) (by omega) (by omega) (by omega) (by omega), g (21 + 3) (by omega) (by omega) (by omega) (by omega), g (21 + 4) (by omega) (by omega) (by omega) (by omega), g (21 + 5) (by omega) (by omega) (by omega) (by omega), g (21 + 8) (by omega) (by omega) (by omega) (by omega), g (21 + 9) (by omega) (by omega) (by omega) (by omega), g (21 + 10) (by omega) (by omega) (by omega) (by omega), g (21 + 11) (by omega) (by omega) (by omega) (by omega), g (21 + 12) (by omega) (by omega) (by omega) (by omega), g (21 + 13) (by omega) (by omega) (by omega) (by omega), g (21 + 14) (by omega) (by omega) (by omega) (by omega), g (21 + 19) (by omega) (by omega) (by omega) (by omega)]
  refine ⟨a1, a2, a3, a4, a5, a6, a7, a8, a9, fun f f0 f1 => ?_, a11, a12, a13, a14, a15.congr (fun x h1 h2 => g x (by omega) (by omega) (by omega) (by omega)), a16⟩
  have := a10 f f0 f1
  refine ⟨by show G' 27 _ = _; rw [g27 _ (by omega)]; exact this.1, fun d d0 d1 => ?_⟩
  show G' 28 _ = _
  rw [g28 _ (by omega)]; exact this.2 d d0 d1
theorem bor_z (h6 : W 6 = 0) {f d : Int} : borW W f d = 0 := by unfold borW; rw [h6]; rfl
theorem fri_done (hW : WF 0 W0) (h6 : W0 6 = 0) (hf : f = W0 4) (f3 : f < 3) (q : FrR f 10 W0 W G) : WF 0 (pu W 4 (f + 1)) ∧ RepS (upG G 23 5 (f + 1)) 21 (pu W 4 (f + 1)) ∧ pu W 4 (f + 1) 6 = 0 := by
  have ff := hW.fr
  obtain ⟨r, o, ⟨t1, t2⟩, td⟩ := q
  have ok : ∀ k, k ≠ 4 → ¬ ((51 + (11 * f)).toNat ≤ k ∧ k < (51 + (11 * f)).toNat + 11) → pu W 4 (f + 1) k = W0 k := fun k k4 kk => by rw [pu_ne k4]; exact o k kk
  have ow : ∀ k, k ≠ 4 → pu W 4 (f + 1) k = W k := fun k k4 => pu_ne k4
  have o4 : pu W 4 (f + 1) 4 = f + 1 := pu_at
  generalize pu W 4 (f + 1) = V at *
  have er : EqR 12 15 V W0 := fun k q0 q1 => ok k (by omega) (by omega)
  have ec : EqR 15 51 V W0 := fun k q0 q1 => ok k (by omega) (by omega)
  have el : EqR 84 132 V W0 := fun k q0 q1 => ok k (by omega) (by omega)
  have es : EqR 132 276 V W0 := fun k q0 q1 => ok k (by omega) (by omega)
  have ep : EqR 276 438 V W0 := fun k q0 q1 => ok k (by omega) (by omega)
  have eh : EqR 438 456 V W0 := fun k q0 q1 => ok k (by omega) (by omega)
  have ex : EqR 276 456 V W0 := fun k q0 q1 => ok k (by omega) (by omega)
  have fk := fun k (q : k < 12) (q1 : k ≠ 4) => ok k q1 (by omega)
  have h6' : V 6 = 0 := by rw [fk 6 (by omega) (by omega)]; exact h6
  have h8 := hW.he; have h9 := hW.wo; have h10 := hW.hu; have h11 := hW.ou
  have fo : ∀ f' h, 0 ≤ f' → f' < f → 0 ≤ h → h < 11 → friW V f' h = friW W0 f' h := fun f' h a0 a1 b0 b1 => ok _ (by omega) (by omega)
  have fn : ∀ h, 0 ≤ h → h < 11 → friW V f h = friW W f h := fun h b0 b1 => ow _ (by omega)
  refine ⟨?_, ?_, h6'⟩
  · refine ⟨by rw [fk 0 (by omega) (by omega)]; exact hW.bo, by rw [fk 1 (by omega) (by omega)]; exact hW.tu, by rw [fk 2 (by omega) (by omega)]; exact hW.sp, by rw [fk 3 (by omega) (by omega)]; exact hW.ow, by rw [o4]; omega, by rw [fk 5 (by omega) (by omega)]; exact hW.se, by rw [fk 6 (by omega) (by omega)]; exact hW.lo, by rw [fk 7 (by omega) (by omega)]; exact hW.ha,
      by rw [fk 8 (by omega) (by omega)]; omega, by rw [fk 9 (by omega) (by omega)]; omega, by rw [fk 10 (by omega) (by omega)]; omega, by rw [fk 11 (by omega) (by omega)]; omega, hW.ro_of (fk 0 (by omega) (by omega)) er, hW.ca_of (fk 3 (by omega) (by omega)) ec, fun f' a0 a1 => ?_, fun l l0 l1 => by omega, hW.sv_of (fk 5 (by omega) (by omega)) es, hW.pl_of ep, hW.pf_of (fk 0 (by omega) (by omega)) er ep, hW.hr_of eh, hW.hf_of (fk 0 (by omega) (by omega)) er eh, hW.hc_of (fk 3 (by omega) (by omega)) ec (fk 6 (by omega) (by omega)) el ep, hW.nh_of (fk 7 (by omega) (by omega)) ep⟩
    rw [o4] at a1
    by_cases c : f' = f
    · rw [c, fn 0 (by omega) (by omega)]
      refine ⟨t1, fun d d0 d1 => ?_⟩
      rw [fn (1 + d) (by omega) (by omega), bor_z h6']
      have := (td d d0 d1).1
      omega
    · have q := hW.fd f' a0 (by omega)
      rw [fo f' 0 a0 (by omega) (by omega) (by omega)]
      refine ⟨q.1, fun d d0 d1 => ?_⟩
      have q2 := q.2 d d0 d1
      rw [bor_z h6] at q2
      rw [fo f' (1 + d) a0 (by omega) (by omega) (by omega), bor_z h6']
      exact q2
  · have gg : ∀ x, x ≠ 23 → upG G 23 5 (f + 1) x = G x := fun x hx => up_na hx
    have g23 : ∀ k, k ≠ 5 → upG G 23 5 (f + 1) 23 k = G 23 k := fun k hk => upG_nk hk
    refine ⟨by rw [gg 21 (by omega), fk 0 (by omega) (by omega)]; exact r.bo, r.ro_of hW (fk 0 (by omega) (by omega)) er (gg _ (by omega)), by rw [gg 21 (by omega), fk 2 (by omega) (by omega)]; exact r.sp, by rw [fk 1 (by omega) (by omega)]; exact (g23 0 (by omega)).trans r.tu, by rw [fk 3 (by omega) (by omega)]; exact (g23 1 (by omega)).trans r.ow, by rw [o4]; exact upG_same _ _ _ _, by rw [fk 6 (by omega) (by omega)]; exact (g23 8 (by omega)).trans r.lo,
      r.ca_of hW (fk 3 (by omega) (by omega)) ec (gg _ (by omega)) (gg _ (by omega)), r.ct_of hW (fk 3 (by omega) (by omega)) ec (fk 6 (by omega) (by omega)) el (gg _ (by omega)), fun f' a0 a1 => ?_, fun l l0 l1 => by omega,
      by rw [gg _ (by omega), fk 5 (by omega) (by omega)]; exact r.se, r.sv_of hW (fk 5 (by omega) (by omega)) es (gg _ (by omega)) (gg _ (by omega)), by rw [gg _ (by omega), fk 7 (by omega) (by omega)]; exact r.ha, HangS.of hW r.hs (fk 0 (by omega) (by omega)) er ex (fun x x1 x2 => gg x (by omega)), r.hg_of ep (gg _ (by omega)),
      by rw [gg 21 (by omega), fk 8 (by omega) (by omega)]; exact r.he, by rw [gg 21 (by omega), fk 9 (by omega) (by omega)]; exact r.wo, by rw [gg 21 (by omega), fk 10 (by omega) (by omega)]; exact r.hu, by rw [gg 21 (by omega), fk 11 (by omega) (by omega)]; exact r.ou⟩
    rw [o4] at a1
    rw [gg (21 + 6) (by omega), gg (21 + 7) (by omega)]
    by_cases c : f' = f
    · rw [c, fn 0 (by omega) (by omega)]
      refine ⟨t2, fun d d0 d1 => ?_⟩
      rw [fn (1 + d) (by omega) (by omega)]
      exact (td d d0 d1).2
    · have q := r.fd f' a0 (by omega)
      rw [fo f' 0 a0 (by omega) (by omega) (by omega)]
      refine ⟨q.1, fun d d0 d1 => ?_⟩
      rw [fo f' (1 + d) a0 (by omega) (by omega) (by omega)]
      exact q.2 d d0 d1
theorem stb_fri : Stb (FrR f d W0 W) := fun G G' o _ q => by
  obtain ⟨r, k, ⟨t1, t2⟩, td⟩ := q
  exact ⟨stb_rep G G' o ‹_› r, k, ⟨t1, by rw [o 27 (by omega)]; exact t2⟩, fun d' a0 a1 => by rw [o 28 (by omega)]; exact td d' a0 a1⟩
theorem c_friend {Q : Int → GH → Prop} (hT : TxO T n) (h0 : G0 42 = T) (s : CS T n st G0 G p W) (E : EndC T n st G0 p (pFri T n p W) Q) : f_X5_readFriend 23 G Q := by
  obtain ⟨b, t, hW, h6⟩ := s
  have fr := hW.fr
  have e5 : G 23 5 = W 4 := b.2.2.2.2.fr
  unfold f_X5_readFriend
  rw [e5]
  unfold pFri at E
  refine ⟨fun w3 => ?_, fun w3 => ?_⟩
  · rw [if_neg w3] at E
    refine cb_adv hT h0 stb_rep b t (fun G1 b1 t1 => ?_)
    have l1 := nx_rng (T := T) t.1.2
    generalize nxT T n p = p1 at *
    unfold pFri0 at E
    refine cb_numb b1 t1 (fun q1 lt1 v1 e1 => ⟨fun _ => ?_, fun c => by omega⟩) (fun q1 G' f' => ⟨fun c => absurd rfl c, fun _ => E.2 _ _ G' (if_pos q1) f'⟩)
    rw [if_neg (fun q => q q1)] at E
    have e15 : G1 23 5 = W 4 := b1.2.2.2.2.fr
    rw [e15, e1]
    refine ⟨⟨by omega, by omega⟩, fun G3 e3 => ?_⟩
    have r3 : FrR (W 4) 0 W (pu W ((51 + (11 * W 4)) + 0).toNat (vlT T n p1)) G3 := by
      refine ⟨rep_fri b1.2.2.2.2 (fun x x0 x1 x2 x3 => by rw [e3, up_na x2]) (fun k hk => by rw [e3, upG_nk (by omega)]) (fun k hk => by rw [e3, up_na (by omega)]), fun k hk => pu_ne (by omega), ⟨?_, ?_⟩, fun d' a0 a1 => by omega⟩
      · unfold friW; rw [pu_at]; exact v1
      · unfold friW; rw [pu_at, e3, upG_same]
    have b3 : CB n st G0 (FrR (W 4) 0 W (pu W ((51 + (11 * W 4)) + 0).toNat (vlT T n p1))) G3 := ⟨fun x x1 x2 x3 => by rw [e3, up_na (by omega)]; exact b1.1 x x1 x2 x3, by rw [e3, up_na (by omega)]; exact b1.2.1, by rw [e3, up_na (by omega)]; exact b1.2.2.1, by rw [e3, up_na (by omega)]; exact b1.2.2.2.1, r3⟩
    have t3 : TkS T n G3 p1 := t1.of (by rw [e3, up_na (by omega)])
    refine cb_adv hT h0 stb_fri b3 t3 (fun G4 b4 t4 => ?_)
    have l2 := nx_rng (T := T) t1.1.2
    refine loopI2 (I := fun (x : Int) (G5 : GH) => ∃ (k : Nat) (p5 : Int) (V : WT), (0 ≤ x ∧ x ≤ 10) ∧ (k : Int) = 10 - x ∧ p < p5 ∧ CB n st G0 (FrR (W 4) x W V) G5 ∧ TkS T n G5 p5 ∧ EndC T n st G0 p (pDig T n (W 4) k x p5 V) Q) (μ := fun (x : Int) (_ : GH) => (10 - x).toNat) (fun kk x G5 hI ih => ?_) 0 G4 ⟨10, _, _, by omega, by omega, by omega, b4, t4, E⟩
    obtain ⟨k, p5, V, hx, hk, lp, b5, t5, E5⟩ := hI
    have e55 : G5 23 5 = W 4 := b5.2.2.2.2.1.fr
    refine ⟨fun c => ?_, fun c => ?_⟩
    · have x10 : x = 10 := by omega
      have k0 : k = 0 := by omega
      rw [x10] at b5
      rw [k0] at E5
      rw [e55]
      refine ⟨⟨by omega, by omega⟩, fun G6 e6 => ?_⟩
      obtain ⟨wf, rp, w6⟩ := fri_done hW h6 rfl (by omega) b5.2.2.2.2
      have e641 : G6 41 = G5 41 := by rw [e6, up_na (by omega)]
      exact E5.1 _ _ G6 rfl lp ⟨⟨fun x x1 x2 x3 => by rw [e6, up_na (by omega)]; exact b5.1 x x1 x2 x3, by rw [e641]; exact b5.2.1, by rw [e641]; exact b5.2.2.1, by rw [e641]; exact b5.2.2.2.1, by rw [e6]; exact rp⟩, t5.of e641, wf, w6⟩
    · obtain ⟨k', rfl⟩ : ∃ k', k = k' + 1 := ⟨k - 1, by omega⟩
      have E6 : EndC T n st G0 p (if nmT T n 0 20 p5 ≠ 0 then .inl (nmT T n 0 20 p5, p5) else pDig T n (W 4) k' (x + 1) (nxT T n p5) (pu V ((51 + (11 * W 4)) + (1 + x)).toNat (vlT T n p5))) Q := E5
      refine cb_numb b5 t5 (fun q1 lt1 v1 e1 => ⟨fun _ => ?_, fun c => by omega⟩) (fun q1 G' f' => ⟨fun c => absurd rfl c, fun _ => E6.2 _ _ G' (if_pos q1) f'⟩)
      rw [if_neg (fun q => q q1)] at E6
      rw [e55, e1]
      refine ⟨⟨by omega, by omega⟩, fun G8 e8 => ?_⟩
      obtain ⟨r5, o5, ⟨u1, u2⟩, ud⟩ := b5.2.2.2.2
      have r8 : FrR (W 4) (x + 1) W (pu V ((51 + (11 * W 4)) + (1 + x)).toNat (vlT T n p5)) G8 := by
        refine ⟨rep_fri r5 (fun x x0 x1 x2 x3 => by rw [e8, up_na x3]) (fun k hk => by rw [e8, up_na (by omega)]) (fun k hk => by rw [e8, upG_nk (by omega)]), fun k hk => by rw [pu_ne (by omega)]; exact o5 k hk, ⟨?_, ?_⟩, fun d' a0 a1 => ?_⟩
        · unfold friW; rw [pu_ne (by omega)]; exact u1
        · unfold friW; rw [pu_ne (by omega), e8, up_na (by omega)]; exact u2
        · by_cases c2 : d' = x
          · rw [c2]
            unfold friW; rw [pu_at, e8, upG_same]; exact ⟨v1, rfl⟩
          · unfold friW; rw [pu_ne (by omega), e8, upG_nk (by omega)]; exact ud d' a0 (by omega)
      have b8 : CB n st G0 (FrR (W 4) (x + 1) W (pu V ((51 + (11 * W 4)) + (1 + x)).toNat (vlT T n p5))) G8 := ⟨fun x x1 x2 x3 => by rw [e8, up_na (by omega)]; exact b5.1 x x1 x2 x3, by rw [e8, up_na (by omega)]; exact b5.2.1, by rw [e8, up_na (by omega)]; exact b5.2.2.1, by rw [e8, up_na (by omega)]; exact b5.2.2.2.1, r8⟩
      have t8 : TkS T n G8 p5 := t5.of (by rw [e8, up_na (by omega)])
      have l5 := nx_rng (T := T) t5.1.2
      exact cb_adv hT h0 stb_fri b8 t8 (fun G9 b9 t9 => ih _ _ ⟨k', _, _, by omega, by omega, by omega, b9, t9, E6⟩ (by omega))
  · rw [if_pos w3] at E
    exact cb_fail b t (fun G' f' => E.2 _ _ G' rfl f')
end CFRI
