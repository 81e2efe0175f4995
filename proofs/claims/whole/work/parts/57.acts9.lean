-- ===== PURE LAYER: borrow, the arm =====
theorem c_makeLoan {a0 : Nat} {G : GH} {Q : Int → GH → Prop} {k m n t b tm : Int} (hk : 0 ≤ k ∧ k < 30) (ht : G (a0 + 5) k.toNat = t) (hb : G (a0 + 3) (12 + k).toNat = b) (hn : G a0 8 = n) (hn2 : 0 ≤ n ∧ n < 12) (htm : G (a0 + 4) (k / 10).toNat = tm) (r1 : inR (t - m)) (r2 : inR (b + m))
    (h : ∀ G' : GH, (∀ x, x ≠ a0 → x ≠ a0 + 3 → ¬ (a0 + 5 ≤ x ∧ x ≤ a0 + 8) → G' x = G x) → (∀ i, i ≠ 8 → G' a0 i = G a0 i) → G' a0 8 = n + 1 → (∀ i, i ≠ k.toNat → G' (a0 + 5) i = G (a0 + 5) i) → G' (a0 + 5) k.toNat = t - m → (∀ i, i ≠ (12 + k).toNat → G' (a0 + 3) i = G (a0 + 3) i) → G' (a0 + 3) (12 + k).toNat = b + m →
      (∀ i, i ≠ n.toNat → G' (a0 + 6) i = G (a0 + 6) i ∧ G' (a0 + 7) i = G (a0 + 7) i ∧ G' (a0 + 8) i = G (a0 + 8) i) → (G' (a0 + 6) n.toNat = k ∧ G' (a0 + 7) n.toNat = m ∧ G' (a0 + 8) n.toNat = tm) → Q n G') : f_X8_makeLoan a0 k m G Q := by
  unfold f_X8_makeLoan
  rw [ht]
  refine ⟨hk, r1, fun G1 e1 => ⟨by omega, ?_⟩⟩
  have b1 : G1 (a0 + 3) (12 + k).toNat = b := by rw [e1, upG_na (by omega), hb]
  rw [b1]
  refine ⟨r2, fun G2 e2 => ?_⟩
  have n2 : G2 a0 8 = n := by rw [e2, upG_na (by omega), e1, upG_na (by omega), hn]
  rw [n2]
  refine ⟨hn2, fun G3 e3 => ?_⟩
  have n3 : G3 a0 8 = n := by rw [e3, upG_na (by omega), n2]
  rw [n3]
  refine ⟨hn2, fun G4 e4 => ⟨hk.1, by omega, ?_⟩⟩
  have n4 : G4 a0 8 = n := by rw [e4, upG_na (by omega), n3]
  have t4 : G4 (a0 + 4) (k / 10).toNat = tm := by rw [e4, upG_na (by omega), e3, upG_na (by omega), e2, upG_na (by omega), e1, upG_na (by omega), htm]
  rw [n4, t4]
  refine ⟨hn2, fun G5 e5 => ?_⟩
  have n5 : G5 a0 8 = n := by rw [e5, upG_na (by omega), n4]
  rw [n5]
  refine ⟨⟨by omega, by omega⟩, fun G6 e6 => ?_⟩
  have n6 : G6 a0 8 = n + 1 := by rw [e6, upG_same]
  rw [n6, show n + 1 - 1 = n by omega]
  refine ⟨⟨by omega, by omega⟩, h G6 (fun x x0 x1 x2 => ?_) (fun i hi => ?_) n6 (fun i hi => ?_) ?_ (fun i hi => ?_) ?_ (fun i hi => ⟨?_, ?_, ?_⟩) ⟨?_, ?_, ?_⟩⟩
  · rw [e6, up_na x0, e5, up_na (by omega), e4, up_na (by omega), e3, up_na (by omega), e2, up_na x1, e1, up_na (by omega)]
  · rw [e6, upG_nk hi, e5, up_na (by omega), e4, up_na (by omega), e3, up_na (by omega), e2, up_na (by omega), e1, up_na (by omega)]
  · rw [e6, up_na (by omega), e5, up_na (by omega), e4, up_na (by omega), e3, up_na (by omega), e2, up_na (by omega), e1, upG_nk hi]
  · rw [e6, up_na (by omega), e5, up_na (by omega), e4, up_na (by omega), e3, up_na (by omega), e2, up_na (by omega), e1, upG_same]
  · rw [e6, up_na (by omega), e5, up_na (by omega), e4, up_na (by omega), e3, up_na (by omega), e2, upG_nk hi, e1, up_na (by omega)]
  · rw [e6, up_na (by omega), e5, up_na (by omega), e4, up_na (by omega), e3, up_na (by omega), e2, upG_same]
  · rw [e6, up_na (by omega), e5, up_na (by omega), e4, up_na (by omega), e3, upG_nk hi, e2, up_na (by omega), e1, up_na (by omega)]
  · rw [e6, up_na (by omega), e5, up_na (by omega), e4, upG_nk hi, e3, up_na (by omega), e2, up_na (by omega), e1, up_na (by omega)]
  · rw [e6, up_na (by omega), e5, upG_nk hi, e4, up_na (by omega), e3, up_na (by omega), e2, up_na (by omega), e1, up_na (by omega)]
  · rw [e6, up_na (by omega), e5, up_na (by omega), e4, up_na (by omega), e3, upG_same]
  · rw [e6, up_na (by omega), e5, up_na (by omega), e4, upG_same]
  · rw [e6, up_na (by omega), e5, upG_same]
section A9
variable {j : Nat} {G : GH} {K : GH → Prop} {L : Nat} {xs : Nat → Int32} {i4 : Int}
theorem arm_30 (h : Rel j G) (hK : ∀ G', Rel (j + 1) G' → K G') (hL : 0 ≤ i4 ∧ i4 + 5 ≤ L) : f_law_30 L xs i4 G K := by
  refine ⟨⟨by omega, by omega⟩, ⟨by omega, by omega⟩, ⟨by omega, by omega⟩, ?_⟩
  generalize (xs ((i4 + 1)).toNat).toInt = f
  generalize (xs ((i4 + 2)).toNat).toInt = d
  generalize (xs ((i4 + 3)).toNat).toInt = m
  have hW := h.wf
  have hR := h.rp
  have hfr := hW.fr
  have hlo := hW.lo
  have e38 : G 3 8 = G 273 6 := hR.lo
  have bad : 0 ≤ f ∧ f < G 273 4 → ¬ ((0 ≤ d ∧ d ≤ 9) ∧ 1 ≤ m ∧ m ≤ 60) → f_X10_borrow f d m G (tailP K 2) := fun a q => by
    have mm : MV G (G 273) := ⟨rfl, h.2.2.1⟩
    have th := thrown_is h hK (t := 2) (v := 0) (by omega)
    have th2 : tailP K 2 0 (upG (upG G 272 0 0) 272 0 2) := by rw [up_up]; exact th
    refine mv_noFriend mm hW (fun _ => z01' (p10_in ⟨fun _ => p10_throwsIf (Or.inr rfl) (fun c => by omega) (fun _ => z10 th2), fun c => p10_in ⟨fun c2 => absurd ⟨b2_ne0 c, b2_ne0 c2⟩ q, fun _ => p10_throwsIf (Or.inr rfl) (fun c => by omega) (fun _ => z10 th2)⟩⟩)) (fun c2 => absurd (show 0 ≤ f ∧ f ≤ G 273 4 - 1 by omega) c2)
  unfold f_L_borrow f_X9_borrow
  refine c_needFriend hW hR (fun a => c_needDigit (fun b1 => c_needMany (fun b2' => ?_) (fun q => Or.inr ⟨rfl, bad a (by omega)⟩)) (fun q => Or.inr ⟨rfl, bad a (by omega)⟩)) (fun a => Or.inl ⟨rfl, ?_⟩)
  · have e8 : G 8 ((f * 10) + d).toNat = friW (G 273) f (1 + d) := (hR.fd f a.1 a.2).2 d b1.1 (by omega)
    have fdd := (hW.fd f a.1 a.2).2 d b1.1 (by omega)
    have fd0 := (hW.fd f a.1 a.2).1
    have bor0 : 0 ≤ borW (G 273) f d := (hW.loan_rng (f := f) (d := d) hlo.1 (Int.le_refl _)).1
    rw [e8, e38]
    -- the reference up to what the friend lends
    have go : ∀ (r : Int) (G3 : GH), MV G3 (G 273) → ((m ≤ friW (G 273) f (1 + d) → (((G 273 6) ≠ 12 → (f_X10_keeps (upG G3 272 0 0) (fun G_3 => (inR (friW (G 273) f (1 + d) - m) ∧ (f_X10_setsFriend f (1 + d) (friW (G 273) f (1 + d) - m) G_3 (fun G_4 => (f_X10_loanAt (G 273 6) 0 (fun r_8 => ((0 ≤ r_8 ∧ r_8 < 456) ∧ (∀ G_5, G_5 = upG G_4 273 (r_8).toNat f → (f_X10_loanAt (G 273 6) 1 (fun r_9 => ((0 ≤ r_9 ∧ r_9 < 456) ∧ (∀ G_6, G_6 = upG G_5 273 (r_9).toNat d → (f_X10_loanAt (G 273 6) 2 (fun r_10 => ((0 ≤ r_10 ∧ r_10 < 456) ∧ (∀ G_7, G_7 = upG G_6 273 (r_10).toNat m → (f_X10_loanAt (G 273 6) 3 (fun r_11 => (f_X10_ofFriend f 0 G_7 (fun r_12 => ((0 ≤ r_11 ∧ r_11 < 456) ∧ (∀ G_8, G_8 = upG G_7 273 (r_11).toNat r_12 → (inR ((G_8 273 6) + 1) ∧ (∀ G_9, G_9 = upG G_8 273 6 ((G_8 273 6) + 1) → (tailP K r (G 273 6) G_9))))))))))))))))))))))))))) ∧ ((G 273 6) = 12 → (tailP K r (-2) (upG G3 272 0 0))))) ∧ (friW (G 273) f (1 + d) < m → (tailP K r (-3) (upG G3 272 0 0)))) → f_X10_borrow f d m G3 (tailP K r) := by
      intro r G3 mm hgo
      have wm : (upG G3 272 0 0) 273 = G 273 := mm.th.1
      refine mv_noFriend mm hW (fun _ => z01' (p10_in ⟨fun c => absurd b1 (b2_eq0 c), fun _ => p10_in ⟨fun _ => p10_throwsIf (Or.inl rfl) (fun _ => z01 ⟨⟨by omega, by omega⟩, p10_ofFriend (by omega) (by omega) ?_⟩) (fun c => by omega), fun c => absurd b2' (b2_eq0 c)⟩⟩)) (fun c2 => absurd (show 0 ≤ f ∧ f ≤ G 273 4 - 1 by omega) c2)
      rw [wm]
      exact hgo
    refine ⟨⟨by omega, by omega⟩, fun c => ⟨fun c2 => ?_, fun c2 => ?_⟩, fun c => ?_⟩
    · refine c_keep hW hR h.hi (fun G1 kc => ⟨⟨by omega, by omega⟩, ?_⟩)
      have r1 := kc.rep1 h.hi hR
      have e81 : G1 8 ((f * 10) + d).toNat = friW (G 273) f (1 + d) := (r1.fd f a.1 a.2).2 d b1.1 (by omega)
      have cr := cnt_rng hW (s := 12 + (f * 10 + d)) (by omega)
      have e61 : G1 6 (12 + (f * 10 + d)).toNat = cntW (-1) (G 273) (12 + (f * 10 + d)) := r1.ct _ (by omega) (by omega)
      have e71 : G1 7 (((f * 10) + d) / 10).toNat = friW (G 273) f 0 := by
        rw [show ((f * 10) + d) / 10 = f by omega]; exact (r1.fd f a.1 a.2).1
      refine c_makeLoan (a0 := 3) (k := (f * 10) + d) (by omega) e81 e61 r1.lo (by omega) e71 ⟨by omega, by omega⟩ ⟨by omega, by omega⟩ (fun G2 o2 p2 p28 q2 q2v s2 s2v l2 l2v G3 e3 => ?_)
      have m3 : G3 273 = G 273 := by rw [e3, up_na (by omega), o2 273 (by omega) (by omega) (by omega), kc.row h.hi (by omega)]
      have t3 : G3 272 = G 272 := by rw [e3, up_na (by omega), o2 272 (by omega) (by omega) (by omega), kc.row h.hi (by omega)]
      have mm : MV G3 (G 273) := ⟨m3, by rw [t3]; exact h.2.2.1⟩
      have g6 : (upG G3 272 0 0) 272 6 = G 272 6 := by rw [upG_nk (by omega), t3]
      refine go 0 G3 mm ⟨fun _ => ⟨fun _ => m_keeps (by rw [g6]; exact h.hi.1) (fun G4 km => ⟨⟨by omega, by omega⟩, ⟨by omega, by omega⟩, fun G5 e5 => ?_⟩), fun c3 => absurd c3 c2⟩, fun c3 => by omega⟩
      have w4 : G4 273 = G 273 := by rw [km.w, up_na (by omega), m3]
      refine p10_loanAt (by omega) (by omega) ⟨⟨by omega, by omega⟩, fun G6 e6 => p10_loanAt (by omega) (by omega) ⟨⟨by omega, by omega⟩, fun G7 e7 => p10_loanAt (by omega) (by omega) ⟨⟨by omega, by omega⟩, fun G8 e8' => p10_loanAt (by omega) (by omega) (p10_ofFriend (by omega) (by omega) ⟨⟨by omega, by omega⟩, fun G9 e9 => ?_⟩)⟩⟩⟩
      have w8 : ∀ k, k ≠ ((51 + (11 * f)) + (1 + d)).toNat → ¬ ((84 + 4 * G 273 6).toNat ≤ k ∧ k < (84 + 4 * G 273 6).toNat + 3) → G8 273 k = G 273 k := fun k k0 k1 => by rw [e8', upG_nk (by omega), e7, upG_nk (by omega), e6, upG_nk (by omega), e5, upG_nk (by omega), w4]
      have f8 : friW (G8 273) f 0 = friW (G 273) f 0 := w8 _ (by omega) (by omega)
      rw [f8] at e9
      have w9 : ∀ k, k ≠ ((84 + (4 * G 273 6)) + 3).toNat → G9 273 k = G8 273 k := fun k k0 => by rw [e9, upG_nk k0]
      have s9 : G9 273 6 = G 273 6 := by rw [w9 6 (by omega), w8 6 (by omega) (by omega)]
      rw [s9]
      refine ⟨⟨by omega, by omega⟩, fun GA eA => ?_⟩
      have wA : ∀ k, k ≠ 6 → GA 273 k = G9 273 k := fun k k0 => by rw [eA, upG_nk k0]
      have lent : Lent (GA 273) (G 273) f d m := by
        refine ⟨fun k k0 k1 k2 k3 => by rw [wA k k1, w9 k (by omega), w8 k k2 (by omega)], by rw [eA, upG_same], ?_, ?_, ?_, ?_, ?_⟩
        · show GA 273 ((51 + (11 * f)) + (1 + d)).toNat = _
          rw [wA _ (by omega), w9 _ (by omega), e8', upG_nk (by omega), e7, upG_nk (by omega), e6, upG_nk (by omega), e5, upG_same]
        · show GA 273 ((84 + (4 * G 273 6)) + 0).toNat = _
          rw [wA _ (by omega), w9 _ (by omega), e8', upG_nk (by omega), e7, upG_nk (by omega), e6, upG_same]
        · show GA 273 ((84 + (4 * G 273 6)) + 1).toNat = _
          rw [wA _ (by omega), w9 _ (by omega), e8', upG_nk (by omega), e7, upG_same]
        · show GA 273 ((84 + (4 * G 273 6)) + 2).toNat = _
          rw [wA _ (by omega), w9 _ (by omega), e8', upG_same]
        · show GA 273 ((84 + (4 * G 273 6)) + 3).toNat = _
          rw [wA _ (by omega), e9, upG_same]
      obtain ⟨wf, ol, ct⟩ := lent.facts (n' := ((j + 1 : Nat) : Int)) hW (by omega) a b1 b2' c (by omega)
      have ga : ∀ x, x ≠ 273 → GA x = G4 x := fun x hx => by rw [eA, up_na hx, e9, up_na hx, e8', up_na hx, e7, up_na hx, e6, up_na hx, e5, up_na hx]
      refine tail_ok (K := K) ?_ (fun _ => ?_) (hK _ ?_)
      · rw [ga 272 (by omega), km.2.1 0 (by omega), upG_same]
      · rw [ga 285 (by omega), km.1 285 (by omega) (by omega), up_na (by omega), e3, upG_same]
      · refine h.acted kc (Gc := G2) (Gm0 := upG G3 272 0 0) (Gm := G4) (fun x q q1 => ?_) (fun k q => ?_) (fun x q => ?_) (fun k q => ?_) km (fun x q q1 => ?_) (fun k q => ?_) wf ?_
        · rw [o2 x (by omega) (by omega) (by omega)]
        · rw [o2 272 (by omega) (by omega) (by omega)]
        · rw [up_na (by unfold ownA at q; omega), e3, up_na (by unfold ownA at q; omega)]
        · rw [upG_nk (by unfold ownK at q; omega), e3, up_na (by omega)]
        · rw [ga x q1]
        · rw [ga 272 (by omega)]
        · have w4e : GA 273 4 = G 273 4 := ol 4 (by omega) (by omega) (by omega)
          refine ol.rep hW r1 (fun x x0 x1 x2 x3 => ?_) (fun k hk => p2 k hk) (by rw [lent.six]; exact p28) (fun s s0 s1 => ?_) (fun f' f0 f1 => ?_) (fun l l0 l1 => ?_)
          · by_cases cx : x = 6
            · omega
            · exact o2 x (by omega) (by omega) (by omega)
          · rw [ct s s0 s1]
            by_cases cs : s = 12 + (f * 10 + d)
            · rw [if_pos cs, cs]; exact s2v
            · rw [if_neg cs, Int.add_zero]; exact (s2 _ (by omega)).trans (r1.ct s s0 s1)
          · rw [w4e] at f1
            have rf := r1.fd f' f0 f1
            have ff0 : friW (GA 273) f' 0 = friW (G 273) f' 0 := lent.out _ (by omega) (by omega) (by omega) (by omega)
            rw [ff0]
            refine ⟨by rw [o2 7 (by omega) (by omega) (by omega)]; exact rf.1, fun d' d0 d1 => ?_⟩
            by_cases cf : f' = f ∧ d' = d
            · rw [cf.1, cf.2, lent.fri]; exact q2v
            · have : friW (GA 273) f' (1 + d') = friW (G 273) f' (1 + d') := lent.out _ (by omega) (by omega) (by omega) (by omega)
              rw [this]; exact (q2 _ (by omega)).trans (rf.2 d' d0 d1)
          · rw [lent.six] at l1
            by_cases cl : l = G 273 6
            · rw [cl, lent.lo0, lent.lo1, lent.lo2, lent.lo3]; exact l2v
            · have rl := r1.ln l l0 (by omega)
              have z := l2 l.toNat (by omega)
              rw [lent.old (by omega) b1 (by omega) l0 (by omega) (by omega) (by omega), lent.old (by omega) b1 (by omega) l0 (by omega) (by omega) (by omega), lent.old (by omega) b1 (by omega) l0 (by omega) (by omega) (by omega), lent.old (by omega) b1 (by omega) l0 (by omega) (by omega) (by omega)]
              exact ⟨z.1.trans rl.1, z.2.1.trans rl.2.1, z.2.2.trans rl.2.2⟩
    · intro G3 e3
      have mm : MV G3 (G 273) := by rw [e3]; exact ⟨up_na (by omega), by rw [up_na (by omega)]; exact h.2.2.1⟩
      refine go 0 G3 mm ⟨fun _ => ⟨fun c3 => absurd c2 c3, fun _ => ?_⟩, fun c3 => by omega⟩
      rw [e3]; exact none_done h hK
    · intro G3 e3
      have mm : MV G3 (G 273) := by rw [e3]; exact ⟨up_na (by omega), by rw [up_na (by omega)]; exact h.2.2.1⟩
      refine go 0 G3 mm ⟨fun c3 => by omega, fun _ => ?_⟩
      rw [e3]; exact none_done h hK
  · have mm : MV G (G 273) := ⟨rfl, h.2.2.1⟩
    refine mv_noFriend mm hW (fun c2 => absurd (show 0 ≤ f ∧ f < G 273 4 by omega) a) (fun _ => z10' (thrown_is h hK (by omega)))
end A9
