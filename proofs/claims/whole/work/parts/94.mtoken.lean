-- ===== PURE LAYER: load, the tokens as the reference reads them =====
abbrev RfS (T : BT) (n : Int) (G : GH) : Prop := G 272 8 = n ∧ ∀ i : Nat, (i : Int) < n → G 278 i = sgB (T i)
theorem sg_and : ∀ v : Nat, v < 256 → zAnd (sgB (v : Int)) 255 = v := by decide +kernel
theorem sg_and' {v : Int} (h : 0 ≤ v ∧ v ≤ 255) : zAnd (sgB v) 255 = v := by
  have := sg_and v.toNat (by omega)
  rw [show ((v.toNat : Nat) : Int) = v by omega] at this
  exact this
theorem sg_in {v lo hi : Int} (h : 0 ≤ v ∧ v ≤ 255) (hl : 0 ≤ lo ∧ hi < 128) : (lo ≤ sgB v ∧ sgB v ≤ hi) ↔ (lo ≤ v ∧ v ≤ hi) := by
  unfold sgB
  by_cases c : v < 128
  · rw [if_pos c]
  · rw [if_neg c]; omega
section MTOK
variable {T : BT} {n p : Int} {G : GH}
theorem RfS.at (h : RfS T n G) {x : Int} (x0 : 0 ≤ x) (x1 : x < n) : G 278 x.toNat = sgB (T x.toNat) := h.2 _ (by omega)
theorem TxO.at (h : TxO T n) {x : Int} (x0 : 0 ≤ x) (x1 : x < n) : 1 ≤ T x.toNat ∧ T x.toNat ≤ 255 := h.2 _ (by omega)
theorem m_next {Q : Int → GH → Prop} {q : Int} (hT : TxO T n) (r : RfS T n G) (h9 : G 272 9 = q) (hq : 0 ≤ q ∧ q ≤ n)
    (h : ∀ G' : GH, (∀ x, x ≠ 272 → G' x = G x) → (∀ k, k ≠ 9 → k ≠ 10 → G' 272 k = G 272 k) → G' 272 9 = skT T n q → G' 272 10 = skT T n q → Q (if n ≤ skT T n q then -1 else T (skT T n q).toNat) G') : f_X10_nextByte G Q := by
  have hn := hT.1
  have hs := sk_rng (T := T) hq.2
  refine joinI1 (P := fun G4 : GH => (∀ x, x ≠ 272 → G4 x = G x) ∧ (∀ k, k ≠ 9 → G4 272 k = G 272 k) ∧ G4 272 9 = skT T n q) (fun G4 hP G5 e5 => ?_) (fun j hj => ?_)
  · obtain ⟨o4, p4, s4⟩ := hP
    have a9 : G5 272 9 = skT T n q := by rw [e5, upG_nk (by omega)]; exact s4
    have a10 : G5 272 10 = skT T n q := by rw [e5, upG_same]; exact s4
    have a8 : G5 272 8 = n := by rw [e5, upG_nk (by omega), p4 8 (by omega)]; exact r.1
    have o5 : ∀ x, x ≠ 272 → G5 x = G x := fun x hx => by rw [e5, up_na hx]; exact o4 x hx
    have p5 : ∀ k, k ≠ 9 → k ≠ 10 → G5 272 k = G 272 k := fun k k9 k10 => by rw [e5, upG_nk k10]; exact p4 k k9
    have hh := h G5 o5 p5 a9 a10
    rw [a9, a8]
    refine ⟨fun c => ?_, fun c => ⟨⟨by omega, by omega⟩, ?_⟩⟩
    · rw [if_pos c] at hh; exact hh
    · rw [if_neg (by omega)] at hh
      have tr := hT.at (x := skT T n q) (by omega) c
      rw [o5 278 (by omega), r.at (by omega) c, sg_and' (by omega)]
      exact hh
  · refine loopI1 (I := fun G8 : GH => (∀ x, x ≠ 272 → G8 x = G x) ∧ (∀ k, k ≠ 9 → G8 272 k = G 272 k) ∧ (0 ≤ G8 272 9 ∧ G8 272 9 ≤ n) ∧ skT T n (G8 272 9) = skT T n q) (μ := fun G8 : GH => (n - G8 272 9).toNat) (fun k G8 hI ih => ?_) G ⟨fun _ _ => rfl, fun _ _ => rfl, by omega, by rw [h9]⟩
    obtain ⟨o8, p8, r8, q8⟩ := hI
    have l8 : G8 272 8 = n := by rw [p8 8 (by omega)]; exact r.1
    have stop : ¬ (G8 272 9 < n ∧ isSpB T (G8 272 9) = true) → j G8 := fun st => hj G8 ⟨o8, p8, by rw [← q8]; exact (run_0 st).symm⟩
    rw [l8]
    refine ⟨fun c4 => stop (fun q => by omega), fun c4 => ⟨⟨by omega, by omega⟩, ?_⟩⟩
    have tr := hT.at (x := G8 272 9) (by omega) c4
    have si := sg_in (v := T (G8 272 9).toNat) (lo := 32) (hi := 32) (by omega) (by omega)
    rw [o8 278 (by omega), r.at (by omega) c4]
    refine ⟨fun c5 => stop (isSp_f (fun q => by omega)), fun c5 G10 e10 => ?_⟩
    exact ih G10 ⟨fun x hx => by rw [e10, up_na hx]; exact o8 x hx, fun k k7 => by rw [e10, upG_nk k7]; exact p8 k k7, by rw [e10, upG_same]; omega, by rw [e10, upG_same]; rw [← q8]; exact (run_1 c4 (isSp_t (by omega))).symm⟩ (by rw [e10, upG_same]; omega)
theorem m_isAt {Q : Int → Prop} {x lo hi : Int} (hT : TxO T n) (r : RfS T n G) (hx : 0 ≤ x) (hl : 0 ≤ lo ∧ hi < 128) (h : Q (b2 (x < n ∧ lo ≤ T x.toNat ∧ T x.toNat ≤ hi))) : f_X10_isAt x lo hi G Q := by
  have hn := hT.1
  unfold f_X10_isAt
  rw [r.1]
  refine ⟨fun c => ?_, fun c => ⟨⟨by omega, by omega⟩, ?_⟩⟩
  · rw [b2_f (fun q => by omega)] at h; exact h
  · have tr := hT.at hx c
    have si := sg_in (v := T x.toNat) (lo := lo) (hi := hi) (by omega) hl
    rw [r.at hx c]
    refine ⟨fun c2 => ?_, fun c2 => ⟨fun c3 => ?_, fun c3 => ?_⟩⟩
    · rw [b2_f (fun q => by have := si.mpr q.2; omega)] at h; exact h
    · rw [b2_f (fun q => by have := si.mpr q.2; omega)] at h; exact h
    · rw [b2_t ⟨c, si.mp ⟨c2, c3⟩⟩] at h; exact h
theorem sgB_lo {v : Int} (h : v ≤ 127) : sgB v = v := if_pos (by omega)
theorem sch_rng {w i : Nat} (hw : w < 10) : 0 ≤ schr w i ∧ schr w i < 128 := schr_rng hw
theorem sg_chr {v c : Int} (h : 0 ≤ v ∧ v ≤ 255) (hc : 0 ≤ c ∧ c < 128) : sgB v = c ↔ v = c := by
  have := sg_in (v := v) (lo := c) (hi := c) h hc
  constructor
  · intro q; have := this.mp ⟨by omega, by omega⟩; omega
  · intro q; have := this.mpr ⟨by omega, by omega⟩; omega
/-- the reference stands before the token at p -/
abbrev AtS (T : BT) (n : Int) (G : GH) (p : Int) : Prop := (0 ≤ G 272 9 ∧ G 272 9 ≤ n) ∧ skT T n (G 272 9) = p
theorem AtS.rng (a : AtS T n G p) : 0 ≤ p ∧ p ≤ n := by
  have := sk_rng (T := T) a.1.2
  rw [a.2] at this
  have := a.1
  omega
theorem AtS.self {G' : GH} (a : AtS T n G p) (h : G' 272 9 = p) : AtS T n G' p := by
  have := a.rng
  refine ⟨by rw [h]; exact this, ?_⟩
  rw [h, ← a.2]; exact sk_sk
theorem m_takes {Q : Int → GH → Prop} {w : Nat} (hT : TxO T n) (r : RfS T n G) (a : AtS T n G p) (hw : w < 10)
    (h1 : isWd T n w p → ∀ G' : GH, (∀ x, x ≠ 272 → G' x = G x) → (∀ k, k ≠ 9 → k ≠ 10 → G' 272 k = G 272 k) → G' 272 9 = enT T n p → G' 272 10 = p → Q 1 G')
    (h0 : ¬ isWd T n w p → ∀ G' : GH, (∀ x, x ≠ 272 → G' x = G x) → (∀ k, k ≠ 9 → k ≠ 10 → G' 272 k = G 272 k) → G' 272 9 = p → G' 272 10 = p → Q 0 G') : f_X10_takes w G Q := by
  have hn := hT.1
  have hp := a.rng
  refine m_next hT r rfl a.1 (fun G1 o1 p1 a9 a10 => ?_)
  rw [a.2] at a9 a10 ⊢
  have r1 : RfS T n G1 := ⟨by rw [p1 8 (by omega) (by omega)]; exact r.1, fun i hi => by rw [o1 278 (by omega)]; exact r.2 i hi⟩
  have no : ¬ isWd T n w p → Q 0 G1 := fun q => h0 q G1 o1 p1 a9 a10
  refine p10_in ⟨fun c => ?_, fun c => no (fun q => ?_)⟩
  · have d := b2_ne0 c
    have hlt : p < n := by
      by_cases q : n ≤ p
      · rw [if_pos q] at d; omega
      · omega
    rw [if_neg (show ¬ n ≤ p by omega)] at d
    have k1 : kdT T n p = 1 := kd_1 hlt d
    have en : enT T n p = runT (isLeB T) n p := by unfold enT; rw [if_neg (show ¬ n ≤ p by omega), if_pos d]
    refine loopI1 (I := fun x : Int => (p ≤ x ∧ x ≤ n) ∧ runT (isLeB T) n x = runT (isLeB T) n p) (μ := fun x : Int => (n - x).toNat) (fun k x hI ih => ?_) (G1 272 10) (by rw [a10]; exact ⟨⟨by omega, hp.2⟩, rfl⟩)
    obtain ⟨hx, q8⟩ := hI
    refine m_isAt hT r1 (by omega) (by omega) ⟨fun c2 => ?_, fun c2 => ?_⟩
    · have n2 := b2_eq0 c2
      have st : ¬ (x < n ∧ isLeB T x = true) := fun q => n2 ⟨q.1, of_decide_eq_true q.2⟩
      rw [run_0 st, ← en] at q8
      rw [a10]
      refine ⟨⟨by omega, by omega⟩, fun c3 => ?_, fun c3 => no (fun q => ?_)⟩
      · refine loopI1 (I := fun y : Int => 0 ≤ y ∧ y ≤ slen w ∧ ∀ i : Nat, (i : Int) < y → T (p.toNat + i) = schr w i) (μ := fun y : Int => (slen w - y).toNat) (fun k2 y hI ih2 => ?_) 0 ⟨by omega, by omega, fun i hi => by omega⟩
        obtain ⟨y0, y1, hy⟩ := hI
        have et : (p + y).toNat = p.toNat + y.toNat := by omega
        refine ⟨fun c4 G2 e2 => h1 ⟨k1, by omega, fun i hi => hy i (by omega)⟩ G2 (fun x hx => by rw [e2, up_na hx]; exact o1 x hx) (fun k k9 k10 => by rw [e2, upG_nk k9]; exact p1 k k9 k10) (by rw [e2, upG_same]; exact q8) (by rw [e2, upG_nk (by omega)]; exact a10), fun c4 => ⟨⟨by omega, by omega⟩, ⟨y0, c4⟩, ?_⟩⟩
        have tr := hT.at (x := p + y) (by omega) (by omega)
        rw [r1.at (x := p + y) (by omega) (by omega)]
        have sc := sg_chr (v := T (p + y).toNat) (c := schr w y.toNat) (by omega) (sch_rng hw)
        refine ⟨fun c5 => ?_, fun c5 => no (fun q => ?_)⟩
        · have c6 := sc.mp c5
          rw [et] at c6
          refine ih2 _ ⟨by omega, by omega, fun i hi => ?_⟩ (by omega)
          by_cases e : i = y.toNat
          · rw [e]; exact c6
          · exact hy i (by omega)
        · refine c5 (sc.mpr ?_)
          rw [et]; exact q.2.2 _ (by omega)
      · have := q.2.1
        omega
    · have d2 := b2_ne0 c2
      exact ⟨⟨by omega, by omega⟩, ih _ ⟨by omega, by rw [← run_1 d2.1 (isLe_t d2.2)]; exact q8⟩ (by omega)⟩
  · have d := b2_eq0 c
    have k1 := kd_of1 q.1
    rw [if_neg (show ¬ n ≤ p by omega)] at d
    exact d k1.2
theorem m_fails {Q : Int → GH → Prop} {e i : Int} (h : ∀ G' : GH, (∀ x, x ≠ 272 → G' x = G x) → (∀ k, k ≠ 12 → k ≠ 13 → G' 272 k = G 272 k) → G' 272 12 = e → G' 272 13 = i → Q 0 G') : f_X10_fails e i G Q := by
  intro G1 e1 G2 e2
  exact h G2 (fun x hx => by rw [e2, up_na hx, e1, up_na hx]) (fun k k2 k3 => by rw [e2, upG_nk k3, e1, upG_nk k2]) (by rw [e2, upG_nk (by omega), e1, upG_same]) (by rw [e2, upG_same])
/-- isDigitNext -/
theorem m_digitNext {Q : Int → GH → Prop} (hT : TxO T n) (r : RfS T n G) (a : AtS T n G p)
    (h : ∀ G' : GH, (∀ x, x ≠ 272 → G' x = G x) → (∀ k, k ≠ 9 → k ≠ 10 → G' 272 k = G 272 k) → G' 272 9 = p → G' 272 10 = p → Q (b2 (kdT T n p = 2)) G') : f_X10_isDigitNext G Q := by
  refine m_next hT r rfl a.1 (fun G1 o1 p1 a9 a10 => ?_)
  rw [a.2] at a9 a10 ⊢
  have hh := h G1 o1 p1 a9 a10
  refine p10_in ?_
  by_cases c : kdT T n p = 2
  · have k := kd_of2 c
    rw [b2_t c] at hh
    rw [if_neg (show ¬ n ≤ p by omega), b2_t k.2]; exact hh
  · rw [b2_f c] at hh
    rw [b2_f ?_]; exact hh
    intro q
    by_cases c2 : n ≤ p
    · rw [if_pos c2] at q; omega
    · rw [if_neg c2] at q; exact c (kd_2 (by omega) q)
theorem m_reads {Q : Int → GH → Prop} {lo hi : Int} (hT : TxO T n) (r : RfS T n G) (a : AtS T n G p) (hh : 0 ≤ lo ∧ hi ≤ 999)
    (h1 : nmT T n lo hi p = 0 → kdT T n p = 2 → lo ≤ vlT T n p ∧ vlT T n p ≤ hi → ∀ G' : GH, (∀ x, x ≠ 272 → G' x = G x) → (∀ k, k ≠ 9 → k ≠ 10 → k ≠ 11 → G' 272 k = G 272 k) → G' 272 9 = enT T n p → G' 272 10 = p → G' 272 11 = vlT T n p → Q 1 G')
    (h0 : nmT T n lo hi p ≠ 0 → ∀ G' : GH, (∀ x, x ≠ 272 → G' x = G x) → (∀ k, k ≠ 9 → k ≠ 10 → k ≠ 12 → k ≠ 13 → G' 272 k = G 272 k) → G' 272 12 = nmT T n lo hi p → G' 272 13 = p → Q 0 G') : f_X10_reads lo hi G Q := by
  have hn := hT.1
  have hp := a.rng
  unfold nmT at h1 h0
  refine m_digitNext hT r a (fun G1 o1 p1 a9 a10 => ⟨fun c => ?_, fun c => ?_⟩)
  · have k2 := b2_ne0 c
    have hk := kd_of2 k2
    rw [if_neg (show ¬ kdT T n p ≠ 2 from fun q => q k2)] at h1 h0
    have en : enT T n p = runT (isDiB T) n p := by unfold enT; rw [if_neg (show ¬ n ≤ p by omega), if_neg (by omega), if_pos hk.2]
    have r1 : RfS T n G1 := ⟨by rw [p1 8 (by omega) (by omega)]; exact r.1, fun i hi => by rw [o1 278 (by omega)]; exact r.2 i hi⟩
    refine loopI2 (I := fun (x : Int) (G8 : GH) => (∀ x, x ≠ 272 → G8 x = G x) ∧ (∀ k, k ≠ 9 → G8 272 k = G1 272 k) ∧ (p ≤ G8 272 9 ∧ G8 272 9 ≤ n) ∧ runT (isDiB T) n (G8 272 9) = runT (isDiB T) n p ∧ (0 ≤ x ∧ x ≤ 999999999) ∧ nvT T n (min x 1000000) (G8 272 9) = nvT T n 0 p) (μ := fun (_ : Int) (G8 : GH) => (n - G8 272 9).toNat) (fun k x G8 hI ih => ?_) 0 G1 ⟨o1, fun _ _ => rfl, by omega, by rw [a9], by omega, by rw [a9]; rfl⟩
    obtain ⟨o8, p8, r8, q8, v8, w8⟩ := hI
    have r8' : RfS T n G8 := ⟨by rw [p8 8 (by omega)]; exact r1.1, fun i hi => by rw [o8 278 (by omega)]; exact r.2 i hi⟩
    have b10 : G8 272 10 = p := by rw [p8 10 (by omega)]; exact a10
    refine m_isAt hT r8' (by omega) (by omega) ⟨fun c2 => ?_, fun c2 => ?_⟩
    · have n2 := b2_eq0 c2
      have st : ¬ (G8 272 9 < n ∧ isDiB T (G8 272 9) = true) := fun q => n2 ⟨q.1, of_decide_eq_true q.2⟩
      rw [run_0 st, ← en] at q8
      rw [nv_0 st, ← vl_2 k2] at w8
      refine p10_in ⟨fun c3 => ⟨⟨by omega, by omega⟩, fun G9 e9 => ?_⟩, fun c3 => ?_⟩
      · have d := b2_ne0 c3
        have ev : vlT T n p = x := by omega
        rw [ev, if_pos d] at h1
        exact h1 rfl k2 d G9 (fun y hy => by rw [e9, up_na hy]; exact o8 y hy) (fun k k9 k10 k11 => by rw [e9, upG_nk k11, p8 k k9]; exact p1 k k9 k10) (by rw [e9, upG_nk (by omega)]; exact q8) (by rw [e9, upG_nk (by omega)]; exact b10) (by rw [e9, upG_same])
      · have d := b2_eq0 c3
        rw [if_neg (show ¬ (lo ≤ vlT T n p ∧ vlT T n p ≤ hi) by omega)] at h0
        rw [b10]
        exact m_fails (fun G9 f1 f2 f3 f4 => h0 (by omega) G9 (fun y hy => by rw [f1 y hy]; exact o8 y hy) (fun k k9 k10 k12 k13 => by rw [f2 k k12 k13, p8 k k9]; exact p1 k k9 k10) f3 f4)
    · have d2 := b2_ne0 c2
      have si := sgB_lo (v := T (G8 272 9).toNat) (by omega)
      refine joinI1 (P := fun v : Int => v = if x ≤ 99999999 then (10 * x + T (G8 272 9).toNat) - 48 else x) (fun v hv => ⟨⟨by omega, by omega⟩, fun G9 e9 => ih _ G9 ⟨fun y hy => by rw [e9, up_na hy]; exact o8 y hy, fun k k9 => by rw [e9, upG_nk k9]; exact p8 k k9, by rw [e9, upG_same]; omega, by rw [e9, upG_same, ← run_1 d2.1 (isDi_t d2.2)]; exact q8, ?_, ?_⟩ (by rw [e9, upG_same]; omega)⟩) (fun jj hjj => ⟨fun c3 => ⟨⟨by omega, by omega⟩, ?_⟩, fun c3 => hjj _ (by rw [if_neg (by omega)])⟩)
      · rw [hv]
        by_cases c4 : x ≤ 99999999
        · rw [if_pos c4]; omega
        · rw [if_neg c4]; exact v8
      · rw [e9, upG_same]
        rw [nv_1 d2.1 (isDi_t d2.2)] at w8
        rw [← w8, hv]
        congr 1
        by_cases c4 : x ≤ 99999999
        · rw [if_pos c4]; omega
        · rw [if_neg c4]; omega
      · rw [r8'.at (by omega) d2.1, si]
        exact ⟨⟨by omega, by omega⟩, hjj _ (by rw [if_pos c3])⟩
  · rw [if_pos (b2_eq0 c)] at h0
    rw [a10]
    exact m_fails (fun G9 f1 f2 f3 f4 => h0 (by omega) G9 (fun y hy => by rw [f1 y hy]; exact o1 y hy) (fun k k9 k10 k12 k13 => by rw [f2 k k12 k13]; exact p1 k k9 k10) f3 f4)
end MTOK
