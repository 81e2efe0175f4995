-- ===== PURE LAYER: holes =====
abbrev holeP (v p0 p1 p2 : Int) : Prop := 0 < v ∧ (p2 = -1 ∨ (10 ≤ v ∧ p1 = -1) ∨ (100 ≤ v ∧ p0 = -1))
abbrev holeW (W : WT) (r : Int) : Prop := holeP (hunW W r) (plaW W (3 * r + 0) 0) (plaW W (3 * r + 1) 0) (plaW W (3 * r + 2) 0)
abbrev holeG (G : GH) (h : Nat) (r : Int) : Prop := holeP (G (h + 1) r.toNat) (G (h + 2) (r * 3 + 0).toNat) (G (h + 2) (r * 3 + 1).toNat) (G (h + 2) (r * 3 + 2).toNat)
def holesW (W : WT) : Int := sumZ (fun r => b2 (holeW W r)) 18
theorem c_lacksCard {G : GH} {h : Nat} {r : Int} {Q : Int → Prop} (hr : 0 ≤ r ∧ r < 18) (hq : Q (b2 (holeG G h r))) : f_X0_lacksCard h r G Q := by
  have q1 : holeG G h r → Q 1 := fun q => by rw [b2_t q] at hq; exact hq
  have q0 : ¬ holeG G h r → Q 0 := fun q => by rw [b2_f q] at hq; exact hq
  unfold holeG holeP at q0 q1
  refine ⟨hr, 4, ?_⟩
  generalize G (h + 1) r.toNat = v at q0 q1 ⊢
  refine ⟨fun c => by omega, fun _ => ⟨fun c => q0 (by omega), fun c => ⟨⟨by omega, by omega⟩, fun c2 => ⟨by omega, ?_⟩, fun c2 => q1 (by omega)⟩⟩⟩
  refine ⟨fun c => by omega, fun _ => ⟨fun c => q0 ?_, fun c => ⟨⟨by omega, by omega⟩, fun c3 => ⟨by omega, ?_⟩, fun c3 => q1 ?_⟩⟩⟩
  · have : v < 10 := by omega
    intro q; omega
  · refine ⟨fun c => by omega, fun _ => ⟨fun c => q0 ?_, fun c => ⟨⟨by omega, by omega⟩, fun c4 => ⟨by omega, ?_⟩, fun c4 => q1 ?_⟩⟩⟩
    · have : v < 100 := by omega
      have c3 : ¬ G (h + 2) (r * 3 + 1).toNat = -1 := c3
      intro q; omega
    · have c3 : ¬ G (h + 2) (r * 3 + 1).toNat = -1 := c3
      have c4 : ¬ G (h + 2) (r * 3 + 0).toNat = -1 := c4
      refine ⟨fun c => q0 (by omega), fun c => by omega⟩
    · have c4 : G (h + 2) (r * 3 + 0).toNat = -1 := c4
      have : 100 ≤ v := by omega
      exact ⟨by omega, Or.inr (Or.inr ⟨this, c4⟩)⟩
  · have c3 : G (h + 2) (r * 3 + 1).toNat = -1 := c3
    have : 10 ≤ v := by omega
    exact ⟨by omega, Or.inr (Or.inl ⟨this, c3⟩)⟩
theorem HangS.holes {G : GH} {h : Nat} {W : WT} {j : Int} (hW : WF j W) (hH : HangS G h W) : sumZ (fun r => b2 (holeG G h r)) 18 = holesW W := by
  refine HangS.sum1 (G := G) (h := h) hW (fun b r b0 b1 r0 r1 => ⟨fun c => ?_, fun c => ?_⟩) (fun r r0 r1 => ?_)
  · have hb : (0 ≤ b ∧ b < W 0) ∧ b < 3 := ⟨⟨b0, c.1⟩, b1⟩
    have hr : (0 ≤ r ∧ r < rowW W b) ∧ r < 6 := by have := c.2; omega
    have e1 := hH.at1 hb hr
    have p0 := (hH.at3 hb hr (p := 0) (by omega)).1
    have p1 := (hH.at3 hb hr (p := 1) (by omega)).1
    have p2 := (hH.at3 hb hr (p := 2) (by omega)).1
    rw [show 6 * b + r = b * 6 + r by omega]
    show b2 (holeP (G (h + 1) (b * 6 + r).toNat) (G (h + 2) ((b * 6 + r) * 3 + 0).toNat) (G (h + 2) ((b * 6 + r) * 3 + 1).toNat) (G (h + 2) ((b * 6 + r) * 3 + 2).toNat)) = b2 (holeP _ _ _ _)
    rw [e1, p0, p1, p2]
  · have := hH.no1 ⟨b0, b1⟩ ⟨r0, r1⟩ c
    refine b2_f (fun q => ?_)
    have q1 := q.1
    rw [show 6 * b + r = b * 6 + r by omega, this] at q1
    omega
  · refine b2_f (fun q => ?_)
    have q1 := q.1
    rw [hW.hf r r0 r1] at q1
    omega
theorem c_countHoles {G : GH} {h : Nat} {W : WT} {j : Int} {Q : Int → Prop} (hW : WF j W) (hH : HangS G h W) (hq : Q (holesW W)) : f_X0_countHoles h G Q := by
  rw [← hH.holes hW] at hq
  unfold f_X0_countHoles
  refine cnt_loop (fun r => holeG G h r) 18 ⟨by omega, by omega⟩ (fun k acc x h0 h1 ha he ht hf => ⟨fun c => ?_, fun c => ⟨⟨h0, c⟩, fun c1 => ?_, fun c1 => c_lacksCard ⟨h0, c⟩ ⟨fun c2 => ?_, fun c2 => ⟨⟨by omega, by omega⟩, ht c (b2_ne0 c2)⟩⟩⟩⟩)
  · rw [he (by omega)]; exact hq
  · have := hf c (fun q => by have := q.1; omega); rw [Int.add_zero] at this; exact this
  · have := hf c (b2_eq0 c2); rw [Int.add_zero] at this; exact this
/-- the reference: place c of row r wants a card that does not hang -/
abbrev wantW (W : WT) (p : Int) : Prop := ddW W p ≠ -1 ∧ plaW W p 0 = -1
theorem dd_ne {W : WT} {j r c : Int} (hW : WF j W) (hr : 0 ≤ r ∧ r < 18) (hc : 0 ≤ c ∧ c < 3) : ddW W (3 * r + c) ≠ -1 ↔ unitW c ≤ hunW W r := by
  have h := hW.hr r hr.1 hr.2
  unfold ddW
  rw [show (3 * r + c) / 3 = r by omega, show (3 * r + c) % 3 = c by omega]
  have hu : unitW c = 100 ∨ unitW c = 10 ∨ unitW c = 1 := by unfold unitW; split; exact Or.inl rfl; split; exact Or.inr (Or.inl rfl); exact Or.inr (Or.inr rfl)
  by_cases c1 : hunW W r = -1
  · rw [if_pos c1]
    refine ⟨fun q => absurd rfl q, fun q => by omega⟩
  · rw [if_neg c1]
    by_cases c2 : hunW W r < unitW c
    · rw [if_pos c2]
      refine ⟨fun q => absurd rfl q, fun q => by omega⟩
    · rw [if_neg c2]
      refine ⟨fun _ => by omega, fun _ => ?_⟩
      rcases hu with e | e | e <;> rw [e] <;> omega
theorem sumZ_3 {f : Int → Int} : sumZ f 3 = f 0 + f 1 + f 2 := by
  rw [show (3 : Int) = 2 + 1 by omega, sumZ_s (by omega), show sumZ f 2 = sumZ f 1 + f 1 from sumZ_s (x := 1) (by omega), show sumZ f 1 = sumZ f 0 + f 0 from sumZ_s (x := 0) (by omega), sumZ_0, Int.zero_add]
def wantsR (W : WT) (r : Int) : Int := sumZ (fun c => b2 (wantW W (3 * r + c))) 3
theorem hole_iff {W : WT} {j r : Int} (hW : WF j W) (hr : 0 ≤ r ∧ r < 18) : wantsR W r ≠ 0 ↔ holeW W r := by
  have d0 := dd_ne hW hr (c := 0) (by omega)
  have d1 := dd_ne hW hr (c := 1) (by omega)
  have d2 := dd_ne hW hr (c := 2) (by omega)
  have u0 : unitW 0 = 100 := rfl
  have u1 : unitW 1 = 10 := rfl
  have u2 : unitW 2 = 1 := rfl
  have e : wantsR W r = b2 (wantW W (3 * r + 0)) + b2 (wantW W (3 * r + 1)) + b2 (wantW W (3 * r + 2)) := by
    exact sumZ_3 (f := fun c => b2 (wantW W (3 * r + c)))
  rw [e]
  have t0 := b2_01 (p := wantW W (3 * r + 0))
  have t1 := b2_01 (p := wantW W (3 * r + 1))
  have t2 := b2_01 (p := wantW W (3 * r + 2))
  constructor
  · intro q
    by_cases w2 : wantW W (3 * r + 2)
    · have := d2.mp w2.1
      exact ⟨by omega, Or.inl w2.2⟩
    · by_cases w1 : wantW W (3 * r + 1)
      · have := d1.mp w1.1
        exact ⟨by omega, Or.inr (Or.inl ⟨by omega, w1.2⟩)⟩
      · by_cases w0 : wantW W (3 * r + 0)
        · have := d0.mp w0.1
          exact ⟨by omega, Or.inr (Or.inr ⟨by omega, w0.2⟩)⟩
        · rw [b2_f w0, b2_f w1, b2_f w2] at q
          exact absurd rfl q
  · rintro ⟨q0, q1 | ⟨q1, q2⟩ | ⟨q1, q2⟩⟩
    · have w : wantW W (3 * r + 2) := ⟨d2.mpr (by omega), q1⟩
      rw [b2_t w]; omega
    · have w : wantW W (3 * r + 1) := ⟨d1.mpr (by omega), q2⟩
      rw [b2_t w]; omega
    · have w : wantW W (3 * r + 0) := ⟨d0.mpr (by omega), q2⟩
      rw [b2_t w]; omega