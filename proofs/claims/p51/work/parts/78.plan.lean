-- ===== PURE LAYER: what is hung when a service is hung, as functions of W =====
def nR (tf : Int) (W : WT) (s : Int) : Nat → (Int → Int)
  | 0 => fun _ => 0
  | r + 1 => if dueW W s (r : Int) ≠ -1 ∧ lackV 43 (shW tf W) (cntW tf W) (plusH (nR tf W s r) (dueW W s (r : Int)) 1) = 0 then plusH (nR tf W s r) (dueW W s (r : Int)) 1 else nR tf W s r
abbrev fitR (tf : Int) (W : WT) (s r : Int) : Prop := lackV 43 (shW tf W) (cntW tf W) (plusH (nR tf W s r.toNat) (dueW W s r) 1) = 0
abbrev tkR (tf : Int) (W : WT) (s r : Int) : Prop := dueW W s r ≠ -1 ∧ fitR tf W s r
abbrev outR (tf : Int) (W : WT) (s r : Int) : Prop := dueW W s r ≠ -1 ∧ ¬ fitR tf W s r
theorem nR_s {tf : Int} {W : WT} {s r : Int} (h : 0 ≤ r) : nR tf W s (r + 1).toNat = if tkR tf W s r then plusH (nR tf W s r.toNat) (dueW W s r) 1 else nR tf W s r.toNat := by
  have e : nR tf W s (r.toNat + 1) = if dueW W s ((r.toNat : Nat) : Int) ≠ -1 ∧ lackV 43 (shW tf W) (cntW tf W) (plusH (nR tf W s r.toNat) (dueW W s ((r.toNat : Nat) : Int)) 1) = 0 then plusH (nR tf W s r.toNat) (dueW W s ((r.toNat : Nat) : Int)) 1 else nR tf W s r.toNat := rfl
  rw [show (r + 1).toNat = r.toNat + 1 by omega, e, show ((r.toNat : Nat) : Int) = r by omega]
theorem nR_n {tf : Int} {W : WT} {s : Int} {r : Nat} : nR tf W s (r + 1) = if tkR tf W s (r : Int) then plusH (nR tf W s r) (dueW W s (r : Int)) 1 else nR tf W s r := rfl
def hyV (tf : Int) (W : WT) (s r : Int) : Int := if (0 ≤ r ∧ r < allRW W) ∧ tkR tf W s r then dueW W s r else -1
def rhV (tf : Int) (W : WT) (s x : Int) : Int := sumZ (fun r => b2 (tkR tf W s r)) x
def roV (tf : Int) (W : WT) (s x : Int) : Int := sumZ (fun r => b2 (outR tf W s r)) x
def foN (tf : Int) (W : WT) (s : Int) : Nat → Int
  | 0 => -1
  | k + 1 => if foN tf W s k ≠ -1 then foN tf W s k else if outR tf W s (k : Int) then (k : Int) else -1
theorem foN_s {tf : Int} {W : WT} {s r : Int} (h : 0 ≤ r) : foN tf W s (r + 1).toNat = if foN tf W s r.toNat ≠ -1 then foN tf W s r.toNat else if outR tf W s r then r else -1 := by
  have e : foN tf W s (r.toNat + 1) = if foN tf W s r.toNat ≠ -1 then foN tf W s r.toNat else if outR tf W s ((r.toNat : Nat) : Int) then ((r.toNat : Nat) : Int) else -1 := rfl
  rw [show (r + 1).toNat = r.toNat + 1 by omega, e, show ((r.toNat : Nat) : Int) = r by omega]
theorem foN_rng {tf : Int} {W : WT} {s : Int} : ∀ k : Nat, foN tf W s k = -1 ∨ (0 ≤ foN tf W s k ∧ foN tf W s k < (k : Int))
  | 0 => Or.inl rfl
  | k + 1 => by
    show (if foN tf W s k ≠ -1 then foN tf W s k else if outR tf W s (k : Int) then (k : Int) else -1) = -1 ∨ _
    have ih := foN_rng (tf := tf) (W := W) (s := s) k
    have e : foN tf W s (k + 1) = if foN tf W s k ≠ -1 then foN tf W s k else if outR tf W s (k : Int) then (k : Int) else -1 := rfl
    rw [e]
    by_cases c : foN tf W s k ≠ -1
    · rw [if_pos c]; omega
    · rw [if_neg c]
      split
      · right; omega
      · left; rfl
def ddH (hy : Int → Int) (p : Int) : Int := if hy (p / 3) = -1 then -1 else if hy (p / 3) < unitW (p % 3) then -1 else hy (p / 3) / unitW (p % 3) % 10
abbrev ddV (tf : Int) (W : WT) (s p : Int) : Int := ddH (hyV tf W s) p
/-- the least one from x on -/
def lst (P : Int → Prop) [DecidablePred P] : Nat → Int → Int
  | 0, x => x
  | n + 1, x => if P x then x else lst P n (x + 1)
theorem lst_spec {P : Int → Prop} [DecidablePred P] : ∀ (n : Nat) (x : Int), (∃ y, x ≤ y ∧ y < x + n ∧ P y) → P (lst P n x) ∧ (x ≤ lst P n x ∧ lst P n x < x + n) ∧ ∀ y, x ≤ y → y < lst P n x → ¬ P y
  | 0, x, h => by
    obtain ⟨y, h1, h2, _⟩ := h
    omega
  | n + 1, x, h => by
    by_cases c : P x
    · have e : lst P (n + 1) x = x := if_pos c
      rw [e]
      exact ⟨c, by omega, fun y h1 h2 => by omega⟩
    · have e : lst P (n + 1) x = lst P n (x + 1) := if_neg c
      rw [e]
      obtain ⟨y, h1, h2, h3⟩ := h
      have hy : y ≠ x := fun w => c (by rw [← w]; exact h3)
      obtain ⟨k1, k2, k3⟩ := lst_spec n (x + 1) ⟨y, by omega, by omega, h3⟩
      refine ⟨k1, by omega, fun z z0 z1 => ?_⟩
      by_cases ez : z = x
      · rw [ez]; exact c
      · exact k3 z (by omega) z1
abbrev okS (D : Int → Nat) (L n : Int → Int) (d s : Int) : Prop := 0 < L s ∧ inS (D s) d ∧ lackV 43 D (bump L s (-1)) (bump n d (-1)) = 0
def pkS (D : Int → Nat) (L n : Int → Int) (d : Int) : Int := lst (fun s => okS D L n d s) 43 0
def stP (tf : Int) (W : WT) (s : Int) : Nat → (Int → Int) × (Int → Int)
  | 0 => (cntW tf W, nR tf W s (allRW W).toNat)
  | p + 1 => if ddV tf W s (p : Int) = -1 then stP tf W s p else (bump (stP tf W s p).1 (pkS (shW tf W) (stP tf W s p).1 (stP tf W s p).2 (ddV tf W s (p : Int))) (-1), bump (stP tf W s p).2 (ddV tf W s (p : Int)) (-1))
abbrev soP (tf : Int) (W : WT) (s p : Int) : Int := pkS (shW tf W) (stP tf W s p.toNat).1 (stP tf W s p.toNat).2 (ddV tf W s p)
theorem stP_s {tf : Int} {W : WT} {s p : Int} (h : 0 ≤ p) : stP tf W s (p + 1).toNat = if ddV tf W s p = -1 then stP tf W s p.toNat else (bump (stP tf W s p.toNat).1 (soP tf W s p) (-1), bump (stP tf W s p.toNat).2 (ddV tf W s p) (-1)) := by
  have e : stP tf W s (p.toNat + 1) = if ddV tf W s ((p.toNat : Nat) : Int) = -1 then stP tf W s p.toNat else (bump (stP tf W s p.toNat).1 (pkS (shW tf W) (stP tf W s p.toNat).1 (stP tf W s p.toNat).2 (ddV tf W s ((p.toNat : Nat) : Int))) (-1), bump (stP tf W s p.toNat).2 (ddV tf W s ((p.toNat : Nat) : Int)) (-1)) := rfl
  rw [show (p + 1).toNat = p.toNat + 1 by omega, e, show ((p.toNat : Nat) : Int) = p by omega]
theorem stP_n {tf : Int} {W : WT} {s : Int} {p : Nat} : stP tf W s (p + 1) = if ddV tf W s (p : Int) = -1 then stP tf W s p else (bump (stP tf W s p).1 (soP tf W s (p : Int)) (-1), bump (stP tf W s p).2 (ddV tf W s (p : Int)) (-1)) := rfl
section PL
variable {tf : Int} {W : WT} {s j : Int}
theorem hyV_rng (h : WF j W) (hs : 0 ≤ s ∧ s < W 5) {r : Int} : hyV tf W s r = -1 ∨ (1 ≤ hyV tf W s r ∧ hyV tf W s r ≤ 999) := by
  unfold hyV
  by_cases c : (0 ≤ r ∧ r < allRW W) ∧ tkR tf W s r
  · rw [if_pos c]
    have := due_rng h hs c.1
    have := c.2.1
    omega
  · rw [if_neg c]; exact Or.inl rfl
theorem ddH_rng {hy : Int → Int} {p : Int} (h : hy (p / 3) = -1 ∨ (1 ≤ hy (p / 3) ∧ hy (p / 3) ≤ 999)) : -1 ≤ ddH hy p ∧ ddH hy p ≤ 9 := by
  unfold ddH
  by_cases c : hy (p / 3) = -1
  · rw [if_pos c]; omega
  · rw [if_neg c]
    by_cases c2 : hy (p / 3) < unitW (p % 3)
    · rw [if_pos c2]; omega
    · rw [if_neg c2]; omega
/-- the digits of a row -/
theorem ddH_row {hy : Int → Int} {r : Int} (h : hy r = -1 ∨ (1 ≤ hy r ∧ hy r ≤ 999)) {d : Int} (hd : 0 ≤ d) : b2 (ddH hy (3 * r) = d) + b2 (ddH hy (3 * r + 1) = d) + b2 (ddH hy (3 * r + 2) = d) = cntd (hy r) d := by
  have e0 : ddH hy (3 * r) = if hy r = -1 then -1 else if hy r < 100 then -1 else hy r / 100 % 10 := by
    unfold ddH
    rw [show 3 * r / 3 = r by omega, show 3 * r % 3 = 0 by omega]; rfl
  have e1 : ddH hy (3 * r + 1) = if hy r = -1 then -1 else if hy r < 10 then -1 else hy r / 10 % 10 := by
    unfold ddH
    rw [show (3 * r + 1) / 3 = r by omega, show (3 * r + 1) % 3 = 1 by omega]; rfl
  have e2 : ddH hy (3 * r + 2) = if hy r = -1 then -1 else if hy r < 1 then -1 else hy r / 1 % 10 := by
    unfold ddH
    rw [show (3 * r + 2) / 3 = r by omega, show (3 * r + 2) % 3 = 2 by omega]; rfl
  rw [e0, e1, e2]
  rcases h with c | c
  · rw [if_pos c, if_pos c, if_pos c, cntd_0 (by omega), b2_f (by omega)]; rfl
  · have hne : ¬ hy r = -1 := by omega
    rw [if_neg hne, if_neg hne, if_neg hne, if_neg (show ¬ hy r < 1 by omega)]
    unfold cntd
    have a2 : b2 (hy r / 1 % 10 = d) = b2 (0 < hy r ∧ hy r % 10 = d) := b2_iff (by omega)
    have a1 : b2 ((if hy r < 10 then (-1 : Int) else hy r / 10 % 10) = d) = b2 (0 < hy r / 10 ∧ hy r / 10 % 10 = d) := b2_iff (by
      by_cases q : hy r < 10
      · rw [if_pos q]; omega
      · rw [if_neg q]; omega)
    have a0 : b2 ((if hy r < 100 then (-1 : Int) else hy r / 100 % 10) = d) = b2 (0 < hy r / 10 / 10 ∧ hy r / 10 / 10 % 10 = d) := b2_iff (by
      by_cases q : hy r < 100
      · rw [if_pos q]; omega
      · rw [if_neg q]; omega)
    rw [a0, a1, a2]; omega
theorem nR_is (h : WF j W) (hs : 0 ≤ s ∧ s < W 5) {d : Int} (hd : 0 ≤ d) : ∀ r : Nat, (r : Int) ≤ allRW W → nR tf W s r d = sumZ (fun p => b2 (ddV tf W s p = d)) (3 * (r : Int)) ∧ 0 ≤ nR tf W s r d ∧ nR tf W s r d ≤ 3 * (r : Int)
  | 0, _ => ⟨rfl, Int.le_refl _, Int.le_refl _⟩
  | r + 1, hr => by
    obtain ⟨ih, i0, i1⟩ := nR_is h hs hd r (by omega)
    have k : b2 (ddV tf W s (3 * (r : Int)) = d) + b2 (ddV tf W s (3 * (r : Int) + 1) = d) + b2 (ddV tf W s (3 * (r : Int) + 2) = d) = cntd (hyV tf W s r) d := ddH_row (hy := hyV tf W s) (r := (r : Int)) (hyV_rng h hs) hd
    have e3 : sumZ (fun p => b2 (ddV tf W s p = d)) (3 * ((r + 1 : Nat) : Int)) = sumZ (fun p => b2 (ddV tf W s p = d)) (3 * (r : Int)) + cntd (hyV tf W s r) d := by
      rw [show 3 * ((r + 1 : Nat) : Int) = 3 * (r : Int) + 1 + 1 + 1 by omega, sumZ_s (by omega), sumZ_s (by omega), sumZ_s (by omega), show 3 * (r : Int) + 1 + 1 = 3 * (r : Int) + 2 by omega]
      omega
    have c3 : 0 ≤ cntd (hyV tf W s r) d ∧ cntd (hyV tf W s r) d ≤ 3 := by
      refine ⟨cntd_ge, ?_⟩
      have p0 := b2_le (p := ddV tf W s (3 * (r : Int)) = d)
      have p1 := b2_le (p := ddV tf W s (3 * (r : Int) + 1) = d)
      have p2 := b2_le (p := ddV tf W s (3 * (r : Int) + 2) = d)
      omega
    have en : nR tf W s (r + 1) d = nR tf W s r d + cntd (hyV tf W s r) d := by
      rw [nR_n]
      by_cases c : tkR tf W s (r : Int)
      · have eh : hyV tf W s r = dueW W s r := if_pos ⟨⟨by omega, by omega⟩, c⟩
        rw [if_pos c, eh]
        unfold plusH
        omega
      · have eh : hyV tf W s r = -1 := if_neg (fun w => c w.2)
        rw [if_neg c, eh, cntd_0 (by omega)]; omega
    rw [en, e3, ih]
    rw [ih] at i0 i1
    exact ⟨rfl, by omega, by omega⟩
theorem cnt43 (h : WF j W) (ht : -1 ≤ tf ∧ tf ≤ 9) : Lb (cntW tf W) := by
  intro x x0 x1
  by_cases c : x = 42
  · unfold cntW
    rw [if_pos c]
    split <;> omega
  · have e : cntW tf W x = cntW (-1) W x := by
      unfold cntW
      rw [if_neg c, if_neg c]
    have := cnt_rng h (s := x) ⟨x0, by omega⟩
    rw [e]; omega
theorem hall_zero {D : Int → Nat} {L : Int → Int} (lb : Lb L) : hall 43 D L (fun _ => 0) := by
  intro X hX
  have e : need (fun _ => 0) X = 0 := sumZ_zero (fun i _ _ => by
    show (if inS X i then (0 : Int) else 0) = 0
    split <;> rfl)
  rw [e]; exact (can_rng lb).1
theorem nR_hall (h : WF j W) (ht : -1 ≤ tf ∧ tf ≤ 9) : ∀ r : Nat, hall 43 (shW tf W) (cntW tf W) (nR tf W s r)
  | 0 => hall_zero (cnt43 h ht)
  | r + 1 => by
    have ih := nR_hall h ht r
    show hall 43 (shW tf W) (cntW tf W) (if dueW W s (r : Int) ≠ -1 ∧ lackV 43 (shW tf W) (cntW tf W) (plusH (nR tf W s r) (dueW W s (r : Int)) 1) = 0 then plusH (nR tf W s r) (dueW W s (r : Int)) 1 else nR tf W s r)
    split
    · rename_i c
      exact lack_hall.mp c.2
    · exact ih
/-- the cards that are left and the digits that are still wanted, at a place -/
def IVP (tf : Int) (W : WT) (s : Int) (p : Nat) : Prop := hall 43 (shW tf W) (stP tf W s p).1 (stP tf W s p).2 ∧ (∀ x, 0 ≤ x → x < 43 → 0 ≤ (stP tf W s p).1 x ∧ (stP tf W s p).1 x ≤ cntW tf W x) ∧ (∀ d, 0 ≤ d → d < 10 → (stP tf W s p).2 d + sumZ (fun q => b2 (ddV tf W s q = d)) (p : Int) = sumZ (fun q => b2 (ddV tf W s q = d)) (3 * allRW W)) ∧
  (∀ x, 0 ≤ x → x < 43 → (stP tf W s p).1 x + sumZ (fun q => b2 (ddV tf W s q ≠ -1 ∧ soP tf W s q = x)) (p : Int) = cntW tf W x)
theorem sumZ_le2 {f : Int → Int} {x y : Int} (h0 : 0 ≤ x) (hxy : x ≤ y) (h : ∀ i, 0 ≤ i → 0 ≤ f i) : sumZ f x ≤ sumZ f y := by
  rw [← sumZ_trunc h0 hxy]
  refine sumZ_mono (fun i i0 i1 => ?_)
  have := h i i0
  split <;> omega
theorem IVP.pos (h : WF j W) {p : Int} (hp : 0 ≤ p ∧ p < 3 * allRW W) (hd : 0 ≤ ddV tf W s p ∧ ddV tf W s p < 10) (I : IVP tf W s p.toNat) : 0 < (stP tf W s p.toNat).2 (ddV tf W s p) := by
  have k := I.2.2.1 (ddV tf W s p) hd.1 hd.2
  rw [show ((p.toNat : Nat) : Int) = p by omega] at k
  have m := sumZ_le2 (f := fun q => b2 (ddV tf W s q = ddV tf W s p)) (x := p + 1) (y := 3 * allRW W) (by omega) (by omega) (fun _ _ => b2_ge)
  rw [sumZ_s hp.1, b2_t rfl] at m
  omega
theorem IVP.pick (h : WF j W) (ht : -1 ≤ tf ∧ tf ≤ 9) {p : Int} (hp : 0 ≤ p ∧ p < 3 * allRW W) (hd : 0 ≤ ddV tf W s p ∧ ddV tf W s p < 10) (I : IVP tf W s p.toNat) : okS (shW tf W) (stP tf W s p.toNat).1 (stP tf W s p.toNat).2 (ddV tf W s p) (soP tf W s p) ∧ (0 ≤ soP tf W s p ∧ soP tf W s p < 43) ∧ ∀ y, 0 ≤ y → y < soP tf W s p → ¬ okS (shW tf W) (stP tf W s p.toNat).1 (stP tf W s p.toNat).2 (ddV tf W s p) y := by
  have pos := I.pos h hp hd
  obtain ⟨y, y0, y1, y2, y3⟩ := hall_pick (S := 43) (by omega) (fun x x0 x1 => (I.2.1 x x0 x1).1) (fun x _ _ => shW_lt) I.1 hd pos
  have k := lst_spec (P := fun x => okS (shW tf W) (stP tf W s p.toNat).1 (stP tf W s p.toNat).2 (ddV tf W s p) x) 43 0 ⟨y, y0.1, by omega, y1, y2, lack_hall.mpr y3⟩
  exact ⟨k.1, ⟨k.2.1.1, by have := k.2.1.2; show lst _ 43 0 < 43; omega⟩, k.2.2⟩
theorem stP_inv (h : WF j W) (hs : 0 ≤ s ∧ s < W 5) (ht : -1 ≤ tf ∧ tf ≤ 9) : ∀ p : Nat, (p : Int) ≤ 3 * allRW W → IVP tf W s p
  | 0, _ => by
    have al := h.allR
    have lb := cnt43 h ht
    refine ⟨nR_hall h ht _, fun x x0 x1 => ⟨(lb x x0 x1).1, Int.le_refl _⟩, fun d d0 d1 => ?_, fun x x0 x1 => ?_⟩
    · have k := (nR_is (tf := tf) h hs d0 (allRW W).toNat (by omega)).1
      rw [show (((allRW W).toNat : Nat) : Int) = allRW W by omega] at k
      show nR tf W s (allRW W).toNat d + 0 = _
      rw [k]; omega
    · show cntW tf W x + 0 = cntW tf W x
      omega
  | p + 1, hp => by
    have I := stP_inv h hs ht p (by omega)
    have al := h.allR
    have dr : -1 ≤ ddV tf W s (p : Int) ∧ ddV tf W s (p : Int) ≤ 9 := ddH_rng (hyV_rng h hs)
    have es := stP_n (tf := tf) (W := W) (s := s) (p := p)
    by_cases c : ddV tf W s (p : Int) = -1
    · rw [if_pos c] at es
      unfold IVP
      rw [es]
      refine ⟨I.1, I.2.1, fun d d0 d1 => ?_, fun x x0 x1 => ?_⟩
      · have k := I.2.2.1 d d0 d1
        rw [show ((p + 1 : Nat) : Int) = (p : Int) + 1 by omega, sumZ_s (by omega), b2_f (by omega)]; omega
      · have k := I.2.2.2 x x0 x1
        rw [show ((p + 1 : Nat) : Int) = (p : Int) + 1 by omega, sumZ_s (by omega), b2_f (fun w => w.1 c)]; omega
    · rw [if_neg c] at es
      have I' : IVP tf W s (p : Int).toNat := I
      obtain ⟨k1, k2, k3⟩ := I'.pick h ht (p := (p : Int)) ⟨by omega, by omega⟩ ⟨by omega, by omega⟩
      have k1 : okS (shW tf W) (stP tf W s p).1 (stP tf W s p).2 (ddV tf W s (p : Int)) (soP tf W s (p : Int)) := k1
      generalize hso : soP tf W s (p : Int) = y at es k1 k2
      unfold IVP
      rw [es]
      refine ⟨lack_hall.mp k1.2.2, fun x x0 x1 => ?_, fun d d0 d1 => ?_, fun x x0 x1 => ?_⟩
      · have a := I.2.1 x x0 x1
        show 0 ≤ bump (stP tf W s p).1 y (-1) x ∧ bump (stP tf W s p).1 y (-1) x ≤ cntW tf W x
        by_cases e : x = y
        · rw [e] at a ⊢
          rw [bump_eq]
          have := k1.1
          omega
        · rw [bump_ne e]; exact a
      · have k := I.2.2.1 d d0 d1
        rw [show ((p + 1 : Nat) : Int) = (p : Int) + 1 by omega, sumZ_s (by omega)]
        show bump (stP tf W s p).2 (ddV tf W s (p : Int)) (-1) d + _ = _
        by_cases e : d = ddV tf W s (p : Int)
        · rw [e] at k ⊢
          rw [bump_eq, b2_t rfl]; omega
        · rw [bump_ne e, b2_f (fun w => e w.symm)]; omega
      · have k := I.2.2.2 x x0 x1
        rw [show ((p + 1 : Nat) : Int) = (p : Int) + 1 by omega, sumZ_s (by omega)]
        show bump (stP tf W s p).1 y (-1) x + _ = _
        by_cases e : x = y
        · have t : b2 (ddV tf W s (p : Int) ≠ -1 ∧ soP tf W s (p : Int) = x) = 1 := b2_t ⟨c, by rw [hso]; exact e.symm⟩
          rw [t]
          rw [e] at k ⊢
          rw [bump_eq]; omega
        · have t : b2 (ddV tf W s (p : Int) ≠ -1 ∧ soP tf W s (p : Int) = x) = 0 := b2_f (fun w => e (by rw [← w.2, hso]))
          rw [t, bump_ne e]; omega
end PL
