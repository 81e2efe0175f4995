-- ===== PURE LAYER: write, writeService =====
abbrev OTx : Type := Nat × (Nat → Int)
def psh (t : OTx) (b : Int) : OTx := (t.1 + 1, fun i => if i = t.1 then b else t.2 i)
def byW (W : WT) (p : Int) : Int := if plaW W p 0 = -1 then 46 else 48 + plaW W p 0
def rT (W : WT) (r : Int) (t : OTx) : Nat → OTx
  | 0 => t
  | c + 1 => psh (rT W r t c) (byW W (3 * r + (c : Int)))
def rwN (W : WT) (b : Int) (t : OTx) : Nat → OTx
  | 0 => t
  | x + 1 => rT W (frstW W b + (x : Int)) (if x = 0 then rwN W b t x else psh (rwN W b t x) 47) 3
def wrN (W : WT) : Nat → OTx
  | 0 => (0, fun _ => 0)
  | b + 1 => rwN W (b : Int) (if b = 0 then wrN W b else psh (wrN W b) 32) (rowW W (b : Int)).toNat
def nuT (h : Int) (t : OTx) : OTx := psh (if h < 10 then (if h < 100 then t else psh t (48 + h / 100)) else psh (if h < 100 then t else psh t (48 + h / 100)) (48 + h / 10 % 10)) (48 + h % 10)
def svN (W : WT) (s : Int) : Nat → OTx
  | 0 => (0, fun _ => 0)
  | k + 1 => nuT (servW W s (1 + (k : Int))) (if k = 0 then svN W s k else psh (svN W s k) 32)
def CO (G : GH) (t : OTx) : Prop := G 230 1 = (t.1 : Int) ∧ ∀ i, i < t.1 → G 231 i = t.2 i
def RO (G : GH) (t : OTx) : Prop := G 272 27 = (t.1 : Int) ∧ ∀ i, i < t.1 → G 284 i = t.2 i
section WRI
variable {G : GH} {t : OTx} {W : WT} {n : Int}
theorem c_put {Q : GH → Prop} {b : Int} (hc : CO G t) (hl : t.1 < 80) (h : ∀ G' : GH, (∀ x, x ≠ 230 → x ≠ 231 → G' x = G x) → CO G' (psh t b) → Q G') : f_X3_put b G Q := by
  obtain ⟨c1, c2⟩ := hc
  unfold f_X3_put
  rw [c1]
  refine ⟨fun w => by omega, fun w => ⟨⟨by omega, w⟩, fun G1 e1 => ?_⟩⟩
  have d1 : G1 230 1 = (t.1 : Int) := by rw [e1, up_na (by omega)]; exact c1
  rw [d1]
  refine ⟨⟨by omega, by omega⟩, fun G2 e2 => h G2 (fun x x0 x1 => by rw [e2, up_na x0, e1, up_na x1]) ⟨?_, fun i hi => ?_⟩⟩
  · rw [e2, upG_same]
    show (t.1 : Int) + 1 = ((t.1 + 1 : Nat) : Int)
    omega
  · have hi : i < t.1 + 1 := hi
    show G2 231 i = if i = t.1 then b else t.2 i
    rw [e2, up_na (by omega), e1]
    by_cases c : i = t.1
    · rw [if_pos c, c, Int.toNat_natCast, upG_same]
    · rw [if_neg c, upG_nk (by rw [Int.toNat_natCast]; exact c)]
      exact c2 i (by omega)
theorem m_says {Q : GH → Prop} {b : Int} (hc : RO G t) (hl : t.1 < 120) (h : ∀ G' : GH, (∀ x, x ≠ 272 → x ≠ 284 → G' x = G x) → (∀ k, k ≠ 27 → G' 272 k = G 272 k) → RO G' (psh t b) → Q G') : f_X10_says b G Q := by
  obtain ⟨c1, c2⟩ := hc
  unfold f_X10_says
  rw [c1]
  refine ⟨⟨by omega, by omega⟩, fun G1 e1 => ?_⟩
  have d1 : G1 272 27 = (t.1 : Int) := by rw [e1, up_na (by omega)]; exact c1
  rw [d1]
  refine ⟨⟨by omega, by omega⟩, fun G2 e2 => h G2 (fun x x0 x1 => by rw [e2, up_na x0, e1, up_na x1]) (fun k hk => by rw [e2, upG_nk hk, e1, up_na (by omega)]) ⟨?_, fun i hi => ?_⟩⟩
  · rw [e2, upG_same]
    show (t.1 : Int) + 1 = ((t.1 + 1 : Nat) : Int)
    omega
  · have hi : i < t.1 + 1 := hi
    show G2 284 i = if i = t.1 then b else t.2 i
    rw [e2, up_na (by omega), e1]
    by_cases c : i = t.1
    · rw [if_pos c, c, Int.toNat_natCast, upG_same]
    · rw [if_neg c, upG_nk (by rw [Int.toNat_natCast]; exact c)]
      exact c2 i (by omega)
theorem rT_len {r : Int} : ∀ c : Nat, (rT W r t c).1 = t.1 + c
  | 0 => rfl
  | c + 1 => by
    have ih := rT_len (r := r) c
    show (rT W r t c).1 + 1 = t.1 + (c + 1)
    omega
theorem rT_s {r c : Int} (h : 0 ≤ c) : rT W r t (c + 1).toNat = psh (rT W r t c.toNat) (byW W (3 * r + c)) := by
  have e : rT W r t (c.toNat + 1) = psh (rT W r t c.toNat) (byW W (3 * r + ((c.toNat : Nat) : Int))) := rfl
  rw [show (c + 1).toNat = c.toNat + 1 by omega, e, show ((c.toNat : Nat) : Int) = c by omega]
theorem rwN_s {b x : Int} (h : 0 ≤ x) : rwN W b t (x + 1).toNat = rT W (frstW W b + x) (if x = 0 then rwN W b t x.toNat else psh (rwN W b t x.toNat) 47) 3 := by
  have e : rwN W b t (x.toNat + 1) = rT W (frstW W b + ((x.toNat : Nat) : Int)) (if x.toNat = 0 then rwN W b t x.toNat else psh (rwN W b t x.toNat) 47) 3 := rfl
  rw [show (x + 1).toNat = x.toNat + 1 by omega, e, show ((x.toNat : Nat) : Int) = x by omega]
  by_cases c : x = 0
  · rw [if_pos c, if_pos (by omega)]
  · rw [if_neg c, if_neg (by omega)]
theorem rwN_len {b : Int} : ∀ x : Nat, (rwN W b t x).1 ≤ t.1 + 4 * x
  | 0 => Nat.le_refl _
  | x + 1 => by
    have ih := rwN_len (b := b) x
    show (rT W (frstW W b + (x : Int)) (if x = 0 then rwN W b t x else psh (rwN W b t x) 47) 3).1 ≤ t.1 + 4 * (x + 1)
    rw [rT_len]
    by_cases c : x = 0
    · rw [if_pos c]; omega
    · rw [if_neg c]
      show (rwN W b t x).1 + 1 + 3 ≤ t.1 + 4 * (x + 1)
      omega
theorem wrN_s {b : Int} (h : 0 ≤ b) : wrN W (b + 1).toNat = rwN W b (if b = 0 then wrN W b.toNat else psh (wrN W b.toNat) 32) (rowW W b).toNat := by
  have e : wrN W (b.toNat + 1) = rwN W ((b.toNat : Nat) : Int) (if b.toNat = 0 then wrN W b.toNat else psh (wrN W b.toNat) 32) (rowW W ((b.toNat : Nat) : Int)).toNat := rfl
  rw [show (b + 1).toNat = b.toNat + 1 by omega, e, show ((b.toNat : Nat) : Int) = b by omega]
  by_cases c : b = 0
  · rw [if_pos c, if_pos (by omega)]
  · rw [if_neg c, if_neg (by omega)]
theorem wrN_len (hW : WF n W) : ∀ b : Nat, (b : Int) ≤ W 0 → (wrN W b).1 ≤ 25 * b
  | 0, _ => Nat.le_refl _
  | b + 1, hb => by
    have ih := wrN_len hW b (by omega)
    have rb := hW.ro (b : Int) (by omega) (by omega)
    show (rwN W (b : Int) (if b = 0 then wrN W b else psh (wrN W b) 32) (rowW W (b : Int)).toNat).1 ≤ 25 * (b + 1)
    have k := rwN_len (W := W) (b := (b : Int)) (t := if b = 0 then wrN W b else psh (wrN W b) 32) (rowW W (b : Int)).toNat
    by_cases c : b = 0
    · rw [if_pos c] at k ⊢; omega
    · rw [if_neg c] at k ⊢
      have k2 : (rwN W (b : Int) (psh (wrN W b) 32) (rowW W (b : Int)).toNat).1 ≤ ((wrN W b).1 + 1) + 4 * (rowW W (b : Int)).toNat := k
      omega
theorem byW_rng (hW : WF n W) {p : Int} (p0 : 0 ≤ p) (p1 : p < 54) : 46 ≤ byW W p ∧ byW W p ≤ 57 := by
  unfold byW
  have := (hW.pl p p0 p1).1
  split <;> omega
theorem c_putRow {Q : GH → Prop} {b x : Int} (hW : WF n W) (hH : HangS G 15 W) (b0 : 0 ≤ b) (b1 : b < W 0) (x0 : 0 ≤ x) (x1 : x < rowW W b) (hc : CO G t) (hl : t.1 ≤ 77) (h : ∀ G' : GH, (∀ y, y ≠ 230 → y ≠ 231 → G' y = G y) → CO G' (rT W (frstW W b + x) t 3) → Q G') : f_X3_putRow 15 ((b * 6) + x) G Q := by
  have bo := hW.bo
  have rb := hW.ro b b0 b1
  have fr := hW.frst b0 (by omega)
  have fs := frst_s (W := W) b0
  have fr1 := hW.frst (b := b + 1) (by omega) (by omega)
  have al := hW.allR
  unfold f_X3_putRow
  refine up_loop (fun c G1 => (∀ y, y ≠ 230 → y ≠ 231 → G1 y = G y) ∧ CO G1 (rT W (frstW W b + x) t c.toNat)) 0 3 (by omega) ⟨fun _ _ _ => rfl, hc⟩ (fun k c G1 c0 c1 hI kk => ?_)
  obtain ⟨o1, i1⟩ := hI
  have ln := rT_len (W := W) (r := frstW W b + x) (t := t) c.toNat
  refine ⟨fun w => ?_, fun w => ⟨⟨by omega, by omega⟩, ?_⟩⟩
  · rw [show c = 3 by omega] at i1
    exact h G1 o1 i1
  · have dg : G1 17 (((b * 6) + x) * 3 + c).toNat = plaW W (3 * (frstW W b + x) + c) 0 := by
      rw [o1 17 (by omega) (by omega)]
      have z := ((hH.2 b (3 * x + c) b0 (by omega) (by omega) (by omega)).1 ⟨b1, by omega⟩).1
      rw [show (((b * 6) + x) * 3 + c).toNat = (18 * b + (3 * x + c)).toNat by omega, show 3 * (frstW W b + x) + c = 3 * frstW W b + (3 * x + c) by omega]
      exact z
    have es := rT_s (W := W) (r := frstW W b + x) (t := t) c0
    have pr := hW.pl (3 * (frstW W b + x) + c) (by omega) (by omega)
    refine joinI1 (P := fun v => v = byW W (3 * (frstW W b + x) + c)) (fun v hv => ?_) (fun jj hj => ?_)
    · rw [hv]
      exact c_put i1 (by omega) (fun G2 o2 c2 => kk G2 w ⟨fun y y0 y1 => by rw [o2 y y0 y1]; exact o1 y y0 y1, by rw [es]; exact c2⟩)
    · show (G1 17 (((b * 6) + x) * 3 + c).toNat ≠ -1 → inR (48 + G1 17 (((b * 6) + x) * 3 + c).toNat) ∧ jj (48 + G1 17 (((b * 6) + x) * 3 + c).toNat)) ∧ (G1 17 (((b * 6) + x) * 3 + c).toNat = -1 → jj 46)
      rw [dg]
      unfold byW at hj
      refine ⟨fun q => ⟨⟨by omega, by omega⟩, hj _ (if_neg q).symm⟩, fun q => hj _ (if_pos q).symm⟩
theorem m_saysRow {Q : GH → Prop} {r : Int} (hW : WF n W) (hw : G 273 = W) (r0 : 0 ≤ r) (r1 : r < 18) (hc : RO G t) (hl : t.1 ≤ 100) (h : ∀ G' : GH, (∀ y, y ≠ 272 → y ≠ 284 → G' y = G y) → (∀ k, k ≠ 27 → G' 272 k = G 272 k) → RO G' (rT W r t 3) → Q G') : f_X10_saysRow r G Q := by
  unfold f_X10_saysRow
  refine up_loop (fun c G1 => (∀ y, y ≠ 272 → y ≠ 284 → G1 y = G y) ∧ (∀ k, k ≠ 27 → G1 272 k = G 272 k) ∧ RO G1 (rT W r t c.toNat)) 0 3 (by omega) ⟨fun _ _ _ => rfl, fun _ _ => rfl, hc⟩ (fun k c G1 c0 c1 hI kk => ?_)
  obtain ⟨o1, p1, i1⟩ := hI
  have ln := rT_len (W := W) (r := r) (t := t) c.toNat
  have w1 : G1 273 = W := by rw [o1 273 (by omega) (by omega)]; exact hw
  refine ⟨fun w => ?_, fun w => ⟨⟨by omega, by omega⟩, p10_hangs (by omega) ?_⟩⟩
  · rw [show c = 3 by omega] at i1
    exact h G1 o1 p1 i1
  · have es := rT_s (W := W) (r := r) (t := t) c0
    have pr := hW.pl (3 * r + c) (by omega) (by omega)
    rw [w1]
    refine joinI1 (P := fun v => v = byW W (3 * r + c)) (fun v hv => ?_) (fun jj hj => ?_)
    · rw [hv]
      exact m_says i1 (by omega) (fun G2 o2 p2 c2 => kk G2 w ⟨fun y y0 y1 => by rw [o2 y y0 y1]; exact o1 y y0 y1, fun k hk => by rw [p2 k hk]; exact p1 k hk, by rw [es]; exact c2⟩)
    · unfold byW at hj
      refine ⟨fun q => ?_, fun q => p10_placeAt (by omega) (by omega) ⟨⟨by omega, by omega⟩, ⟨by show -2147483648 ≤ 48 + plaW W (3 * r + c) 0; omega, by show 48 + plaW W (3 * r + c) 0 ≤ 2147483647; omega⟩, ?_⟩⟩
      · have q2 : plaW W (3 * r + c) 0 = -1 := Classical.byContradiction fun w9 => b2_eq0 q w9
        exact hj _ (if_pos q2).symm
      · exact hj _ (if_neg (b2_ne0 q)).symm
theorem c_write {Q : Int → GH → Prop} (hW : WF n W) (hR : RepS G 1 W) (h : ∀ G' : GH, (∀ y, y ≠ 230 → y ≠ 231 → G' y = G y) → CO G' (wrN W (W 0).toNat) → Q ((wrN W (W 0).toNat).1 : Int) G') : f_X9_write G Q := by
  have bo := hW.bo
  intro G1 e1
  refine up_loop (fun b G2 => (∀ y, y ≠ 230 → y ≠ 231 → G2 y = G y) ∧ CO G2 (wrN W b.toNat)) 0 (W 0) (by omega) ⟨fun y y0 _ => by rw [e1, up_na y0], by rw [e1, upG_same]; rfl, fun i hi => by
    have hi : i < 0 := hi
    omega⟩ (fun k b G2 b0 b1 hI kk => ?_)
  obtain ⟨o2, i2⟩ := hI
  have rp : ∀ G' : GH, (∀ y, y ≠ 230 → y ≠ 231 → G' y = G y) → RepS G' 1 W := fun G' o => hR.congr (fun x x0 x1 => o x (by omega) (by omega))
  have e10 : G2 1 0 = W 0 := (rp G2 o2).bo
  rw [e10]
  refine ⟨fun c => ?_, fun c => ?_⟩
  · rw [show b = W 0 by omega] at i2
    rw [i2.1]; exact h G2 o2 i2
  · have rb := hW.ro b b0 c
    have lb := wrN_len hW b.toNat (by omega)
    have fs := frst_s (W := W) b0
    have es := wrN_s (W := W) b0
    refine joinI1 (P := fun G4 => (∀ y, y ≠ 230 → y ≠ 231 → G4 y = G y) ∧ CO G4 (if b = 0 then wrN W b.toNat else psh (wrN W b.toNat) 32)) (fun G4 hP => ?_) (fun jj hj => ⟨fun w => hj G2 ⟨o2, by rw [if_pos (by omega)]; exact i2⟩, fun w => c_put i2 (by omega) (fun G3 o3 c3 => hj G3 ⟨fun y y0 y1 => by rw [o3 y y0 y1]; exact o2 y y0 y1, by rw [if_neg (by omega)]; exact c3⟩)⟩)
    obtain ⟨o4, i4⟩ := hP
    have l4 : (if b = 0 then wrN W b.toNat else psh (wrN W b.toNat) 32).1 ≤ 25 * b.toNat + 1 := by
      by_cases w : b = 0
      · rw [if_pos w]; omega
      · rw [if_neg w]
        show (wrN W b.toNat).1 + 1 ≤ _
        omega
    generalize (if b = 0 then wrN W b.toNat else psh (wrN W b.toNat) 32) = t0 at i4 l4 es
    refine up_loop (fun x G5 => (∀ y, y ≠ 230 → y ≠ 231 → G5 y = G y) ∧ CO G5 (rwN W b t0 x.toNat)) 0 (rowW W b) (by omega) ⟨o4, i4⟩ (fun k2 x G5 x0 x1 hI2 kk2 => ⟨⟨b0, by omega⟩, ?_⟩)
    obtain ⟨o5, i5⟩ := hI2
    have lx := rwN_len (W := W) (b := b) (t := t0) x.toNat
    have exs := rwN_s (W := W) (b := b) (t := t0) x0
    have g2 : G5 2 b.toNat = rowW W b := (rp G5 o5).ro b b0 c
    rw [g2]
    refine ⟨fun c2 => kk G5 c ⟨o5, ?_⟩, fun c2 => ?_⟩
    · rw [es, ← show x = rowW W b by omega]; exact i5
    · refine joinI1 (P := fun G7 => (∀ y, y ≠ 230 → y ≠ 231 → G7 y = G y) ∧ CO G7 (if x = 0 then rwN W b t0 x.toNat else psh (rwN W b t0 x.toNat) 47)) (fun G7 hP => ?_) (fun jj hj => ⟨fun w => hj G5 ⟨o5, by rw [if_pos (by omega)]; exact i5⟩, fun w => c_put i5 (by omega) (fun G6 o6 c6 => hj G6 ⟨fun y y0 y1 => by rw [o6 y y0 y1]; exact o5 y y0 y1, by rw [if_neg (by omega)]; exact c6⟩)⟩)
      obtain ⟨o7, i7⟩ := hP
      refine ⟨⟨by omega, by omega⟩, c_putRow hW (rp G7 o7).hs b0 c x0 c2 i7 ?_ (fun G8 o8 c8 => kk2 G8 c2 ⟨fun y y0 y1 => by rw [o8 y y0 y1]; exact o7 y y0 y1, by rw [exs]; exact c8⟩)⟩
      by_cases w : x = 0
      · rw [if_pos w]; omega
      · rw [if_neg w]
        show (rwN W b t0 x.toNat).1 + 1 ≤ 77
        omega
theorem m_write {Q : Int → GH → Prop} (hW : WF n W) (hw : G 273 = W) (h : ∀ G' : GH, (∀ y, y ≠ 272 → y ≠ 284 → G' y = G y) → (∀ k, k ≠ 27 → k ≠ 0 → G' 272 k = G 272 k) → RO G' (wrN W (W 0).toNat) → Q ((wrN W (W 0).toNat).1 : Int) G') : f_X10_write G Q := by
  have bo := hW.bo
  have al := hW.allR
  intro G0 e0 G1 e1
  refine up_loop (fun b G2 => (∀ y, y ≠ 272 → y ≠ 284 → G2 y = G y) ∧ (∀ k, k ≠ 27 → k ≠ 0 → G2 272 k = G 272 k) ∧ RO G2 (wrN W b.toNat)) 0 (W 0) (by omega) ⟨fun y y0 _ => by rw [e1, up_na y0, e0, up_na y0], fun k k0 k1 => by rw [e1, upG_nk k0, e0, upG_nk k1], by rw [e1, upG_same]; rfl, fun i hi => by
    have hi : i < 0 := hi
    omega⟩ (fun k b G2 b0 b1 hI kk => ?_)
  obtain ⟨o2, p2, i2⟩ := hI
  have rp : ∀ G' : GH, (∀ y, y ≠ 272 → y ≠ 284 → G' y = G y) → G' 273 = W := fun G' o => by rw [o 273 (by omega) (by omega)]; exact hw
  rw [rp G2 o2]
  refine ⟨fun c => ?_, fun c => ?_⟩
  · rw [show b = W 0 by omega] at i2
    rw [i2.1]; exact h G2 o2 p2 i2
  · have rb := hW.ro b b0 c
    have lb := wrN_len hW b.toNat (by omega)
    have fs := frst_s (W := W) b0
    have fr := hW.frst b0 (by omega)
    have fr1 := hW.frst (b := b + 1) (by omega) (by omega)
    have es := wrN_s (W := W) b0
    refine joinI1 (P := fun G4 => (∀ y, y ≠ 272 → y ≠ 284 → G4 y = G y) ∧ (∀ k, k ≠ 27 → k ≠ 0 → G4 272 k = G 272 k) ∧ RO G4 (if b = 0 then wrN W b.toNat else psh (wrN W b.toNat) 32)) (fun G4 hP => ?_) (fun jj hj => ⟨fun w => hj G2 ⟨o2, p2, by rw [if_pos (by omega)]; exact i2⟩, fun w => m_says i2 (by omega) (fun G3 o3 p3 c3 => hj G3 ⟨fun y y0 y1 => by rw [o3 y y0 y1]; exact o2 y y0 y1, fun k k0 k1 => by rw [p3 k k0]; exact p2 k k0 k1, by rw [if_neg (by omega)]; exact c3⟩)⟩)
    obtain ⟨o4, p4, i4⟩ := hP
    have l4 : (if b = 0 then wrN W b.toNat else psh (wrN W b.toNat) 32).1 ≤ 25 * b.toNat + 1 := by
      by_cases w : b = 0
      · rw [if_pos w]; omega
      · rw [if_neg w]
        show (wrN W b.toNat).1 + 1 ≤ _
        omega
    generalize (if b = 0 then wrN W b.toNat else psh (wrN W b.toNat) 32) = t0 at i4 l4 es
    refine up_loop (fun x G5 => (∀ y, y ≠ 272 → y ≠ 284 → G5 y = G y) ∧ (∀ k, k ≠ 27 → k ≠ 0 → G5 272 k = G 272 k) ∧ RO G5 (rwN W b t0 x.toNat)) 0 (rowW W b) (by omega) ⟨o4, p4, i4⟩ (fun k2 x G5 x0 x1 hI2 kk2 => ⟨⟨by omega, by omega⟩, ?_⟩)
    obtain ⟨o5, p5, i5⟩ := hI2
    have lx := rwN_len (W := W) (b := b) (t := t0) x.toNat
    have exs := rwN_s (W := W) (b := b) (t := t0) x0
    rw [rp G5 o5]
    show (rowW W b ≤ x → _) ∧ (x < rowW W b → _)
    refine ⟨fun c2 => kk G5 c ⟨o5, p5, ?_⟩, fun c2 => ?_⟩
    · rw [es, ← show x = rowW W b by omega]; exact i5
    · refine joinI1 (P := fun G7 => (∀ y, y ≠ 272 → y ≠ 284 → G7 y = G y) ∧ (∀ k, k ≠ 27 → k ≠ 0 → G7 272 k = G 272 k) ∧ RO G7 (if x = 0 then rwN W b t0 x.toNat else psh (rwN W b t0 x.toNat) 47)) (fun G7 hP => ?_) (fun jj hj => ⟨fun w => hj G5 ⟨o5, p5, by rw [if_pos (by omega)]; exact i5⟩, fun w => m_says i5 (by omega) (fun G6 o6 p6 c6 => hj G6 ⟨fun y y0 y1 => by rw [o6 y y0 y1]; exact o5 y y0 y1, fun k k0 k1 => by rw [p6 k k0]; exact p5 k k0 k1, by rw [if_neg (by omega)]; exact c6⟩)⟩)
      obtain ⟨o7, p7, i7⟩ := hP
      have l7 : Low G7 W := fun k _ _ => by rw [rp G7 o7]
      refine l_firstRow l7 hW ⟨b0, by omega⟩ ⟨⟨by omega, by omega⟩, m_saysRow hW (rp G7 o7) (by omega) (by omega) i7 ?_ (fun G8 o8 p8 c8 => kk2 G8 c2 ⟨fun y y0 y1 => by rw [o8 y y0 y1]; exact o7 y y0 y1, fun k k0 k1 => by rw [p8 k k0]; exact p7 k k0 k1, by rw [exs]; exact c8⟩)⟩
      by_cases w : x = 0
      · rw [if_pos w]; omega
      · rw [if_neg w]
        show (rwN W b t0 x.toNat).1 + 1 ≤ 100
        omega
end WRI
theorem Rel.outs {j : Nat} {G G' : GH} (h : Rel j G) (e : ∀ a, ownA a → a ≠ 230 → a ≠ 231 → a ≠ 284 → G' a = G a) (ek : ∀ k, ownK k → k ≠ 27 → G' 272 k = G 272 k) (o : OutR G') : Rel (j + 1) G' := by
  obtain ⟨h1, h2, h3, h4, h5, h6, h7, h8⟩ := h
  unfold ownA at e
  unfold ownK at ek
  have hj : (j : Int) ≤ ((j + 1 : Nat) : Int) := by omega
  have e273 : G' 273 = G 273 := e 273 (by omega) (by omega) (by omega) (by omega)
  exact ⟨by rw [e273]; exact h1.mono hj, by rw [e273]; exact h2.congr (fun x x1 x2 => e x (by omega) (by omega) (by omega) (by omega)), by rw [ek 17 (by omega) (by omega)]; exact h3, h4.congr hj (fun a q => e a (by omega) (by omega) (by omega) (by omega)) (ek 6 (by omega) (by omega)), h5.congr hj (fun a q => e a (by omega) (by omega) (by omega) (by omega)), h6.congr (fun a q => e a (by omega) (by omega) (by omega) (by omega)) (ek 8 (by omega) (by omega)), h7.congr (e 41 (by omega) (by omega) (by omega) (by omega)) (ek 12 (by omega) (by omega)) (ek 15 (by omega) (by omega)), o⟩
theorem outR_of {G : GH} {t : OTx} (c : CO G t) (r : RO G t) (hl : t.1 ≤ 80) : OutR G := ⟨r.1.trans c.1.symm, by rw [c.1]; omega, fun i i0 i1 => by
  rw [c.1] at i1
  rw [c.2 _ (by omega), r.2 _ (by omega)]⟩
section AWR
variable {j : Nat} {G : GH} {K : GH → Prop} {L : Nat} {xs : Nat → Int32} {i4 : Int}
theorem arm_42 (h : Rel j G) (hK : ∀ G', Rel (j + 1) G' → K G') : f_law_42 L xs i4 G K := by
  have hW := h.wf
  have hR := h.rp
  have bo := hW.bo
  show f_X9_write G (fun r1 G1 => f_X10_write G1 (tail0 K r1))
  refine c_write hW hR (fun G1 o1 c1 => m_write hW (by rw [o1 273 (by omega) (by omega)]) (fun G2 o2 p2 c2 => tail0_ok rfl (hK _ ?_)))
  have lb := wrN_len hW (G 273 0).toNat (by omega)
  refine h.outs (fun a ha a0 a1 a2 => by
    unfold ownA at ha
    rw [o2 a (by omega) a2, o1 a a0 a1]) (fun k hk k0 => by
    unfold ownK at hk
    rw [p2 k k0 (by omega), o1 272 (by omega) (by omega)]) (outR_of ⟨by rw [o2 230 (by omega) (by omega)]; exact c1.1, fun i hi => by rw [o2 231 (by omega) (by omega)]; exact c1.2 i hi⟩ c2 (by omega))
end AWR
