-- ===== PURE LAYER: write, writeService =====
abbrev OTx : Type := Nat × (Nat → Int)
def psh (t : OTx) (b : Int) : OTx := (t.1 + 1, fun i => if i = t.1 then b else t.2 i)
def byW (W : WT) (p : Int) : Int := if plaW W p 0 = -1 then 46 else 48 + plaW W p 0
def rT (W : WT) (r : Int) (t : OTx) : Nat → OTx
  | 0 => t
  | c + 1 => psh (rT W r t c) (byW W (3 * r + (c : Int)))
def rwN (W : WT) (b : Int) (t : OTx) : Nat → OTx
  | 0 => t
  | x + 1 => rT W (frstW W b + (x : Int)) (if x = 0 then rwN W b t x else psh (rwN W b t x) 47) 3
def wrN (W : WT) : Nat → OTx
  | 0 => (0, fun _ => 0)
  | b + 1 => rwN W (b : Int) (if b = 0 then wrN W b else psh (wrN W b) 32) (rowW W (b : Int)).toNat
def nuT (h : Int) (t : OTx) : OTx := psh (if h < 10 then (if h < 100 then t else psh t (48 + h / 100)) else psh (if h < 100 then t else psh t (48 + h / 100)) (48 + h / 10 % 10)) (48 + h % 10)
def svN (W : WT) (s : Int) : Nat → OTx
  | 0 => (0, fun _ => 0)
  | k + 1 => nuT (servW W s (1 + (k : Int))) (if k = 0 then svN W s k else psh (svN W s k) 32)
def CO (G : GH) (t : OTx) : Prop := G 230 1 = (t.1 : Int) ∧ ∀ i, i < t.1 → G 231 i = t.2 i
def RO (G : GH) (t : OTx) : Prop := G 272 27 = (t.1 : Int) ∧ ∀ i, i < t.1 → G 284 i = t.2 i
section WRI
variable {G : GH} {t : OTx} {W : WT} {n : Int}
theorem rT_len {r : Int} : ∀ c : Nat, (rT W r t c).1 = t.1 + c
  | 0 => rfl
  | c + 1 => by
    have ih := rT_len (r := r) c
    show (rT W r t c).1 + 1 = t.1 + (c + 1)
    omega
theorem rT_s {r c : Int} (h : 0 ≤ c) : rT W r t (c + 1).toNat = psh (rT W r t c.toNat) (byW W (3 * r + c)) := by
  have e : rT W r t (c.toNat + 1) = psh (rT W r t c.toNat) (byW W (3 * r + ((c.toNat : Nat) : Int))) := rfl
  rw [show (c + 1).toNat = c.toNat + 1 by omega, e, show ((c.toNat : Nat) : Int) = c by omega]
theorem rwN_s {b x : Int} (h : 0 ≤ x) : rwN W b t (x + 1).toNat = rT W (frstW W b + x) (if x = 0 then rwN W b t x.toNat else psh (rwN W b t x.toNat) 47) 3 := by
  have e : rwN W b t (x.toNat + 1) = rT W (frstW W b + ((x.toNat : Nat) : Int)) (if x.toNat = 0 then rwN W b t x.toNat else psh (rwN W b t x.toNat) 47) 3 := rfl
  rw [show (x + 1).toNat = x.toNat + 1 by omega, e, show ((x.toNat : Nat) : Int) = x by omega]
  by_cases c : x = 0
  · rw [if_pos c, if_pos (by omega)]
  · rw [if_neg c, if_neg (by omega)]
theorem rwN_len {b : Int} : ∀ x : Nat, (rwN W b t x).1 ≤ t.1 + 4 * x
  | 0 => Nat.le_refl _
  | x + 1 => by
    have ih := rwN_len (b := b) x
    show (rT W (frstW W b + (x : Int)) (if x = 0 then rwN W b t x else psh (rwN W b t x) 47) 3).1 ≤ t.1 + 4 * (x + 1)
    rw [rT_len]
    by_cases c : x = 0
    · rw [if_pos c]; omega
    · rw [if_neg c]
      show (rwN W b t x).1 + 1 + 3 ≤ t.1 + 4 * (x + 1)
      omega
theorem wrN_s {b : Int} (h : 0 ≤ b) : wrN W (b + 1).toNat = rwN W b (if b = 0 then wrN W b.toNat else psh (wrN W b.toNat) 32) (rowW W b).toNat := by
  have e : wrN W (b.toNat + 1) = rwN W ((b.toNat : Nat) : Int) (if b.toNat = 0 then wrN W b.toNat else psh (wrN W b.toNat) 32) (rowW W ((b.toNat : Nat) : Int)).toNat := rfl
  rw [show (b + 1).toNat = b.toNat + 1 by omega, e, show ((b.toNat : Nat) : Int) = b by omega]
  by_cases c : b = 0
  · rw [if_pos c, if_pos (by omega)]
  · rw [if_neg c, if_neg (by omega)]
theorem wrN_len (hW : WF n W) : ∀ b : Nat, (b : Int) ≤ W 0 → (wrN W b).1 ≤ 25 * b
  | 0, _ => Nat.le_refl _
  | b + 1, hb => by
    have ih := wrN_len hW b (by omega)
    have rb := hW.ro (b : Int) (by omega) (by omega)
    show (rwN W (b : Int) (if b = 0 then wrN W b else psh (wrN W b) 32) (rowW W (b : Int)).toNat).1 ≤ 25 * (b + 1)
    have k := rwN_len (W := W) (b := (b : Int)) (t := if b = 0 then wrN W b else psh (wrN W b) 32) (rowW W (b : Int)).toNat
    by_cases c : b = 0
    · rw [if_pos c] at k ⊢; omega
    · rw [if_neg c] at k ⊢
      have k2 : (rwN W (b : Int) (psh (wrN W b) 32) (rowW W (b : Int)).toNat).1 ≤ ((wrN W b).1 + 1) + 4 * (rowW W (b : Int)).toNat := k
      omega
theorem byW_rng (hW : WF n W) {p : Int} (p0 : 0 ≤ p) (p1 : p < 54) : 46 ≤ byW W p ∧ byW W p ≤ 57 := by
  unfold byW
  have := (hW.pl p p0 p1).1
  split <;> omega
end WRI
theorem Rel.outs {j : Nat} {G G' : GH} (h : Rel j G) (e : ∀ a, ownA a → a ≠ 230 → a ≠ 231 → a ≠ 284 → G' a = G a) (ek : ∀ k, ownK k → k ≠ 27 → G' 272 k = G 272 k) (o : OutR G') : Rel (j + 1) G' := by
  obtain ⟨h1, h2, h3, h4, h5, h6, h7, h8⟩ := h
  unfold ownA at e
  unfold ownK at ek
  have hj : (j : Int) ≤ ((j + 1 : Nat) : Int) := by omega
  have e273 : G' 273 = G 273 := e 273 (by omega) (by omega) (by omega) (by omega)
  exact ⟨by rw [e273]; exact h1.mono hj, by rw [e273]; exact h2.congr (fun x x1 x2 => e x (by omega) (by omega) (by omega) (by omega)), by rw [ek 17 (by omega) (by omega)]; exact h3, h4.congr hj (fun a q => e a (by omega) (by omega) (by omega) (by omega)) (ek 6 (by omega) (by omega)), h5.congr hj (fun a q => e a (by omega) (by omega) (by omega) (by omega)), h6.congr (fun a q => e a (by omega) (by omega) (by omega) (by omega)) (ek 8 (by omega) (by omega)), h7.congr (e 41 (by omega) (by omega) (by omega) (by omega)) (ek 12 (by omega) (by omega)) (ek 15 (by omega) (by omega)), o⟩
theorem outR_of {G : GH} {t : OTx} (c : CO G t) (r : RO G t) (hl : t.1 ≤ 80) : OutR G := ⟨r.1.trans c.1.symm, by rw [c.1]; omega, fun i i0 i1 => by
  rw [c.1] at i1
  rw [c.2 _ (by omega), r.2 _ (by omega)]⟩
section AWR
variable {j : Nat} {G : GH} {K : GH → Prop} {L : Nat} {xs : Nat → Int32} {i4 : Int}
end AWR
