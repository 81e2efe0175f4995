-- ===== PURE LAYER: writeService =====
section WS
variable {G : GH} {t : OTx} {W : WT} {n : Int}
theorem nuT_len {h : Int} : (nuT h t).1 ≤ t.1 + 3 := by
  unfold nuT
  show (if h < 10 then (if h < 100 then t else psh t (48 + h / 100)) else psh (if h < 100 then t else psh t (48 + h / 100)) (48 + h / 10 % 10)).1 + 1 ≤ t.1 + 3
  by_cases c : h < 10
  · rw [if_pos c, if_pos (by omega)]; omega
  · rw [if_neg c]
    by_cases c2 : h < 100
    · rw [if_pos c2]
      show t.1 + 1 + 1 ≤ t.1 + 3
      omega
    · rw [if_neg c2]
      show t.1 + 1 + 1 + 1 ≤ t.1 + 3
      omega
theorem svN_s {s k : Int} (h : 0 ≤ k) : svN W s (k + 1).toNat = nuT (servW W s (1 + k)) (if k = 0 then svN W s k.toNat else psh (svN W s k.toNat) 32) := by
  have e : svN W s (k.toNat + 1) = nuT (servW W s (1 + ((k.toNat : Nat) : Int))) (if k.toNat = 0 then svN W s k.toNat else psh (svN W s k.toNat) 32) := rfl
  rw [show (k + 1).toNat = k.toNat + 1 by omega, e, show ((k.toNat : Nat) : Int) = k by omega]
  by_cases c : k = 0
  · rw [if_pos c, if_pos (by omega)]
  · rw [if_neg c, if_neg (by omega)]
theorem svN_len {s : Int} : ∀ k : Nat, (svN W s k).1 ≤ 4 * k
  | 0 => Nat.le_refl _
  | k + 1 => by
    have ih := svN_len (s := s) k
    have a := nuT_len (h := servW W s (1 + (k : Int))) (t := if k = 0 then svN W s k else psh (svN W s k) 32)
    show (nuT (servW W s (1 + (k : Int))) (if k = 0 then svN W s k else psh (svN W s k) 32)).1 ≤ 4 * (k + 1)
    by_cases c : k = 0
    · rw [if_pos c] at a ⊢; omega
    · rw [if_neg c] at a ⊢
      have a2 : (nuT (servW W s (1 + (k : Int))) (psh (svN W s k) 32)).1 ≤ ((svN W s k).1 + 1) + 3 := a
      omega
end WS
section AWS
variable {j : Nat} {G : GH} {K : GH → Prop} {L : Nat} {xs : Nat → Int32} {i4 : Int}
end AWS
