-- ===== PURE LAYER: would, bestBuy =====
theorem c_countCards2 {G : GH} {h9 : Nat} {Q : Int → Prop} (hq : Q (sumZ (fun p => b2 (G (h9 + 2) p.toNat ≠ -1)) 54)) : f_X0_countCards h9 G Q := by
  unfold f_X0_countCards
  refine cnt_loop (fun p => G (h9 + 2) p.toNat ≠ -1) 54 ⟨by omega, by omega⟩ (fun k acc x h0 h1 ha he ht hf => ⟨fun c => ?_, fun c => ⟨⟨h0, c⟩, fun c1 => ?_, fun c1 => ⟨⟨by omega, by omega⟩, ht c c1⟩⟩⟩)
  · rw [he (by omega)]; exact hq
  · have := hf c (fun q => q c1); rw [Int.add_zero] at this; exact this
theorem hng_ah {W : WT} {tf s : Int} : ahW (hngW tf W s) = sumZ (fun p => b2 (ddV tf W s p ≠ -1)) 54 := sumZ_congr (fun p p0 p1 => by
  rw [hng_pla p0 p1 (by omega) (by omega), plV_0])
def woV (W : WT) (s w : Int) : Int := if w = 0 then rhV (-1) W s (allRW W) else if w = 1 then roV (-1) W s (allRW W) else if w = 2 then wkV (-1) W s else if w = 3 then ahW (hngW (-1) W s) else if w = 4 then tuW (hngW (-1) W s) else if w = 5 then baW (hngW (-1) W s) else boW (hngW (-1) W s)
theorem wo_cases {A0 A1 A2 A3 A4 A5 A6 : Prop} {w : Int} (hw : 0 ≤ w ∧ w ≤ 6) (h6 : w = 6 → A6) (h0 : w = 0 → A0) (h1 : w = 1 → A1) (h2 : w = 2 → A2) (h3 : w = 3 → A3) (h4 : w = 4 → A4) (h5 : w = 5 → A5) : ((w < 0 ∨ 5 < w) → A6) ∧ ((w = 0 → A0) ∧ ((w = 1 → A1) ∧ ((w = 2 → A2) ∧ ((w = 3 → A3) ∧ ((w = 4 → A4) ∧ (w = 5 → A5)))))) :=
  ⟨fun c => h6 (by omega), h0, h1, h2, h3, h4, h5⟩
section AW1
variable {j : Nat} {G : GH} {K : GH → Prop} {L : Nat} {xs : Nat → Int32} {i4 : Int}
-- bestBuy
def bbN (W : WT) (s : Int) : Nat → Int × Int
  | 0 => (-1, rhV (-1) W s (allRW W))
  | k + 1 => if (bbN W s k).2 < rhV (k : Int) W s (allRW W) then ((k : Int), rhV (k : Int) W s (allRW W)) else bbN W s k
theorem bbN_s {W : WT} {s x : Int} (h : 0 ≤ x) : bbN W s (x + 1).toNat = if (bbN W s x.toNat).2 < rhV x W s (allRW W) then (x, rhV x W s (allRW W)) else bbN W s x.toNat := by
  have e : bbN W s (x.toNat + 1) = if (bbN W s x.toNat).2 < rhV ((x.toNat : Nat) : Int) W s (allRW W) then (((x.toNat : Nat) : Int), rhV ((x.toNat : Nat) : Int) W s (allRW W)) else bbN W s x.toNat := rfl
  rw [show (x + 1).toNat = x.toNat + 1 by omega, e, show ((x.toNat : Nat) : Int) = x by omega]
end AW1
