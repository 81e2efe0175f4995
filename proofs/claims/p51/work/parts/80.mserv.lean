-- ===== PURE LAYER: the reference hangs a service =====
def wk1 (a b : Int) : Int := if a = b then 0 else b2 (a ≠ -1) + b2 (b ≠ -1)
theorem wk1_rng {a b : Int} : 0 ≤ wk1 a b ∧ wk1 a b ≤ 2 := by
  unfold wk1
  have p := b2_01 (p := a ≠ -1)
  have q := b2_01 (p := b ≠ -1)
  split <;> omega
def plV (tf : Int) (W : WT) (s p h : Int) : Int := if ddV tf W s p = -1 then -1 else if h = 0 then ddV tf W s p else if h = 1 then soP tf W s p else wayW tf W (soP tf W s p) (ddV tf W s p)
theorem plV_0 {tf : Int} {W : WT} {s p : Int} : plV tf W s p 0 = ddV tf W s p := by
  unfold plV
  by_cases c : ddV tf W s p = -1
  · rw [if_pos c]; exact c.symm
  · rw [if_neg c, if_pos rfl]
def wkV (tf : Int) (W : WT) (s : Int) : Int := sumZ (fun p => wk1 (plaW W p 0) (ddV tf W s p)) 54
theorem wkV_rng {tf : Int} {W : WT} {s x : Int} (h0 : 0 ≤ x) : 0 ≤ sumZ (fun p => wk1 (plaW W p 0) (ddV tf W s p)) x ∧ sumZ (fun p => wk1 (plaW W p 0) (ddV tf W s p)) x ≤ 2 * x := ⟨sumZ_ge (fun _ _ _ => wk1_rng.1), sumZ_le h0 (fun _ _ _ => wk1_rng.2)⟩
def hngW (tf : Int) (W : WT) (s : Int) : WT := fun k => if k = 7 then s else if k = 9 then W 9 + wkV tf W s else if k = 10 then W 10 + rhV tf W s (allRW W) else if k = 11 then W 11 + roV tf W s (allRW W) else if k < 276 then W k else if k < 438 then plV tf W s (((k : Int) - 276) / 3) (((k : Int) - 276) % 3) else if k < 456 then hyV tf W s ((k : Int) - 438) else W k
section MS
variable {tf : Int} {W : WT} {s j : Int} {G : GH}
theorem ddV_out {p : Int} (hp : 3 * allRW W ≤ p) : ddV tf W s p = -1 := by
  have e : hyV tf W s (p / 3) = -1 := by
    unfold hyV
    rw [if_neg (fun w => by have := w.1.2; omega)]
  show ddH (hyV tf W s) p = -1
  unfold ddH
  rw [if_pos e]
end MS
