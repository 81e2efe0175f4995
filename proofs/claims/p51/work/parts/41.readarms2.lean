-- ===== PURE LAYER: arms of the reading methods, on =====
section ARMS
variable {j : Nat} {G : GH} {K : GH → Prop} {L : Nat} {xs : Nat → Int32} {i4 : Int}
def sortN (c : Int) : Int := if c < 100 then c else (12 + c) - 100
theorem sortN_rng {n : Int} {W : WT} {c : Int} (hW : WF n W) (h : isCardW W c) : isSort W (sortN c) ∧ 0 ≤ sortN c ∧ sortN c < 42 := by
  have := hW.ow
  have := hW.fr
  unfold isCardW at h
  unfold isSort sortN
  split <;> omega
end ARMS
