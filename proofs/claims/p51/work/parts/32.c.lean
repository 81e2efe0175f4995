-- ===== the start: written by wip/p51/mkmain.py =====
def neB (i : Nat) : Nat := [0, 244, 255, 266, 278, 293, 310, 327, 344, 357, 377, 398, 420, 445, 472].getD i 0
theorem st_ne0 : ∀ j, j < 15 → (preF.drop (neB j)).take j = (List.range j).map fun i => Cond.not (Cond.eq (strTm i) (strTm j)) := by decide +kernel
theorem st_ne1 {i j : Nat} (hj : j < 15) (h : i < j) : Cond.not (Cond.eq (strTm i) (strTm j)) ∈ preF := blk_in (f := fun i => Cond.not (Cond.eq (strTm i) (strTm j))) (st_ne0 j hj) h
theorem st_ne : ∀ i, i < 15 → ∀ j, j < 15 → i ≠ j → Cond.not (Cond.eq (strTm i) (strTm j)) ∈ preF ∨ Cond.not (Cond.eq (strTm j) (strTm i)) ∈ preF := by
  intro i hi j hj h
  rcases Nat.lt_or_gt_of_ne h with h | h
  · exact Or.inl (st_ne1 hj h)
  · exact Or.inr (st_ne1 hi h)
