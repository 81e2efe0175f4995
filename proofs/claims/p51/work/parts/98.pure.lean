-- ===== what is left: the pure facts =====
theorem pure_all (L : Nat) (xs : Nat → Int32) : PureAll L xs := sorry
