-- ===== PURE LAYER: load, the reference reads the whole text; the arm of load =====
section MLOAD
variable {T : BT} {n st p : Int} {G0 G : GH} {W : WT}
def EndQ (G0 : GH) (r : PL) (Q : Int → GH → Prop) : Prop := (∀ (W' : WT) (G' : GH) (st' : Int), r = .inr W' → MB st' G0 W' G' → Q 1 G') ∧ (∀ (e a st' : Int) (G' : GH), r = .inl (e, a, st') → MF st' G0 G' e a → Q 0 G')
end MLOAD
section ARML
variable {j : Nat} {G : GH} {K : GH → Prop} {L : Nat} {xs : Nat → Int32} {i4 : Int}
end ARML
