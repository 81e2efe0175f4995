-- ===== PURE LAYER: the reading methods and their arms =====
/-- the reference's state is W, no front is thought of -/
def MV (G : GH) (W : WT) : Prop := G 273 = W ∧ G 272 17 = -1
theorem MV.th {G : GH} {W : WT} {t : Int} (m : MV G W) : MV (upG G 272 0 t) W := ⟨by rw [up_na (by decide)]; exact m.1, by rw [upG_nk (by decide)]; exact m.2⟩
theorem MV.of {j : Nat} {G G1 : GH} (h : Rel j G) (e : ∀ a, ownA a ∨ a = 272 → G1 a = G a) : MV G1 (G 273) := ⟨e 273 (by unfold ownA; omega), by rw [e 272 (Or.inr rfl)]; exact h.2.2.1⟩
theorem Rel.wf {j : Nat} {G : GH} (h : Rel j G) : WF (j : Int) (G 273) := h.1
theorem Rel.rp {j : Nat} {G : GH} (h : Rel j G) : RepS G 1 (G 273) := h.2.1
section MVS
variable {G : GH} {W : WT} {Q : Int → Prop} {Z : Int → GH → Prop} {j : Int}
end MVS
section ARMS
variable {j : Nat} {G : GH} {K : GH → Prop} {L : Nat} {xs : Nat → Int32} {i4 : Int}
def sizeV (G : GH) (i : Int) : Int := if i = 0 then G 273 0 else if i = 1 then allRW (G 273) else if i = 2 then G 273 1 else if i = 3 then G 273 2 else if i = 4 then G 273 3 else if i = 5 then G 273 4 else if i = 6 then G 273 5 else if i = 7 then G 273 6 else if i = 8 then G 273 7 else if i = 9 then ahW (G 273) else if i = 10 then G 273 8 else if i = 11 then G 273 9 else if i = 12 then G 273 10 else if i = 13 then G 273 11 else G 272 6
end ARMS
