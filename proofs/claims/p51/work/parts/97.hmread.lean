-- ===== PURE LAYER: load, the reference reads cards, friends, boards =====
abbrev BW (W : WT) : Prop := (0 ≤ W 3 ∧ W 3 ≤ 12) ∧ (0 ≤ W 4 ∧ W 4 ≤ 3) ∧ (0 ≤ W 5 ∧ W 5 ≤ 16)
abbrev FrM (G0 G : GH) : Prop := (∀ x, x ≠ 272 → x ≠ 273 → x ≠ 279 → G x = G0 x) ∧ ∀ k, ¬ (9 ≤ k ∧ k ≤ 14) → G 272 k = G0 272 k
def MB (st : Int) (G0 : GH) (W : WT) (G : GH) : Prop := FrM G0 G ∧ G 272 12 = 0 ∧ G 272 14 = st ∧ G 273 = W ∧ BW W
def MF (st : Int) (G0 G : GH) (e a : Int) : Prop := FrM G0 G ∧ G 272 14 = st ∧ G 272 12 = e ∧ G 272 13 = a
def EndM (T : BT) (n st : Int) (G0 : GH) (p : Int) (r : PR) (Q : Int → GH → Prop) : Prop := (∀ p' W' G', r = .inr (p', W') → p < p' → MB st G0 W' G' → AtS T n G' p' → Q 1 G') ∧ (∀ e a G', r = .inl (e, a) → MF st G0 G' e a → Q 0 G')
theorem up_pu {G : GH} {a k : Nat} {v : Int} : upG G a k v a = pu (G a) k v := funext fun i => by
  by_cases c : i = k
  · rw [c, upG_same, pu_at]
  · rw [upG_nk c, pu_ne c]
section MREAD
variable {T : BT} {n st p : Int} {G0 G : GH} {W : WT}
theorem MB.rf (r0 : RfS T n G0) (b : MB st G0 W G) : RfS T n G := by
  refine ⟨by rw [b.1.2 8 (by omega)]; exact r0.1, fun i hi => by rw [b.1.1 278 (by omega) (by omega) (by omega)]; exact r0.2 i hi⟩
theorem MB.to {G' : GH} (b : MB st G0 W G) (o : ∀ x, x ≠ 272 → G' x = G x) (q : ∀ k, ¬ (9 ≤ k ∧ k ≤ 11) → G' 272 k = G 272 k) : MB st G0 W G' :=
  ⟨⟨fun x a1 a2 a3 => by rw [o x a1]; exact b.1.1 x a1 a2 a3, fun k hk => by rw [q k (by omega)]; exact b.1.2 k hk⟩, by rw [q 12 (by omega)]; exact b.2.1, by rw [q 14 (by omega)]; exact b.2.2.1, by rw [o 273 (by omega)]; exact b.2.2.2.1, b.2.2.2.2⟩
theorem MB.up {G' : GH} {k : Nat} {v : Int} (b : MB st G0 W G) (e : G' = upG G 273 k v) (h : BW (pu W k v)) : MB st G0 (pu W k v) G' :=
  ⟨⟨fun x a1 a2 a3 => by rw [e, up_na a2]; exact b.1.1 x a1 a2 a3, fun k hk => by rw [e, up_na (by omega)]; exact b.1.2 k hk⟩, by rw [e, up_na (by omega)]; exact b.2.1, by rw [e, up_na (by omega)]; exact b.2.2.1, by rw [e, up_pu, b.2.2.2.1], h⟩
theorem AtS.to {G' : GH} {k : Nat} {v : Int} (a : AtS T n G p) (e : G' = upG G 273 k v) : AtS T n G' p := by
  unfold AtS
  rw [e, up_na (by omega)]; exact a
end MREAD
