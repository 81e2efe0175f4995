-- ===== PURE LAYER: load, the reference reads a service =====
section MSRV
variable {T : BT} {n st p : Int} {G0 G : GH} {W : WT} {s : Int}
theorem MB.up9 {G' : GH} {k : Nat} {v : Int} (b : MB st G0 W G) (e : G' = upG G 279 k v) : MB st G0 W G' :=
  ⟨⟨fun x a1 a2 a3 => by rw [e, up_na a3]; exact b.1.1 x a1 a2 a3, fun k hk => by rw [e, up_na (by omega)]; exact b.1.2 k hk⟩, by rw [e, up_na (by omega)]; exact b.2.1, by rw [e, up_na (by omega)]; exact b.2.2.1, by rw [e, up_na (by omega)]; exact b.2.2.2.1, b.2.2.2.2⟩
theorem repH_lo {s ins : Int} {i : Nat} (hs : 0 ≤ s) (hi : i < 132) : ∀ (k : Nat) (x : Int) (V : WT), 0 ≤ x → repH s ins k x V i = V i := by
  intro k
  induction k with
  | zero => intro x V _; rfl
  | succ k ih =>
    intro x V hx
    have e := ih (x + 1) (pu V ((132 + (9 * s)) + (1 + x)).toNat (servW V s (1 + (x - ins)))) (by omega)
    rw [pu_ne (by omega)] at e
    exact e
theorem reU_lo {V : WT} {s ah v : Int} (hs : 0 ≤ s) (hl : 0 ≤ servW V s 0) : reU V s ah v 5 = V 5 := by
  unfold reU
  rw [pu_ne (by omega)]
  exact repH_lo hs (by omega) _ _ _ hl
def MvP (T : BT) (n st p : Int) (G0 : GH) (s : Int) (Q : Int → GH → Prop) (x3 x4 : Int) (G5 : GH) : Prop := ∃ (k : Nat) (q : Int) (V B : WT), (x4 = 0 ∨ x4 = 1) ∧ p < q ∧ V 5 = s ∧ MB st G0 V G5 ∧ AtS T n G5 q ∧ G5 272 10 = q ∧ ¬ (q < n ∧ T q.toNat = 40) ∧ ¬ ((q < n ∧ T q.toNat = 41) ∧ 0 < x3 ∧ 1 - x4 = 0) ∧ kdT T n q ≠ 2 ∧ EndM T n st G0 p (pSvc T n s (k + 1) q x3 (1 - x4) B V) Q
def MvI (T : BT) (n st p : Int) (G0 : GH) (s : Int) (Q : Int → GH → Prop) (x3 x4 : Int) (G5 : GH) : Prop := ∃ (k : Nat) (q : Int) (V B : WT), (x4 = 0 ∨ x4 = 1) ∧ n - q < k ∧ p < q ∧ (0 ≤ x3 ∧ x3 ≤ 3) ∧ V 5 = s ∧ MB st G0 V G5 ∧ AtS T n G5 q ∧ (0 ≤ servW V s 0 ∧ servW V s 0 ≤ 8) ∧ (∀ i : Int, 0 ≤ i → i < x3 → (0 ≤ B i.toNat ∧ B i.toNat ≤ servW V s 0) ∧ G5 279 i.toNat = B i.toNat) ∧ EndM T n st G0 p (pSvc T n s k q x3 (1 - x4) B V) Q
end MSRV
