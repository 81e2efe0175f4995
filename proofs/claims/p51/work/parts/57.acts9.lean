-- ===== PURE LAYER: borrow, the arm =====
theorem c_makeLoan {a0 : Nat} {G : GH} {Q : Int → GH → Prop} {k m n t b tm : Int} (hk : 0 ≤ k ∧ k < 30) (ht : G (a0 + 5) k.toNat = t) (hb : G (a0 + 3) (12 + k).toNat = b) (hn : G a0 8 = n) (hn2 : 0 ≤ n ∧ n < 12) (htm : G (a0 + 4) (k / 10).toNat = tm) (r1 : inR (t - m)) (r2 : inR (b + m))
    (h : ∀ G' : GH, (∀ x, x ≠ a0 → x ≠ a0 + 3 → ¬ (a0 + 5 ≤ x ∧ x ≤ a0 + 8) → G' x = G x) → (∀ i, i ≠ 8 → G' a0 i = G a0 i) → G' a0 8 = n + 1 → (∀ i, i ≠ k.toNat → G' (a0 + 5) i = G (a0 + 5) i) → G' (a0 + 5) k.toNat = t - m → (∀ i, i ≠ (12 + k).toNat → G' (a0 + 3) i = G (a0 + 3) i) → G' (a0 + 3) (12 + k).toNat = b + m →
      (∀ i, i ≠ n.toNat → G' (a0 + 6) i = G (a0 + 6) i ∧ G' (a0 + 7) i = G (a0 + 7) i ∧ G' (a0 + 8) i = G (a0 + 8) i) → (G' (a0 + 6) n.toNat = k ∧ G' (a0 + 7) n.toNat = m ∧ G' (a0 + 8) n.toNat = tm) → Q n G') : f_X8_makeLoan a0 k m G Q := by
  unfold f_X8_makeLoan
  rw [ht]
  refine ⟨hk, r1, fun G1 e1 => ⟨by omega, ?_⟩⟩
  have b1 : G1 (a0 + 3) (12 + k).toNat = b := by rw [e1, upG_na (by omega), hb]
  rw [b1]
  refine ⟨r2, fun G2 e2 => ?_⟩
  have n2 : G2 a0 8 = n := by rw [e2, upG_na (by omega), e1, upG_na (by omega), hn]
  rw [n2]
  refine ⟨hn2, fun G3 e3 => ?_⟩
  have n3 : G3 a0 8 = n := by rw [e3, upG_na (by omega), n2]
  rw [n3]
  refine ⟨hn2, fun G4 e4 => ⟨hk.1, by omega, ?_⟩⟩
  have n4 : G4 a0 8 = n := by rw [e4, upG_na (by omega), n3]
  have t4 : G4 (a0 + 4) (k / 10).toNat = tm := by rw [e4, upG_na (by omega), e3, upG_na (by omega), e2, upG_na (by omega), e1, upG_na (by omega), htm]
  rw [n4, t4]
  refine ⟨hn2, fun G5 e5 => ?_⟩
  have n5 : G5 a0 8 = n := by rw [e5, upG_na (by omega), n4]
  rw [n5]
  refine ⟨⟨by omega, by omega⟩, fun G6 e6 => ?_⟩
  have n6 : G6 a0 8 = n + 1 := by rw [e6, upG_same]
  rw [n6, show n + 1 - 1 = n by omega]
  refine ⟨⟨by omega, by omega⟩, h G6 (fun x x0 x1 x2 => ?_) (fun i hi => ?_) n6 (fun i hi => ?_) ?_ (fun i hi => ?_) ?_ (fun i hi => ⟨?_, ?_, ?_⟩) ⟨?_, ?_, ?_⟩⟩
  · rw [e6, up_na x0, e5, up_na (by omega), e4, up_na (by omega), e3, up_na (by omega), e2, up_na x1, e1, up_na (by omega)]
  · rw [e6, upG_nk hi, e5, up_na (by omega), e4, up_na (by omega), e3, up_na (by omega), e2, up_na (by omega), e1, up_na (by omega)]
  · rw [e6, up_na (by omega), e5, up_na (by omega), e4, up_na (by omega), e3, up_na (by omega), e2, up_na (by omega), e1, upG_nk hi]
  · rw [e6, up_na (by omega), e5, up_na (by omega), e4, up_na (by omega), e3, up_na (by omega), e2, up_na (by omega), e1, upG_same]
  · rw [e6, up_na (by omega), e5, up_na (by omega), e4, up_na (by omega), e3, up_na (by omega), e2, upG_nk hi, e1, up_na (by omega)]
  · rw [e6, up_na (by omega), e5, up_na (by omega), e4, up_na (by omega), e3, up_na (by omega), e2, upG_same]
  · rw [e6, up_na (by omega), e5, up_na (by omega), e4, up_na (by omega), e3, upG_nk hi, e2, up_na (by omega), e1, up_na (by omega)]
  · rw [e6, up_na (by omega), e5, up_na (by omega), e4, upG_nk hi, e3, up_na (by omega), e2, up_na (by omega), e1, up_na (by omega)]
  · rw [e6, up_na (by omega), e5, upG_nk hi, e4, up_na (by omega), e3, up_na (by omega), e2, up_na (by omega), e1, up_na (by omega)]
  · rw [e6, up_na (by omega), e5, up_na (by omega), e4, up_na (by omega), e3, upG_same]
  · rw [e6, up_na (by omega), e5, up_na (by omega), e4, upG_same]
  · rw [e6, up_na (by omega), e5, upG_same]
section A9
variable {j : Nat} {G : GH} {K : GH → Prop} {L : Nat} {xs : Nat → Int32} {i4 : Int}
end A9
