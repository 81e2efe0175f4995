-- ===== PURE LAYER: addHymn, addService =====
theorem c_lengthen {a0 : Nat} {G : GH} {Q : Int → GH → Prop} {s v len : Int} (hs : 0 ≤ s ∧ s < 16) (hl : G (a0 + 1) s.toNat = len) (hl2 : 0 ≤ len ∧ len ≤ 7) (h : ∀ G' : GH, (∀ x, x ≠ a0 + 1 → x ≠ a0 + 2 → G' x = G x) → (∀ k, k ≠ s.toNat → G' (a0 + 1) k = G (a0 + 1) k) → G' (a0 + 1) s.toNat = len + 1 → (∀ k, k ≠ ((s * 8) + len).toNat → G' (a0 + 2) k = G (a0 + 2) k) → G' (a0 + 2) ((s * 8) + len).toNat = v → Q (len + 1) G') : f_X6_lengthen a0 s v G Q := by
  unfold f_X6_lengthen
  rw [hl]
  refine ⟨hs, ⟨by omega, by omega⟩, fun G1 e1 => ?_⟩
  have l1 : G1 (a0 + 1) s.toNat = len := by rw [e1, upG_na (by omega), hl]
  rw [l1]
  refine ⟨⟨by omega, by omega⟩, fun G2 e2 => ?_⟩
  have l2 : G2 (a0 + 1) s.toNat = len + 1 := by rw [e2, upG_same]
  rw [l2]
  refine h G2 (fun x x1 x2 => by rw [e2, up_na x1, e1, up_na x2]) (fun k hk => by rw [e2, upG_nk hk, e1, upG_na (by omega)]) l2 (fun k hk => by rw [e2, upG_na (by omega), e1, upG_nk hk]) (by rw [e2, upG_na (by omega), e1, upG_same])
section A5
variable {j : Nat} {G : GH} {K : GH → Prop} {L : Nat} {xs : Nat → Int32} {i4 : Int}
end A5
