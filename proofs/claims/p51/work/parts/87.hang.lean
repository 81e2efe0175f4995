-- ===== PURE LAYER: hang =====
section AH
variable {j : Nat} {G : GH} {K : GH → Prop} {L : Nat} {xs : Nat → Int32} {i4 : Int}
theorem hang_rep {W : WT} {s n : Int} {G1 G3 G8 : GH} (hW : WF n W) (hs : 0 ≤ s ∧ s < W 5) (r1 : RepS G1 1 W) (H : HangS G3 218 (hngW (-1) W s)) (F : PlanF G3 W s) (g0 : ∀ x, 2 ≤ x → x ≤ 14 → G8 x = G1 x) (g1 : ∀ k, k ≠ 7 → k ≠ 8 → k ≠ 9 → G8 1 k = G1 1 k) (v7 : G8 1 7 = W 9 + wkV (-1) W s) (v8 : G8 1 8 = W 10 + rhV (-1) W s (allRW W)) (v9 : G8 1 9 = W 11 + roV (-1) W s (allRW W)) (g15 : G8 15 0 = s)
    (c1 : ∀ i, i < 18 → G8 16 i = G3 219 i) (c2 : ∀ i, i < 54 → G8 17 i = G3 220 i) (c3 : ∀ i, i < 54 → G8 18 i = G3 221 i) (c4 : ∀ i, i < 54 → G8 19 i = G3 222 i) (c5 : ∀ i, i < 42 → G8 20 i = G3 223 i) : RepS G8 1 (hngW (-1) W s) := by
  have f := fun k (q : k < 276) (q7 : k ≠ 7) (q9 : k ≠ 9) (q10 : k ≠ 10) (q11 : k ≠ 11) => hng_low (tf := -1) (W := W) (s := s) q q7 q9 q10 q11
  have f0 := f 0 (by omega) (by omega) (by omega) (by omega) (by omega)
  have f1 := f 1 (by omega) (by omega) (by omega) (by omega) (by omega)
  have f2 := f 2 (by omega) (by omega) (by omega) (by omega) (by omega)
  have f3 := f 3 (by omega) (by omega) (by omega) (by omega) (by omega)
  have f4 := f 4 (by omega) (by omega) (by omega) (by omega) (by omega)
  have f5 := f 5 (by omega) (by omega) (by omega) (by omega) (by omega)
  have f6 := f 6 (by omega) (by omega) (by omega) (by omega) (by omega)
  have f8 := f 8 (by omega) (by omega) (by omega) (by omega) (by omega)
  have er : EqR 12 15 (hngW (-1) W s) W := hng_er.sub (by omega) (by omega)
  have ec : EqR 15 51 (hngW (-1) W s) W := hng_er.sub (by omega) (by omega)
  have ef : EqR 51 84 (hngW (-1) W s) W := hng_er.sub (by omega) (by omega)
  have el : EqR 84 132 (hngW (-1) W s) W := hng_er.sub (by omega) (by omega)
  have es : EqR 132 276 (hngW (-1) W s) W := hng_er.sub (by omega) (by omega)
  refine ⟨by rw [g1 0 (by omega) (by omega) (by omega), f0]; exact r1.bo, r1.ro_of hW f0 er (g0 _ (by omega) (by omega)), by rw [g1 2 (by omega) (by omega) (by omega), f2]; exact r1.sp, by rw [g0 _ (by omega) (by omega), f1]; exact r1.tu, by rw [g0 _ (by omega) (by omega), f3]; exact r1.ow, by rw [g0 _ (by omega) (by omega), f4]; exact r1.fr, by rw [g0 _ (by omega) (by omega), f6]; exact r1.lo,
    r1.ca_of hW f3 ec (g0 _ (by omega) (by omega)) (g0 _ (by omega) (by omega)), r1.ct_of hW f3 ec f6 el (g0 _ (by omega) (by omega)), r1.fd_of hW f4 ef (g0 _ (by omega) (by omega)) (g0 _ (by omega) (by omega)), r1.ln_of hW f6 el (g0 _ (by omega) (by omega)) (g0 _ (by omega) (by omega)) (g0 _ (by omega) (by omega)), by rw [g0 _ (by omega) (by omega), f5]; exact r1.se, r1.sv_of hW f5 es (g0 _ (by omega) (by omega)) (g0 _ (by omega) (by omega)), by rw [hng_7]; exact g15, ⟨fun b r b0 b1 r0 r2 => ?_, fun b i b0 b1 i0 i1 => ?_⟩, fun x x0 x1 => ?_,
    by rw [g1 6 (by omega) (by omega) (by omega), f8]; exact r1.he, by rw [hng_9]; exact v7, by rw [hng_10]; exact v8, by rw [hng_11]; exact v9⟩
  · have e : G8 (1 + 14 + 1) (6 * b + r).toNat = G3 (218 + 1) (6 * b + r).toNat := c1 _ (by omega)
    rw [e]; exact H.1 b r b0 b1 r0 r2
  · have e2 : G8 (1 + 14 + 2) (18 * b + i).toNat = G3 (218 + 2) (18 * b + i).toNat := c2 _ (by omega)
    have e3 : G8 (1 + 14 + 3) (18 * b + i).toNat = G3 (218 + 3) (18 * b + i).toNat := c3 _ (by omega)
    have e4 : G8 (1 + 14 + 4) (18 * b + i).toNat = G3 (218 + 4) (18 * b + i).toNat := c4 _ (by omega)
    rw [e2, e3, e4]; exact H.2 b i b0 b1 i0 i1
  · rw [hng_hg hW hs x0]
    exact (c5 _ (by omega)).trans (F.2 x x0 x1)
end AH
