-- ===== PURE LAYER: what the class's State shows; sums over its places are the reference's =====
theorem sumN_split {f : Int → Int} {m : Nat} : ∀ n : Nat, sumN f (m + n) = sumN f m + sumN (fun i => f ((m : Int) + i)) n
  | 0 => by simp [sumN]
  | n + 1 => by
    show sumN f (m + n) + f ((m + n : Nat) : Int) = sumN f m + (sumN (fun i => f ((m : Int) + i)) n + f ((m : Int) + (n : Int)))
    rw [sumN_split n, Int.natCast_add]; omega
theorem sumN_zero {f : Int → Int} (n : Nat) (h : ∀ i : Int, 0 ≤ i → i < n → f i = 0) : sumN f n = 0 := by
  have h1 : ∀ n : Nat, sumN (fun _ => (0 : Int)) n = 0 := by
    intro n
    induction n with
    | zero => rfl
    | succ n ih => show sumN (fun _ => (0 : Int)) n + 0 = 0; omega
  rw [sumN_congr n h]; exact h1 n
theorem sumN_cut {f : Int → Int} {m K : Nat} (hm : m ≤ K) (h : ∀ i : Int, m ≤ i → i < K → f i = 0) : sumN f K = sumN f m := by
  obtain ⟨n, rfl⟩ := Nat.exists_eq_add_of_le hm
  rw [sumN_split n, sumN_zero n (fun i h0 h1 => h _ (by omega) (by omega))]
  omega
theorem blk3 {K n0 n1 n2 : Nat} {f f' : Int → Int} (l0 : n0 ≤ K) (l1 : n1 ≤ K) (l2 : n2 ≤ K)
    (h0 : ∀ i : Int, 0 ≤ i → i < K → (i < n0 → f i = f' i) ∧ (n0 ≤ i → f i = 0))
    (h1 : ∀ i : Int, 0 ≤ i → i < K → (i < n1 → f (K + i) = f' (n0 + i)) ∧ (n1 ≤ i → f (K + i) = 0))
    (h2 : ∀ i : Int, 0 ≤ i → i < K → (i < n2 → f (K + K + i) = f' (n0 + n1 + i)) ∧ (n2 ≤ i → f (K + K + i) = 0))
    (hz : ∀ p : Int, n0 + n1 + n2 ≤ p → p < K + K + K → f' p = 0) : sumN f (K + K + K) = sumN f' (K + K + K) := by
  rw [sumN_cut (f := f') (m := n0 + n1 + n2) (by omega) (fun i q1 q2 => hz i (by omega) (by omega)), sumN_split K, sumN_split K, sumN_split n2, sumN_split n1]
  have e0 : sumN f K = sumN f' n0 := by
    rw [sumN_cut l0 (fun i q1 q2 => (h0 i (by omega) q2).2 q1)]
    exact sumN_congr n0 (fun i q1 q2 => (h0 i q1 (by omega)).1 q2)
  have e1 : sumN (fun i => f ((K : Int) + i)) K = sumN (fun i => f' ((n0 : Int) + i)) n1 := by
    rw [sumN_cut l1 (fun i q1 q2 => (h1 i (by omega) q2).2 q1)]
    exact sumN_congr n1 (fun i q1 q2 => (h1 i q1 (by omega)).1 q2)
  have e2 : sumN (fun i => f (((K + K : Nat) : Int) + i)) K = sumN (fun i => f' (((n0 + n1 : Nat) : Int) + i)) n2 := by
    rw [sumN_cut l2 (fun i q1 q2 => ?_)]
    · refine sumN_congr n2 (fun i q1 q2 => ?_)
      have := (h2 i q1 (by omega)).1 q2
      rw [Int.natCast_add, Int.natCast_add]; exact this
    · have := (h2 i (by omega) q2).2 q1
      rw [Int.natCast_add]; exact this
  rw [e0, e1, e2]
/-- a place i of the board b is in use (m: 3 places or 1 row) -/
def actv (W : WT) (m b i : Int) : Prop := b < W 0 ∧ i < m * rowW W b
theorem blk_sum {j : Int} {W : WT} (h : WF j W) {m : Int} (hm : m = 1 ∨ m = 3) {f f' : Int → Int}
    (hf : ∀ b i : Int, 0 ≤ b → b < 3 → 0 ≤ i → i < 6 * m → (actv W m b i → f (6 * m * b + i) = f' (m * frstW W b + i)) ∧ (¬ actv W m b i → f (6 * m * b + i) = 0))
    (hz : ∀ p, m * allRW W ≤ p → p < 18 * m → f' p = 0) : sumZ f (18 * m) = sumZ f' (18 * m) := by
  have hb := h.bo
  have f0 := frst_0 (W := W); have f1 := frst_1 (W := W); have f2 := frst_2 (W := W); have f3 := frst_3 (W := W)
  have q0 := h.ro 0 (by omega) (by omega)
  have e : W 0 = 1 ∨ W 0 = 2 ∨ W 0 = 3 := by omega
  have r1 : 1 < W 0 → 1 ≤ rowW W 1 ∧ rowW W 1 ≤ 6 := fun q => h.ro 1 (by omega) q
  have r2 : 2 < W 0 → 1 ≤ rowW W 2 ∧ rowW W 2 ≤ 6 := fun q => h.ro 2 (by omega) q
  have g0 := fun i => hf 0 i (by omega) (by omega)
  have g1 := fun i => hf 1 i (by omega) (by omega)
  have g2 := fun i => hf 2 i (by omega) (by omega)
  unfold allRW at hz
  unfold actv at g0 g1 g2
  have key : ∀ M : Nat, (M = 1 ∨ M = 3) → m = (M : Int) → sumZ f (18 * m) = sumZ f' (18 * m) := by
    intro M hM hmM
    subst hmM
    have big : ∀ n1 n2 : Nat, (n1 : Int) = (if 1 < W 0 then (M : Int) * rowW W 1 else 0) → (n2 : Int) = (if 2 < W 0 then (M : Int) * rowW W 2 else 0) → sumN f (6 * M + 6 * M + 6 * M) = sumN f' (6 * M + 6 * M + 6 * M) := by
      intro n1 n2 hn1 hn2
      rcases hM with rfl | rfl
      · refine blk3 (n0 := (rowW W 0).toNat) (n1 := n1) (n2 := n2) (by omega) (by split at hn1 <;> omega) (by split at hn2 <;> omega) (fun i k0 k1 => ?_) (fun i k0 k1 => ?_) (fun i k0 k1 => ?_) (fun p k0 k1 => ?_)
        · have := g0 i k0 (by omega)
          rw [f0] at this
          refine ⟨fun c => ?_, fun c => ?_⟩
          · have := this.1 ⟨by omega, by omega⟩
            simpa using this
          · have := this.2 (by omega)
            simpa using this
        · have := g1 i k0 (by omega)
          rw [f1] at this
          refine ⟨fun c => ?_, fun c => ?_⟩
          · split at hn1
            · have := this.1 ⟨by omega, by omega⟩
              have e9 : ((1 : Nat) : Int) * rowW W 0 + i = (((rowW W 0).toNat : Nat) : Int) + i := by omega
              rw [e9] at this
              simpa using this
            · omega
          · have := this.2 (by split at hn1 <;> omega)
            simpa using this
        · have := g2 i k0 (by omega)
          rw [f2] at this
          refine ⟨fun c => ?_, fun c => ?_⟩
          · split at hn2
            · rename_i c2
              rw [if_pos (by omega)] at hn1
              have := this.1 ⟨by omega, by omega⟩
              have e9 : ((1 : Nat) : Int) * (rowW W 0 + rowW W 1) + i = (((rowW W 0).toNat : Nat) : Int) + (n1 : Int) + i := by omega
              rw [e9] at this
              simpa using this
            · omega
          · have := this.2 (by split at hn2 <;> omega)
            simpa using this
        · refine hz p ?_ (by omega)
          rcases e with e | e | e
          · rw [e] at hn1 hn2 ⊢; rw [if_neg (by omega)] at hn1 hn2; rw [f1]; omega
          · rw [e] at hn1 hn2 ⊢; rw [if_pos (by omega)] at hn1; rw [if_neg (by omega)] at hn2; rw [f2]; omega
          · rw [e] at hn1 hn2 ⊢; rw [if_pos (by omega)] at hn1 hn2; rw [f3]; omega
      · refine blk3 (n0 := (3 * rowW W 0).toNat) (n1 := n1) (n2 := n2) (by omega) (by split at hn1 <;> omega) (by split at hn2 <;> omega) (fun i k0 k1 => ?_) (fun i k0 k1 => ?_) (fun i k0 k1 => ?_) (fun p k0 k1 => ?_)
        · have := g0 i k0 (by omega)
          rw [f0] at this
          refine ⟨fun c => ?_, fun c => ?_⟩
          · have := this.1 ⟨by omega, by omega⟩
            simpa using this
          · have := this.2 (by omega)
            simpa using this
        · have := g1 i k0 (by omega)
          rw [f1] at this
          refine ⟨fun c => ?_, fun c => ?_⟩
          · split at hn1
            · have := this.1 ⟨by omega, by omega⟩
              have e9 : ((3 : Nat) : Int) * rowW W 0 + i = (((3 * rowW W 0).toNat : Nat) : Int) + i := by omega
              rw [e9] at this
              simpa using this
            · omega
          · have := this.2 (by split at hn1 <;> omega)
            simpa using this
        · have := g2 i k0 (by omega)
          rw [f2] at this
          refine ⟨fun c => ?_, fun c => ?_⟩
          · split at hn2
            · rename_i c2
              rw [if_pos (by omega)] at hn1
              have := this.1 ⟨by omega, by omega⟩
              have e9 : ((3 : Nat) : Int) * (rowW W 0 + rowW W 1) + i = (((3 * rowW W 0).toNat : Nat) : Int) + (n1 : Int) + i := by omega
              rw [e9] at this
              simpa using this
            · omega
          · have := this.2 (by split at hn2 <;> omega)
            simpa using this
        · refine hz p ?_ (by omega)
          rcases e with e | e | e
          · rw [e] at hn1 hn2 ⊢; rw [if_neg (by omega)] at hn1 hn2; rw [f1]; omega
          · rw [e] at hn1 hn2 ⊢; rw [if_pos (by omega)] at hn1; rw [if_neg (by omega)] at hn2; rw [f2]; omega
          · rw [e] at hn1 hn2 ⊢; rw [if_pos (by omega)] at hn1 hn2; rw [f3]; omega
    have nn1 : 0 ≤ (if 1 < W 0 then (M : Int) * rowW W 1 else 0) := by
      split
      · exact Int.mul_nonneg (by omega) (by omega)
      · omega
    have nn2 : 0 ≤ (if 2 < W 0 then (M : Int) * rowW W 2 else 0) := by
      split
      · exact Int.mul_nonneg (by omega) (by omega)
      · omega
    have := big _ _ (Int.toNat_of_nonneg nn1) (Int.toNat_of_nonneg nn2)
    unfold sumZ
    rw [show (18 * (M : Int)).toNat = 6 * M + 6 * M + 6 * M by omega]
    exact this
  rcases hm with rfl | rfl
  · exact key 1 (Or.inl rfl) rfl
  · exact key 3 (Or.inr rfl) rfl
