-- ===== PURE LAYER: all that falls, in the reference; how many =====
/-- the place p falls when only c s cards of a sort s may hang -/
abbrev fallW (W : WT) (c : Int → Int) (p : Int) : Prop := plaW W p 1 ≠ -1 ∧ c (plaW W p 1) ≤ rankW W (plaW W p 1) p
theorem max0_sum {W : WT} {s c : Int} (hc : 0 ≤ c) : ∀ n : Nat, sumN (fun p => b2 (plaW W p 1 = s ∧ c ≤ rankW W s p)) n = max 0 (sumN (fun p => b2 (plaW W p 1 = s)) n - c)
  | 0 => by show (0 : Int) = max 0 (0 - c); omega
  | n + 1 => by
    show sumN (fun p => b2 (plaW W p 1 = s ∧ c ≤ rankW W s p)) n + b2 (plaW W n 1 = s ∧ c ≤ rankW W s n) = max 0 (sumN (fun p => b2 (plaW W p 1 = s)) n + b2 (plaW W n 1 = s) - c)
    rw [max0_sum hc n]
    have e : rankW W s n = sumN (fun p => b2 (plaW W p 1 = s)) n := by
      show sumN _ (n : Int).toNat = _
      rw [Int.toNat_natCast]
    rw [e]
    by_cases a : plaW W n 1 = s
    · rw [b2_t a]
      by_cases b : c ≤ sumN (fun p => b2 (plaW W p 1 = s)) n
      · rw [b2_t ⟨a, b⟩]; omega
      · rw [b2_f (fun q => b q.2)]; omega
    · rw [b2_f a, b2_f (fun q => a q.1)]; omega
theorem max0_sumZ {W : WT} {s c x : Int} (hc : 0 ≤ c) : sumZ (fun p => b2 (plaW W p 1 = s ∧ c ≤ rankW W s p)) x = max 0 (rankW W s x - c) := max0_sum hc x.toNat
theorem sum_swap {g : Int → Int → Int} {N : Nat} : ∀ n : Nat, sumN (fun s => sumN (fun p => g s p) n) N = sumN (fun p => sumN (fun s => g s p) N) n
  | 0 => sumN_zero N (fun _ _ _ => rfl)
  | n + 1 => by
    show sumN (fun s => sumN (fun p => g s p) n + g s n) N = sumN (fun p => sumN (fun s => g s p) N) n + sumN (fun s => g s n) N
    rw [sumN_add, sum_swap n]
theorem sumZ_one0 {f : Int → Int} {j x : Int} (h0 : 0 ≤ j) (h1 : j < x) (h : ∀ i : Int, 0 ≤ i → i < x → i ≠ j → f i = 0) : sumZ f x = f j := by
  have e := sumZ_one (f := f) (g := fun _ => 0) h0 h1 h
  have z : sumZ (fun _ => (0 : Int)) x = 0 := sumN_zero _ (fun _ _ _ => rfl)
  rw [e, z]; omega
theorem fall_sum {W : WT} {c : Int → Int} (hs : ∀ p, 0 ≤ p → p < 54 → -1 ≤ plaW W p 1 ∧ plaW W p 1 < 42) (hc : ∀ s, 0 ≤ s → s < 42 → 0 ≤ c s) : sumZ (fun s => max 0 (hgW W s - c s)) 42 = sumZ (fun p => b2 (fallW W c p)) 54 := by
  have e1 : sumZ (fun s => max 0 (hgW W s - c s)) 42 = sumZ (fun s => sumZ (fun p => b2 (plaW W p 1 = s ∧ c s ≤ rankW W s p)) 54) 42 := sumZ_congr (fun s s0 s1 => (max0_sumZ (x := 54) (hc s s0 s1)).symm)
  have e2 : sumZ (fun s => sumZ (fun p => b2 (plaW W p 1 = s ∧ c s ≤ rankW W s p)) 54) 42 = sumZ (fun p => sumZ (fun s => b2 (plaW W p 1 = s ∧ c s ≤ rankW W s p)) 42) 54 := sum_swap (g := fun s p => b2 (plaW W p 1 = s ∧ c s ≤ rankW W s p)) 54
  rw [e1, e2]
  refine sumZ_congr (fun p p0 p1 => ?_)
  have r := hs p p0 p1
  by_cases z : plaW W p 1 = -1
  · rw [b2_f (fun q => q.1 z)]
    exact sumN_zero _ (fun s s0 s1 => b2_f (fun q => by have := q.1; omega))
  · rw [sumZ_one0 (j := plaW W p 1) (by omega) r.2 (fun s s0 s1 hne => b2_f (fun q => hne q.1.symm))]
    exact b2_iff ⟨fun q => ⟨z, q.2⟩, fun q => ⟨rfl, q.2⟩⟩
/-- what hangs of the sort s afterwards -/
theorem Fell.hg {W W' : WT} {c : Int → Int} (f : Fell (fallW W c) W' W) {s : Int} (s0 : 0 ≤ s) (hc : 0 ≤ c s) : hgW W' s = min (hgW W s) (c s) := by
  have e : hgW W s = hgW W' s + sumZ (fun p => b2 (plaW W p 1 = s ∧ c s ≤ rankW W s p)) 54 := by
    unfold hgW
    rw [← sumZ_add]
    refine sumZ_congr (fun p p0 p1 => ?_)
    have fp := f.2 p p0 p1
    by_cases z : plaW W p 1 = s
    · by_cases y : c s ≤ rankW W s p
      · have ff : fallW W c p := ⟨by omega, by rw [z]; exact y⟩
        rw [(fp.1 ff).2.1]
        have h1 := b2_t z
        have h2 := b2_f (show ¬ (-1 : Int) = s by omega)
        have h3 := b2_t (show plaW W p 1 = s ∧ c s ≤ rankW W s p from ⟨z, y⟩)
        omega
      · have ff : ¬ fallW W c p := fun q => y (by have := q.2; rw [z] at this; exact this)
        rw [(fp.2 ff).2.1]
        have h3 := b2_f (show ¬ (plaW W p 1 = s ∧ c s ≤ rankW W s p) from fun q => y q.2)
        omega
    · by_cases ff : fallW W c p
      · rw [(fp.1 ff).2.1]
        have h1 := b2_f z
        have h2 := b2_f (show ¬ (-1 : Int) = s by omega)
        have h3 := b2_f (show ¬ (plaW W p 1 = s ∧ c s ≤ rankW W s p) from fun q => z q.1)
        omega
      · rw [(fp.2 ff).2.1]
        have h3 := b2_f (show ¬ (plaW W p 1 = s ∧ c s ≤ rankW W s p) from fun q => z q.1)
        omega
  rw [max0_sumZ hc] at e
  have eT : hgW W s = rankW W s 54 := rfl
  omega