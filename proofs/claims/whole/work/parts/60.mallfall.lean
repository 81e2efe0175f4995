-- ===== PURE LAYER: all that falls, in the reference; how many =====
/-- the place p falls when only c s cards of a sort s may hang -/
abbrev fallW (W : WT) (c : Int → Int) (p : Int) : Prop := plaW W p 1 ≠ -1 ∧ c (plaW W p 1) ≤ rankW W (plaW W p 1) p
theorem max0_sum {W : WT} {s c : Int} (hc : 0 ≤ c) : ∀ n : Nat, sumN (fun p => b2 (plaW W p 1 = s ∧ c ≤ rankW W s p)) n = max 0 (sumN (fun p => b2 (plaW W p 1 = s)) n - c)
  | 0 => by show (0 : Int) = max 0 (0 - c); omega
  | n + 1 => by
    show sumN (fun p => b2 (plaW W p 1 = s ∧ c ≤ rankW W s p)) n + b2 (plaW W n 1 = s ∧ c ≤ rankW W s n) = max 0 (sumN (fun p => b2 (plaW W p 1 = s)) n + b2 (plaW W n 1 = s) - c)
    rw [max0_sum hc n]
    have e : rankW W s n = sumN (fun p => b2 (plaW W p 1 = s)) n := by
      show sumN _ (n : Int).toNat = _
      rw [Int.toNat_natCast]
    rw [e]
    by_cases a : plaW W n 1 = s
    · rw [b2_t a]
      by_cases b : c ≤ sumN (fun p => b2 (plaW W p 1 = s)) n
      · rw [b2_t ⟨a, b⟩]; omega
      · rw [b2_f (fun q => b q.2)]; omega
    · rw [b2_f a, b2_f (fun q => a q.1)]; omega
theorem max0_sumZ {W : WT} {s c x : Int} (hc : 0 ≤ c) : sumZ (fun p => b2 (plaW W p 1 = s ∧ c ≤ rankW W s p)) x = max 0 (rankW W s x - c) := max0_sum hc x.toNat
theorem sum_swap {g : Int → Int → Int} {N : Nat} : ∀ n : Nat, sumN (fun s => sumN (fun p => g s p) n) N = sumN (fun p => sumN (fun s => g s p) N) n
  | 0 => sumN_zero N (fun _ _ _ => rfl)
  | n + 1 => by
    show sumN (fun s => sumN (fun p => g s p) n + g s n) N = sumN (fun p => sumN (fun s => g s p) N) n + sumN (fun s => g s n) N
    rw [sumN_add, sum_swap n]
theorem sumZ_one0 {f : Int → Int} {j x : Int} (h0 : 0 ≤ j) (h1 : j < x) (h : ∀ i : Int, 0 ≤ i → i < x → i ≠ j → f i = 0) : sumZ f x = f j := by
  have e := sumZ_one (f := f) (g := fun _ => 0) h0 h1 h
  have z : sumZ (fun _ => (0 : Int)) x = 0 := sumN_zero _ (fun _ _ _ => rfl)
  rw [e, z]; omega
theorem fall_sum {W : WT} {c : Int → Int} (hs : ∀ p, 0 ≤ p → p < 54 → -1 ≤ plaW W p 1 ∧ plaW W p 1 < 42) (hc : ∀ s, 0 ≤ s → s < 42 → 0 ≤ c s) : sumZ (fun s => max 0 (hgW W s - c s)) 42 = sumZ (fun p => b2 (fallW W c p)) 54 := by
  have e1 : sumZ (fun s => max 0 (hgW W s - c s)) 42 = sumZ (fun s => sumZ (fun p => b2 (plaW W p 1 = s ∧ c s ≤ rankW W s p)) 54) 42 := sumZ_congr (fun s s0 s1 => (max0_sumZ (x := 54) (hc s s0 s1)).symm)
  have e2 : sumZ (fun s => sumZ (fun p => b2 (plaW W p 1 = s ∧ c s ≤ rankW W s p)) 54) 42 = sumZ (fun p => sumZ (fun s => b2 (plaW W p 1 = s ∧ c s ≤ rankW W s p)) 42) 54 := sum_swap (g := fun s p => b2 (plaW W p 1 = s ∧ c s ≤ rankW W s p)) 54
  rw [e1, e2]
  refine sumZ_congr (fun p p0 p1 => ?_)
  have r := hs p p0 p1
  by_cases z : plaW W p 1 = -1
  · rw [b2_f (fun q => q.1 z)]
    exact sumN_zero _ (fun s s0 s1 => b2_f (fun q => by have := q.1; omega))
  · rw [sumZ_one0 (j := plaW W p 1) (by omega) r.2 (fun s s0 s1 hne => b2_f (fun q => hne q.1.symm))]
    exact b2_iff ⟨fun q => ⟨z, q.2⟩, fun q => ⟨rfl, q.2⟩⟩
/-- what hangs of the sort s afterwards -/
theorem Fell.hg {W W' : WT} {c : Int → Int} (f : Fell (fallW W c) W' W) {s : Int} (s0 : 0 ≤ s) (hc : 0 ≤ c s) : hgW W' s = min (hgW W s) (c s) := by
  have e : hgW W s = hgW W' s + sumZ (fun p => b2 (plaW W p 1 = s ∧ c s ≤ rankW W s p)) 54 := by
    unfold hgW
    rw [← sumZ_add]
    refine sumZ_congr (fun p p0 p1 => ?_)
    have fp := f.2 p p0 p1
    by_cases z : plaW W p 1 = s
    · by_cases y : c s ≤ rankW W s p
      · have ff : fallW W c p := ⟨by omega, by rw [z]; exact y⟩
        rw [(fp.1 ff).2.1]
        have h1 := b2_t z
        have h2 := b2_f (show ¬ (-1 : Int) = s by omega)
        have h3 := b2_t (show plaW W p 1 = s ∧ c s ≤ rankW W s p from ⟨z, y⟩)
        omega
      · have ff : ¬ fallW W c p := fun q => y (by have := q.2; rw [z] at this; exact this)
        rw [(fp.2 ff).2.1]
        have h3 := b2_f (show ¬ (plaW W p 1 = s ∧ c s ≤ rankW W s p) from fun q => y q.2)
        omega
    · by_cases ff : fallW W c p
      · rw [(fp.1 ff).2.1]
        have h1 := b2_f z
        have h2 := b2_f (show ¬ (-1 : Int) = s by omega)
        have h3 := b2_f (show ¬ (plaW W p 1 = s ∧ c s ≤ rankW W s p) from fun q => z q.1)
        omega
      · rw [(fp.2 ff).2.1]
        have h3 := b2_f (show ¬ (plaW W p 1 = s ∧ c s ≤ rankW W s p) from fun q => z q.1)
        omega
  rw [max0_sumZ hc] at e
  have eT : hgW W s = rankW W s 54 := rfl
  omega
theorem m_allFall {G : GH} {Q : Int → GH → Prop} (hb : LoB (G 273)) (hs : ∀ p, 0 ≤ p → p < 54 → -1 ≤ plaW (G 273) p 1 ∧ plaW (G 273) p 1 < 42) (hc : ∀ s, 0 ≤ s → s < 42 → 0 ≤ cntW (-1) (G 273) s ∧ cntW (-1) (G 273) s ≤ 100000)
    (h : ∀ G' : GH, (∀ x, x ≠ 273 → G' x = G x) → Fell (fallW (G 273) (cntW (-1) (G 273))) (G' 273) (G 273) → Q (sumZ (fun p => b2 (fallW (G 273) (cntW (-1) (G 273)) p)) 54) G') : f_X10_allFall G Q := by
  rw [← fall_sum hs (fun s s0 s1 => (hc s s0 s1).1)] at h
  unfold f_X10_allFall
  refine loopI3 (I := fun x1 x2 G1 => (0 ≤ x2 ∧ x2 ≤ 42) ∧ x1 = sumZ (fun s => max 0 (hgW (G 273) s - cntW (-1) (G 273) s)) x2 ∧ (∀ x, x ≠ 273 → G1 x = G x) ∧ Fell (fun p => fallW (G 273) (cntW (-1) (G 273)) p ∧ plaW (G 273) p 1 < x2) (G1 273) (G 273)) (μ := fun _ x2 _ => (42 - x2).toNat) (fun k x1 x2 G1 hI ih => ?_) 0 0 G ⟨by omega, rfl, fun _ _ => rfl, fun _ _ => rfl, fun p p0 p1 => ⟨fun f => by have := hs p p0 p1; have := f.1.1; omega, fun _ => ⟨rfl, rfl, rfl⟩⟩⟩
  obtain ⟨hx, h1, ho, hf⟩ := hI
  refine ⟨fun q => ?_, fun q => ?_⟩
  · have e : x2 = 42 := by omega
    rw [e] at h1 hf
    rw [h1]
    refine h G1 ho ⟨hf.1, fun p p0 p1 => ?_⟩
    have r := hs p p0 p1
    exact ⟨fun f => (hf.2 p p0 p1).1 ⟨f, r.2⟩, fun f => (hf.2 p p0 p1).2 (fun y => f y.1)⟩
  · have el : EqR 84 132 (G1 273) (G 273) := fun k _ k1 => hf.1 k (by omega)
    have e6 : G1 273 6 = G 273 6 := hf.1 6 (by omega)
    have hb1 : LoB (G1 273) := by
      have b1 := hb.1
      refine ⟨by rw [e6]; exact b1, fun l l0 l1 => ?_⟩
      rw [e6] at l1
      rw [rR_loan el l0 (by omega) (by omega) (by omega)]; exact hb.2 l l0 l1
    have ec : cntW (-1) (G1 273) x2 = cntW (-1) (G 273) x2 := by
      by_cases c : x2 < 12
      · have : cardW (G1 273) x2 2 = cardW (G 273) x2 2 := hf.1 _ (by omega)
        rw [cnt_own hx.1 c, cnt_own hx.1 c, hf.1 3 (by omega), this]
      · rw [cnt_bor (by omega) q, cnt_bor (by omega) q]
        exact rR_bor e6 el hb.1.2
    -- the sort x2 hangs as it did
    have same : ∀ p, 0 ≤ p → p < 54 → (plaW (G1 273) p 1 = x2 ↔ plaW (G 273) p 1 = x2) := fun p p0 p1 => by
      have fp := hf.2 p p0 p1
      by_cases f : fallW (G 273) (cntW (-1) (G 273)) p ∧ plaW (G 273) p 1 < x2
      · rw [(fp.1 f).2.1]
        have := f.2
        omega
      · rw [(fp.2 f).2.1]
    have rk : ∀ p, p ≤ 54 → rankW (G1 273) x2 p = rankW (G 273) x2 p := fun p p1 => sumZ_congr (fun i i0 i1 => b2_iff (same i i0 (by omega)))
    have hh : hgW (G1 273) x2 = hgW (G 273) x2 := rk 54 (by omega)
    have cb := hc x2 hx.1 q
    have sr : 0 ≤ x1 ∧ x1 ≤ 54 * x2 := by
      rw [h1]
      refine ⟨sumZ_ge (fun s _ _ => by omega), sumZ_le hx.1 (fun s s0 s1 => ?_)⟩
      have r := rankW_rng (W := G 273) (s := s) (P := 54) (by omega)
      have e : hgW (G 273) s = rankW (G 273) s 54 := rfl
      have := (hc s s0 (by omega)).1
      omega
    have r := rankW_rng (W := G 273) (s := x2) (P := 54) (by omega)
    have e54 : hgW (G 273) x2 = rankW (G 273) x2 54 := rfl
    refine m_falls hb1 ⟨hx.1, q⟩ ec cb (fun G2 o2 f2 => ?_)
    rw [hh]
    refine ⟨⟨by omega, by omega⟩, ih _ _ _ ⟨by omega, by rw [sumZ_s hx.1, h1], fun x hx => by rw [o2 x hx]; exact ho x hx, fun k hk => by rw [f2.1 k hk]; exact hf.1 k hk, fun p p0 p1 => ?_⟩ (by omega)⟩
    have fp := hf.2 p p0 p1
    have gp := f2.2 p p0 p1
    have rp := rk p (by omega)
    by_cases z : plaW (G 273) p 1 = x2
    · have z1 : plaW (G1 273) p 1 = x2 := (same p p0 p1).mpr z
      have nf : ¬ (fallW (G 273) (cntW (-1) (G 273)) p ∧ plaW (G 273) p 1 < x2) := fun y => by have := y.2; omega
      by_cases y : cntW (-1) (G 273) x2 ≤ rankW (G 273) x2 p
      · have g := gp.1 ⟨z1, by show cntW (-1) (G 273) x2 ≤ rankW (G1 273) x2 p; rw [rp]; exact y⟩
        refine ⟨fun _ => g, fun nn => absurd ⟨⟨by omega, by rw [z]; exact y⟩, by omega⟩ nn⟩
      · have g := gp.2 (fun w => y (by have w2 : cntW (-1) (G 273) x2 ≤ rankW (G1 273) x2 p := w.2; rw [rp] at w2; exact w2))
        refine ⟨fun w => absurd (by have := w.1.2; rw [z] at this; exact this) y, fun _ => ⟨g.1.trans (fp.2 nf).1, g.2.1.trans (fp.2 nf).2.1, g.2.2.trans (fp.2 nf).2.2⟩⟩
    · have z1 : ¬ plaW (G1 273) p 1 = x2 := fun w => z ((same p p0 p1).mp w)
      have g := gp.2 (fun w => z1 w.1)
      rw [g.1, g.2.1, g.2.2]
      exact ⟨fun w => fp.1 ⟨w.1, by have := w.2; omega⟩, fun w => fp.2 (fun w2 => w ⟨w2.1, by have := w2.2; omega⟩)⟩
