-- ===== PURE LAYER: sets of digits; what they need, what can be shown (Hall) =====
abbrev inS (X : Nat) (d : Int) : Prop := X.testBit d.toNat = true
abbrev mts (D X : Nat) : Prop := D &&& X ≠ 0
theorem inS_or {T R : Nat} {d : Int} : inS (T ||| R) d ↔ inS T d ∨ inS R d := by
  unfold inS
  rw [Nat.testBit_or, Bool.or_eq_true]
theorem inS_and {T R : Nat} {d : Int} : inS (T &&& R) d ↔ inS T d ∧ inS R d := by
  unfold inS
  rw [Nat.testBit_and, Bool.and_eq_true]
theorem inS_bit {d e : Int} (hd : 0 ≤ d) (he : 0 ≤ e) : inS (2 ^ d.toNat) e ↔ e = d := by
  unfold inS
  rw [Nat.testBit_two_pow, decide_eq_true_eq]
  omega
theorem inS_0 {d : Int} : ¬ inS 0 d := by
  unfold inS
  rw [Nat.zero_testBit]
  decide
theorem bit_lt {d : Int} (hd : 0 ≤ d ∧ d < 10) : 2 ^ d.toNat < 1024 := by
  have h : 2 ^ d.toNat < 2 ^ 10 := Nat.pow_lt_pow_right (by omega) (by omega)
  exact h
theorem or_lt {T R : Nat} (hT : T < 1024) (hR : R < 1024) : T ||| R < 1024 := Nat.or_lt_two_pow (n := 10) hT hR
theorem and_lt {T R : Nat} (hR : R < 1024) : T &&& R < 1024 := Nat.and_lt_two_pow (n := 10) T hR
theorem mts_iff {D X : Nat} (hD : D < 1024) : mts D X ↔ ∃ d : Int, (0 ≤ d ∧ d < 10) ∧ inS D d ∧ inS X d := by
  constructor
  · intro h
    obtain ⟨i, hi⟩ := Nat.exists_testBit_of_ne_zero h
    rw [Nat.testBit_and, Bool.and_eq_true] at hi
    have h10 : i < 10 := by
      rcases Nat.lt_or_ge i 10 with c | c
      · exact c
      · have h1 : 2 ^ i ≤ D := Nat.ge_two_pow_of_testBit hi.1
        have h3 : 2 ^ 10 ≤ 2 ^ i := Nat.pow_le_pow_right (by omega) c
        exact absurd (Nat.lt_of_lt_of_le hD (Nat.le_trans h3 h1)) (Nat.lt_irrefl _)
    refine ⟨(i : Int), ⟨by omega, by omega⟩, ?_, ?_⟩
    · show D.testBit (i : Int).toNat = true
      rw [Int.toNat_natCast]; exact hi.1
    · show X.testBit (i : Int).toNat = true
      rw [Int.toNat_natCast]; exact hi.2
  · rintro ⟨d, _, h1, h2⟩ e
    have h3 : (D &&& X).testBit d.toNat = true := by rw [Nat.testBit_and, h1, h2]; rfl
    rw [e, Nat.zero_testBit] at h3
    exact absurd h3 (by decide)
theorem mts_or {D T R : Nat} (hD : D < 1024) : mts D (T ||| R) ↔ mts D T ∨ mts D R := by
  rw [mts_iff hD, mts_iff hD, mts_iff hD]
  constructor
  · rintro ⟨d, h0, h1, h2⟩
    rcases inS_or.mp h2 with h | h
    · exact Or.inl ⟨d, h0, h1, h⟩
    · exact Or.inr ⟨d, h0, h1, h⟩
  · rintro (⟨d, h0, h1, h2⟩ | ⟨d, h0, h1, h2⟩)
    · exact ⟨d, h0, h1, inS_or.mpr (Or.inl h2)⟩
    · exact ⟨d, h0, h1, inS_or.mpr (Or.inr h2)⟩
theorem mts_and {D T R : Nat} (hD : D < 1024) (h : mts D (T &&& R)) : mts D T ∧ mts D R := by
  obtain ⟨d, h0, h1, h2⟩ := (mts_iff hD).mp h
  have h3 := inS_and.mp h2
  exact ⟨(mts_iff hD).mpr ⟨d, h0, h1, h3.1⟩, (mts_iff hD).mpr ⟨d, h0, h1, h3.2⟩⟩
theorem mts_bit {D : Nat} {d : Int} (hD : D < 1024) (hd : 0 ≤ d) : mts D (2 ^ d.toNat) → inS D d := by
  intro h
  obtain ⟨e, h0, h1, h2⟩ := (mts_iff hD).mp h
  rw [(inS_bit hd h0.1).mp h2] at h1
  exact h1
theorem sumN_mono {f g : Int → Int} : ∀ n : Nat, (∀ i : Int, 0 ≤ i → i < n → f i ≤ g i) → sumN f n ≤ sumN g n
  | 0, _ => Int.le_refl _
  | n + 1, h => by
    have ih := sumN_mono (f := f) (g := g) n (fun i h1 h2 => h i h1 (by omega))
    have h3 := h n (by omega) (by omega)
    show sumN f n + f n ≤ sumN g n + g n
    omega
theorem sumZ_mono {f g : Int → Int} {x : Int} (h : ∀ i : Int, 0 ≤ i → i < x → f i ≤ g i) : sumZ f x ≤ sumZ g x := by
  by_cases hx : 0 ≤ x
  · exact sumN_mono x.toNat (fun i h1 h2 => h i h1 (by omega))
  · unfold sumZ
    rw [show x.toNat = 0 by omega]
    exact Int.le_refl _
theorem sumZ_zero {f : Int → Int} {x : Int} (h : ∀ i : Int, 0 ≤ i → i < x → f i = 0) : sumZ f x = 0 := by
  have e : sumZ f x = sumZ (fun _ => (0 : Int)) x := sumZ_congr h
  rw [e]; exact sumN_zero _ (fun _ _ _ => rfl)
theorem sumZ_swap {g : Int → Int → Int} {x y : Int} : sumZ (fun s => sumZ (fun p => g s p) x) y = sumZ (fun p => sumZ (fun s => g s p) y) x := sum_swap (g := g) (N := y.toNat) x.toNat
def need (n : Int → Int) (X : Nat) : Int := sumZ (fun d => if inS X d then n d else 0) 10
def can (S : Int) (D : Int → Nat) (L : Int → Int) (X : Nat) : Int := sumZ (fun s => if mts (D s) X then L s else 0) S
def hall (S : Int) (D : Int → Nat) (L n : Int → Int) : Prop := ∀ X : Nat, X < 1024 → need n X ≤ can S D L X
def tight (S : Int) (D : Int → Nat) (L n : Int → Int) (X : Nat) : Prop := need n X = can S D L X
def bump (n : Int → Int) (d v : Int) : Int → Int := fun e => if e = d then n e + v else n e
theorem bump_eq {n : Int → Int} {d v : Int} : bump n d v d = n d + v := if_pos rfl
theorem bump_ne {n : Int → Int} {d v e : Int} (h : e ≠ d) : bump n d v e = n e := if_neg h
section HALL
variable {S : Int} {D : Int → Nat} {L n n' : Int → Int} {X T R : Nat} {d v s : Int} {M : Int → Int → Int}
theorem need_bump (hd : 0 ≤ d ∧ d < 10) : need (bump n d v) X = need n X + (if inS X d then v else 0) := by
  unfold need
  rw [sumZ_one (f := fun e => if inS X e then bump n d v e else 0) (g := fun e => if inS X e then n e else 0) hd.1 hd.2 (fun i i0 i1 hne => ?_)]
  · show _ + ((if inS X d then bump n d v d else 0) - (if inS X d then n d else 0)) = _
    rw [bump_eq]
    by_cases c : inS X d
    · rw [if_pos c, if_pos c, if_pos c]; omega
    · rw [if_neg c, if_neg c, if_neg c]; omega
  · show (if inS X i then bump n d v i else 0) = (if inS X i then n i else 0)
    rw [bump_ne hne]
theorem can_bump (hs : 0 ≤ s ∧ s < S) : can S D (bump L s v) X = can S D L X + (if mts (D s) X then v else 0) := by
  unfold can
  rw [sumZ_one (f := fun e => if mts (D e) X then bump L s v e else 0) (g := fun e => if mts (D e) X then L e else 0) hs.1 hs.2 (fun i i0 i1 hne => ?_)]
  · show _ + ((if mts (D s) X then bump L s v s else 0) - (if mts (D s) X then L s else 0)) = _
    rw [bump_eq]
    by_cases c : mts (D s) X
    · rw [if_pos c, if_pos c, if_pos c]; omega
    · rw [if_neg c, if_neg c, if_neg c]; omega
  · show (if mts (D i) X then bump L s v i else 0) = (if mts (D i) X then L i else 0)
    rw [bump_ne hne]
theorem need_mod : need n (T ||| R) + need n (T &&& R) = need n T + need n R := by
  unfold need
  rw [← sumZ_add, ← sumZ_add]
  refine sumZ_congr (fun i _ _ => ?_)
  by_cases a : inS T i
  · by_cases b : inS R i
    · rw [if_pos (inS_or.mpr (Or.inl a)), if_pos (inS_and.mpr ⟨a, b⟩), if_pos a, if_pos b]
    · rw [if_pos (inS_or.mpr (Or.inl a)), if_neg (fun w => b (inS_and.mp w).2), if_pos a, if_neg b]
  · by_cases b : inS R i
    · rw [if_pos (inS_or.mpr (Or.inr b)), if_neg (fun w => a (inS_and.mp w).1), if_neg a, if_pos b]; omega
    · rw [if_neg (fun w => (inS_or.mp w).elim a b), if_neg (fun w => a (inS_and.mp w).1), if_neg a, if_neg b]
theorem can_sub (hL : ∀ s, 0 ≤ s → s < S → 0 ≤ L s) (hD : ∀ s, 0 ≤ s → s < S → D s < 1024) : can S D L (T ||| R) + can S D L (T &&& R) ≤ can S D L T + can S D L R := by
  unfold can
  rw [← sumZ_add, ← sumZ_add]
  refine sumZ_mono (fun i i0 i1 => ?_)
  have hl := hL i i0 i1
  have hd := hD i i0 i1
  by_cases a : mts (D i) T
  · rw [if_pos ((mts_or hd).mpr (Or.inl a)), if_pos a]
    by_cases b : mts (D i) R
    · rw [if_pos b]
      split <;> omega
    · rw [if_neg b, if_neg (fun w => b (mts_and hd w).2)]; omega
  · rw [if_neg a, if_neg (fun w => a (mts_and hd w).1)]
    by_cases b : mts (D i) R
    · rw [if_pos ((mts_or hd).mpr (Or.inr b)), if_pos b]; omega
    · rw [if_neg (fun w => ((mts_or hd).mp w).elim a b), if_neg b]; omega
theorem tight_or (hL : ∀ s, 0 ≤ s → s < S → 0 ≤ L s) (hD : ∀ s, 0 ≤ s → s < S → D s < 1024) (h : hall S D L n) (hT : T < 1024) (hR : R < 1024) (tT : tight S D L n T) (tR : tight S D L n R) : tight S D L n (T ||| R) := by
  have h1 := h _ (or_lt hT hR)
  have h2 := h _ (and_lt (T := T) hR)
  have h3 := need_mod (n := n) (T := T) (R := R)
  have h4 := can_sub (L := L) (T := T) (R := R) hL hD
  unfold tight at tT tR ⊢
  omega
theorem hall_mono (h : hall S D L n') (hle : ∀ d, 0 ≤ d → d < 10 → n d ≤ n' d) : hall S D L n := by
  intro X hX
  refine Int.le_trans (sumZ_mono (fun i i0 i1 => ?_)) (h X hX)
  have := hle i i0 i1
  show (if inS X i then n i else 0) ≤ (if inS X i then n' i else 0)
  split <;> omega
theorem hall_no (hd : 0 ≤ d ∧ d < 10) (hR : R < 1024) (t : tight S D L n R) (hin : inS R d) : ¬ hall S D L (bump n d 1) := by
  intro h
  have h1 := h R hR
  rw [need_bump hd, if_pos hin] at h1
  unfold tight at t
  omega
theorem hall_pick (hS : 0 ≤ S) (hL : ∀ s, 0 ≤ s → s < S → 0 ≤ L s) (hD : ∀ s, 0 ≤ s → s < S → D s < 1024) (h : hall S D L n) (hd : 0 ≤ d ∧ d < 10) (hn : 0 < n d) : ∃ s, (0 ≤ s ∧ s < S) ∧ 0 < L s ∧ inS (D s) d ∧ hall S D (bump L s (-1)) (bump n d (-1)) := by
  refine Classical.byContradiction fun hc => ?_
  have un : ∀ k : Nat, (k : Int) ≤ S → ∃ T : Nat, T < 1024 ∧ tight S D L n T ∧ ¬ inS T d ∧ ∀ s, 0 ≤ s → s < (k : Int) → 0 < L s → inS (D s) d → mts (D s) T := by
    intro k
    induction k with
    | zero =>
      intro _
      refine ⟨0, by omega, ?_, inS_0, fun s s0 s1 => by omega⟩
      have e1 : need n 0 = 0 := sumZ_zero (fun i _ _ => if_neg inS_0)
      have e2 : can S D L 0 = 0 := sumZ_zero (fun i i0 i1 => if_neg (fun w => w (Nat.and_zero _)))
      unfold tight
      rw [e1, e2]
    | succ k ih =>
      intro hk
      obtain ⟨T, t1, t2, t3, t4⟩ := ih (by omega)
      by_cases c : 0 < L k ∧ inS (D k) d
      · have nh : ¬ hall S D (bump L k (-1)) (bump n d (-1)) := fun w => hc ⟨k, ⟨by omega, by omega⟩, c.1, c.2, w⟩
        have ex : ∃ X : Nat, X < 1024 ∧ can S D (bump L k (-1)) X < need (bump n d (-1)) X := Classical.byContradiction fun q => nh (fun X hX => Classical.byContradiction fun q2 => q ⟨X, hX, by omega⟩)
        obtain ⟨X, hX, v⟩ := ex
        rw [can_bump ⟨by omega, by omega⟩, need_bump hd] at v
        have hx := h X hX
        have cx : mts (D k) X ∧ ¬ inS X d ∧ need n X = can S D L X := by
          by_cases a : mts (D k) X
          · by_cases b : inS X d
            · rw [if_pos a, if_pos b] at v; omega
            · rw [if_pos a, if_neg b] at v; exact ⟨a, b, by omega⟩
          · by_cases b : inS X d
            · rw [if_neg a, if_pos b] at v; omega
            · rw [if_neg a, if_neg b] at v; omega
        refine ⟨T ||| X, or_lt t1 hX, tight_or hL hD h t1 hX t2 cx.2.2, fun w => (inS_or.mp w).elim t3 cx.2.1, fun s s0 s1 p q => ?_⟩
        by_cases e : s = (k : Int)
        · rw [e]; exact (mts_or (hD k (by omega) (by omega))).mpr (Or.inr cx.1)
        · exact (mts_or (hD s s0 (by omega))).mpr (Or.inl (t4 s s0 (by omega) p q))
      · refine ⟨T, t1, t2, t3, fun s s0 s1 p q => ?_⟩
        by_cases e : s = (k : Int)
        · rw [e] at p q; exact absurd ⟨p, q⟩ c
        · exact t4 s s0 (by omega) p q
  obtain ⟨T, t1, t2, t3, t4⟩ := un S.toNat (by omega)
  have h1 := h _ (or_lt t1 (bit_lt hd))
  have e1 : need n (T ||| 2 ^ d.toNat) = need n T + n d := by
    unfold need
    rw [sumZ_one (f := fun e => if inS (T ||| 2 ^ d.toNat) e then n e else 0) (g := fun e => if inS T e then n e else 0) hd.1 hd.2 (fun i i0 i1 hne => ?_)]
    · show _ + ((if inS (T ||| 2 ^ d.toNat) d then n d else 0) - (if inS T d then n d else 0)) = _
      rw [if_pos (inS_or.mpr (Or.inr ((inS_bit hd.1 hd.1).mpr rfl))), if_neg t3]; omega
    · show (if inS (T ||| 2 ^ d.toNat) i then n i else 0) = (if inS T i then n i else 0)
      by_cases a : inS T i
      · rw [if_pos a, if_pos (inS_or.mpr (Or.inl a))]
      · rw [if_neg a, if_neg (fun w => (inS_or.mp w).elim a (fun b => hne ((inS_bit hd.1 i0).mp b)))]
  have e2 : can S D L (T ||| 2 ^ d.toNat) ≤ can S D L T := by
    refine sumZ_mono (fun i i0 i1 => ?_)
    have hl := hL i i0 i1
    have hdi := hD i i0 i1
    show (if mts (D i) (T ||| 2 ^ d.toNat) then L i else 0) ≤ (if mts (D i) T then L i else 0)
    by_cases z : L i = 0
    · rw [z]
      split <;> split <;> omega
    · by_cases a : mts (D i) (T ||| 2 ^ d.toNat)
      · have b : mts (D i) T := ((mts_or hdi).mp a).elim (fun w => w) (fun w => t4 i i0 (by omega) (by omega) (mts_bit hdi hd.1 w))
        rw [if_pos a, if_pos b]; exact Int.le_refl _
      · rw [if_neg a]
        split <;> omega
  unfold tight at t2
  omega
-- a matching
theorem match_need (hn : ∀ d, 0 ≤ d → d < 10 → sumZ (fun s => M s d) S = n d) : need n X = sumZ (fun s => sumZ (fun d => if inS X d then M s d else 0) 10) S := by
  rw [sumZ_swap (g := fun s d => if inS X d then M s d else 0)]
  unfold need
  refine sumZ_congr (fun i i0 i1 => ?_)
  by_cases a : inS X i
  · rw [if_pos a, ← hn i i0 i1]
    exact sumZ_congr (fun s _ _ => (if_pos a).symm)
  · rw [if_neg a]
    exact (sumZ_zero (fun s _ _ => if_neg a)).symm
theorem hall_of_match (hM : ∀ s d, 0 ≤ s → s < S → 0 ≤ d → d < 10 → 0 ≤ M s d ∧ (0 < M s d → inS (D s) d)) (hu : ∀ s, 0 ≤ s → s < S → sumZ (fun d => M s d) 10 ≤ L s) (hn : ∀ d, 0 ≤ d → d < 10 → sumZ (fun s => M s d) S = n d) (hD : ∀ s, 0 ≤ s → s < S → D s < 1024) : hall S D L n := by
  intro X hX
  rw [match_need hn]
  refine sumZ_mono (fun s s0 s1 => ?_)
  show sumZ (fun d => if inS X d then M s d else 0) 10 ≤ (if mts (D s) X then L s else 0)
  by_cases a : mts (D s) X
  · rw [if_pos a]
    refine Int.le_trans (sumZ_mono (fun d d0 d1 => ?_)) (hu s s0 s1)
    have := (hM s d s0 s1 d0 d1).1
    show (if inS X d then M s d else 0) ≤ M s d
    split <;> omega
  · rw [if_neg a]
    have e : sumZ (fun d => if inS X d then M s d else 0) 10 = 0 := sumZ_zero (fun d d0 d1 => by
      by_cases b : inS X d
      · have w := hM s d s0 s1 d0 d1
        rw [if_pos b]
        refine Classical.byContradiction fun q => a ((mts_iff (hD s s0 s1)).mpr ⟨d, ⟨d0, d1⟩, w.2 (by omega), b⟩)
      · rw [if_neg b])
    rw [e]; exact Int.le_refl _
theorem tight_of_closed (hM : ∀ s d, 0 ≤ s → s < S → 0 ≤ d → d < 10 → 0 ≤ M s d ∧ (0 < M s d → inS (D s) d)) (hn : ∀ d, 0 ≤ d → d < 10 → sumZ (fun s => M s d) S = n d) (hD : ∀ s, 0 ≤ s → s < S → D s < 1024)
    (hc : ∀ s, 0 ≤ s → s < S → mts (D s) R → sumZ (fun d => M s d) 10 = L s ∧ ∀ e, 0 ≤ e → e < 10 → 0 < M s e → inS R e) : tight S D L n R := by
  unfold tight
  rw [match_need hn]
  refine sumZ_congr (fun s s0 s1 => ?_)
  show sumZ (fun d => if inS R d then M s d else 0) 10 = (if mts (D s) R then L s else 0)
  by_cases a : mts (D s) R
  · obtain ⟨c1, c2⟩ := hc s s0 s1 a
    rw [if_pos a, ← c1]
    refine sumZ_congr (fun d d0 d1 => ?_)
    have w := hM s d s0 s1 d0 d1
    by_cases b : inS R d
    · rw [if_pos b]
    · rw [if_neg b]
      exact Classical.byContradiction fun q => b (c2 d d0 d1 (by omega))
  · rw [if_neg a]
    refine sumZ_zero (fun d d0 d1 => ?_)
    by_cases b : inS R d
    · have w := hM s d s0 s1 d0 d1
      rw [if_pos b]
      refine Classical.byContradiction fun q => a ((mts_iff (hD s s0 s1)).mpr ⟨d, ⟨d0, d1⟩, w.2 (by omega), b⟩)
    · rw [if_neg b]
end HALL
-- the lack
def maxN (f : Int → Int) : Nat → Int
  | 0 => 0
  | k + 1 => max (maxN f k) (f k)
theorem maxN_ge {f : Int → Int} : ∀ k : Nat, 0 ≤ maxN f k
  | 0 => Int.le_refl _
  | k + 1 => by
    have := maxN_ge (f := f) k
    show 0 ≤ max (maxN f k) (f k)
    omega
theorem maxN_le {f : Int → Int} {c : Int} (hc : 0 ≤ c) : ∀ k : Nat, (∀ i : Nat, i < k → f i ≤ c) → maxN f k ≤ c
  | 0, _ => hc
  | k + 1, h => by
    have ih := maxN_le (f := f) hc k (fun i hi => h i (by omega))
    have h2 := h k (by omega)
    show max (maxN f k) (f k) ≤ c
    omega
theorem maxN_up {f : Int → Int} : ∀ (k : Nat) (i : Nat), i < k → f i ≤ maxN f k
  | 0, i, hi => by omega
  | k + 1, i, hi => by
    show f i ≤ max (maxN f k) (f k)
    by_cases e : i = k
    · rw [e]; omega
    · have := maxN_up (f := f) k i (by omega)
      omega
def lackV (S : Int) (D : Int → Nat) (L n : Int → Int) : Int := maxN (fun X => need n X.toNat - can S D L X.toNat) 1024
theorem lack_hall {S : Int} {D : Int → Nat} {L n : Int → Int} : lackV S D L n = 0 ↔ hall S D L n := by
  constructor
  · intro h X hX
    have k := maxN_up (f := fun X => need n X.toNat - can S D L X.toNat) 1024 X hX
    have e : maxN (fun X => need n X.toNat - can S D L X.toNat) 1024 = 0 := h
    rw [e] at k
    have k2 : need n (X : Int).toNat - can S D L (X : Int).toNat ≤ 0 := k
    rw [Int.toNat_natCast] at k2
    omega
  · intro h
    have k1 : lackV S D L n ≤ 0 := maxN_le (Int.le_refl _) 1024 (fun i hi => by
      show need n (i : Int).toNat - can S D L (i : Int).toNat ≤ 0
      rw [Int.toNat_natCast]
      have := h i hi
      omega)
    have k2 : 0 ≤ lackV S D L n := maxN_ge 1024
    omega
