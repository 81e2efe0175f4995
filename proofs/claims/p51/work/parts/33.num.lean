-- ===== PURE LAYER: numbers, sums, loops =====
/-- the place i of the row at a -/
abbrev gi (G : GH) (a : Nat) (i : Int) : Int := G a i.toNat
theorem gi_up_eq {G : GH} {a : Nat} {i j v : Int} (h : i = j) : upG G a i.toNat v a j.toNat = v := by subst h; exact upG_same _ _ _ _
theorem gi_up_ne {G : GH} {a : Nat} {i j v : Int} (hi : 0 ≤ i) (hj : 0 ≤ j) (h : i ≠ j) : upG G a i.toNat v a j.toNat = G a j.toNat := upG_nk (by omega)
theorem gi_up_na {G : GH} {a b k l : Nat} {v : Int} (h : b ≠ a) : upG G a k v b l = G b l := upG_na h
theorem up_na {G : GH} {a b k : Nat} {v : Int} (h : b ≠ a) : upG G a k v b = G b := funext fun l => upG_na h
theorem inR_sm {x : Int} (h1 : -1000000 ≤ x) (h2 : x ≤ 1000000) : inR x := ⟨by omega, by omega⟩
-- sums
def sumN (f : Int → Int) : Nat → Int
  | 0 => 0
  | n + 1 => sumN f n + f n
def sumZ (f : Int → Int) (x : Int) : Int := sumN f x.toNat
theorem sumZ_0 {f : Int → Int} : sumZ f 0 = 0 := rfl
theorem sumZ_s {f : Int → Int} {x : Int} (h : 0 ≤ x) : sumZ f (x + 1) = sumZ f x + f x := by
  unfold sumZ
  rw [show (x + 1).toNat = x.toNat + 1 by omega]
  show sumN f x.toNat + f (x.toNat : Int) = _
  rw [Int.toNat_of_nonneg h]
theorem sumN_le {f : Int → Int} {c : Int} : ∀ n : Nat, (∀ i : Int, 0 ≤ i → i < n → f i ≤ c) → sumN f n ≤ c * n
  | 0, _ => by simp [sumN]
  | n + 1, h => by
    have ih := sumN_le (f := f) (c := c) n (fun i h1 h2 => h i h1 (by omega))
    have h3 := h n (by omega) (by omega)
    have e : c * ((n + 1 : Nat) : Int) = c * (n : Int) + c := by rw [Int.natCast_succ, Int.mul_add, Int.mul_one]
    rw [e]
    show sumN f n + f n ≤ _
    omega
theorem sumN_ge {f : Int → Int} : ∀ n : Nat, (∀ i : Int, 0 ≤ i → i < n → 0 ≤ f i) → 0 ≤ sumN f n
  | 0, _ => by simp [sumN]
  | n + 1, h => by
    have ih := sumN_ge (f := f) n (fun i h1 h2 => h i h1 (by omega))
    have h3 := h n (by omega) (by omega)
    show 0 ≤ sumN f n + f n
    omega
theorem sumZ_le {f : Int → Int} {c x : Int} (hx : 0 ≤ x) (h : ∀ i : Int, 0 ≤ i → i < x → f i ≤ c) : sumZ f x ≤ c * x := by
  have := sumN_le (f := f) (c := c) x.toNat (fun i h1 h2 => h i h1 (by omega))
  unfold sumZ
  rw [Int.toNat_of_nonneg hx] at this
  exact this
theorem sumZ_ge {f : Int → Int} {x : Int} (h : ∀ i : Int, 0 ≤ i → i < x → 0 ≤ f i) : 0 ≤ sumZ f x := by
  by_cases hx : 0 ≤ x
  · exact sumN_ge x.toNat (fun i h1 h2 => h i h1 (by omega))
  · unfold sumZ
    rw [show x.toNat = 0 by omega]
    exact Int.le_refl _
theorem sumN_congr {f g : Int → Int} : ∀ n : Nat, (∀ i : Int, 0 ≤ i → i < n → f i = g i) → sumN f n = sumN g n
  | 0, _ => rfl
  | n + 1, h => by
    show sumN f n + f n = sumN g n + g n
    rw [sumN_congr n (fun i h1 h2 => h i h1 (by omega)), h n (by omega) (by omega)]
theorem sumZ_congr {f g : Int → Int} {x : Int} (h : ∀ i : Int, 0 ≤ i → i < x → f i = g i) : sumZ f x = sumZ g x := by
  by_cases hx : 0 ≤ x
  · exact sumN_congr x.toNat (fun i h1 h2 => h i h1 (by omega))
  · unfold sumZ
    rw [show x.toNat = 0 by omega]
    rfl
theorem sumN_add {f g : Int → Int} : ∀ n : Nat, sumN (fun i => f i + g i) n = sumN f n + sumN g n
  | 0 => rfl
  | n + 1 => by
    show sumN (fun i => f i + g i) n + (f n + g n) = (sumN f n + f n) + (sumN g n + g n)
    rw [sumN_add n]; omega
theorem sumZ_add {f g : Int → Int} {x : Int} : sumZ (fun i => f i + g i) x = sumZ f x + sumZ g x := sumN_add _
/-- a sum in which one place changes -/
theorem sumN_one {f g : Int → Int} {j : Int} : ∀ n : Nat, 0 ≤ j → j < n → (∀ i : Int, 0 ≤ i → i < n → i ≠ j → f i = g i) → sumN f n = sumN g n + (f j - g j)
  | 0, h0, h1, _ => by omega
  | n + 1, h0, h1, h => by
    show sumN f n + f n = sumN g n + g n + (f j - g j)
    by_cases e : j = n
    · subst e
      rw [sumN_congr n (fun i h2 h3 => h i h2 (by omega) (by omega))]
      omega
    · rw [sumN_one n h0 (by omega) (fun i h2 h3 h4 => h i h2 (by omega) h4), h n (by omega) (by omega) (fun q => e q.symm)]
      omega
theorem sumZ_one {f g : Int → Int} {j x : Int} (h0 : 0 ≤ j) (h1 : j < x) (h : ∀ i : Int, 0 ≤ i → i < x → i ≠ j → f i = g i) : sumZ f x = sumZ g x + (f j - g j) := by
  unfold sumZ
  exact sumN_one x.toNat h0 (by omega) (fun i h2 h3 h4 => h i h2 (by omega) h4)
def b2 (p : Prop) [Decidable p] : Int := if p then 1 else 0
theorem b2_t {p : Prop} [Decidable p] (h : p) : b2 p = 1 := if_pos h
theorem b2_f {p : Prop} [Decidable p] (h : ¬ p) : b2 p = 0 := if_neg h
theorem b2_01 {p : Prop} [Decidable p] : b2 p = 0 ∨ b2 p = 1 := by unfold b2; split; exact Or.inr rfl; exact Or.inl rfl
theorem b2_le {p : Prop} [Decidable p] : b2 p ≤ 1 := by rcases b2_01 (p := p) with h | h <;> omega
theorem b2_ge {p : Prop} [Decidable p] : 0 ≤ b2 p := by rcases b2_01 (p := p) with h | h <;> omega
theorem b2_iff {p q : Prop} [Decidable p] [Decidable q] (h : p ↔ q) : b2 p = b2 q := by
  by_cases hp : p
  · rw [b2_t hp, b2_t (h.mp hp)]
  · rw [b2_f hp, b2_f (fun q9 => hp (h.mpr q9))]
/-- a loop that sums: acc first, then the index from 0 up to N -/
theorem sum_loop {b : (Int → Int → Prop) → Int → Int → Prop} (f : Int → Int) (N : Int) (hN : 0 ≤ N) {a0 : Int}
    (hb : ∀ (k : Int → Int → Prop) (acc x : Int), 0 ≤ x → x ≤ N → acc = a0 + sumZ f x → (x < N → k (acc + f x) (x + 1)) → b k acc x) : loop2 b a0 0 := by
  refine loopI2 (I := fun acc x => 0 ≤ x ∧ x ≤ N ∧ acc = a0 + sumZ f x) (μ := fun _ x => (N - x).toNat) (fun k acc x hI ih => ?_) a0 0 ⟨Int.le_refl _, hN, by rw [sumZ_0]; omega⟩
  obtain ⟨h0, h1, h2⟩ := hI
  refine hb k acc x h0 h1 h2 (fun hx => ih _ _ ⟨by omega, by omega, ?_⟩ (by omega))
  rw [sumZ_s h0, h2]; omega
/-- a loop over an index from lo up to hi that changes the heap: I holds at every index -/
theorem up_loop {b : (Int → GH → Prop) → Int → GH → Prop} (I : Int → GH → Prop) (lo hi : Int) (hlh : lo ≤ hi) {G : GH} (h0 : I lo G)
    (hb : ∀ (k : Int → GH → Prop) (x : Int) (G1 : GH), lo ≤ x → x ≤ hi → I x G1 → (∀ G2, x < hi → I (x + 1) G2 → k (x + 1) G2) → b k x G1) : loop2 b lo G := by
  refine loopI2 (I := fun x G1 => lo ≤ x ∧ x ≤ hi ∧ I x G1) (μ := fun x _ => (hi - x).toNat) (fun k x G1 hI ih => ?_) lo G ⟨Int.le_refl _, hlh, h0⟩
  obtain ⟨h1, h2, h3⟩ := hI
  exact hb k x G1 h1 h2 h3 (fun G2 hx h4 => ih _ _ ⟨by omega, by omega, h4⟩ (by omega))
/-- an index alone -/
theorem ix_loop {b : (Int → Prop) → Int → Prop} (I : Int → Prop) (lo hi : Int) (hlh : lo ≤ hi) (h0 : I lo)
    (hb : ∀ (k : Int → Prop) (x : Int), lo ≤ x → x ≤ hi → I x → (x < hi → I (x + 1) → k (x + 1)) → b k x) : loop1 b lo := by
  refine loopI1 (I := fun x => lo ≤ x ∧ x ≤ hi ∧ I x) (μ := fun x => (hi - x).toNat) (fun k x hI ih => ?_) lo ⟨Int.le_refl _, hlh, h0⟩
  obtain ⟨h1, h2, h3⟩ := hI
  exact hb k x h1 h2 h3 (fun hx h4 => ih _ ⟨by omega, by omega, h4⟩ (by omega))
-- bits of small sets
theorem zOr_n (x y : Nat) : zOr (x : Int) (y : Int) = ((x ||| y : Nat) : Int) ∨ 2147483648 ≤ x ∨ 2147483648 ≤ y := by
  by_cases h1 : 2147483648 ≤ x
  · exact Or.inr (Or.inl h1)
  · by_cases h2 : 2147483648 ≤ y
    · exact Or.inr (Or.inr h2)
    · left
      unfold zOr
      rw [zI_or]
      have : x ||| y < 2 ^ 31 := Nat.or_lt_two_pow (by omega) (by omega)
      exact zI_toInt ⟨by omega, by omega⟩
theorem zAnd_n {x y : Nat} (hx : x < 2147483648) : zAnd (x : Int) (y : Int) = ((x &&& y : Nat) : Int) := by
  unfold zAnd
  rw [zI_and]
  have : x &&& y ≤ x := Nat.and_le_left
  exact zI_toInt ⟨by omega, by omega⟩
theorem zShl_n {x y : Nat} (hy : y < 32) (h : x * 2 ^ y < 2147483648) : zShl (x : Int) (y : Int) = ((x * 2 ^ y : Nat) : Int) := by
  unfold zShl
  rw [zI_shl x hy]
  exact zI_toInt ⟨by omega, by omega⟩
theorem zShr_n {x y : Nat} (hx : x < 2147483648) (hy : y < 32) : zShr (x : Int) (y : Int) = ((x / 2 ^ y : Nat) : Int) := by
  unfold zShr
  rw [zI_shr hx hy]
  have : x / 2 ^ y ≤ x := Nat.div_le_self _ _
  generalize x / 2 ^ y = z at this ⊢
  exact zI_toInt ⟨by omega, by omega⟩
/-- the digit d is in the set x -/
def bit (x d : Int) : Prop := x.toNat.testBit d.toNat = true
theorem zbit {x d : Int} (hx0 : 0 ≤ x) (hx : x < 2147483648) (hd0 : 0 ≤ d) (hd : d < 32) : zAnd (zShr x d) 1 = if x.toNat.testBit d.toNat then 1 else 0 := by
  obtain ⟨n, rfl⟩ := Int.eq_ofNat_of_zero_le hx0
  obtain ⟨m, rfl⟩ := Int.eq_ofNat_of_zero_le hd0
  rw [zShr_n (by omega) (by omega)]
  have h1 : n / 2 ^ m ≤ n := Nat.div_le_self _ _
  rw [show (1 : Int) = ((1 : Nat) : Int) from rfl, zAnd_n (by omega)]
  show ((n / 2 ^ m &&& 1 : Nat) : Int) = if n.testBit m then ((1 : Nat) : Int) else 0
  rw [Nat.testBit_eq_decide_div_mod_eq, Nat.and_one_is_mod]
  by_cases h : n / 2 ^ m % 2 = 1
  · simp [h]
  · have h2 : n / 2 ^ m % 2 = 0 := by omega
    simp [h2]
