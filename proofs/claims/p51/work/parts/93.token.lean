-- ===== PURE LAYER: load, the tokens of the text: what both sides read =====
abbrev BT : Type := Nat → Int
def runF (P : Int → Bool) (n : Int) : Nat → Int → Int
  | 0, p => p
  | k + 1, p => if p < n ∧ P p = true then runF P n k (p + 1) else p
def runT (P : Int → Bool) (n p : Int) : Int := runF P n (n - p).toNat p
theorem run_1 {P : Int → Bool} {n p : Int} (h : p < n) (hp : P p = true) : runT P n p = runT P n (p + 1) := by
  unfold runT
  rw [show (n - p).toNat = (n - (p + 1)).toNat + 1 by omega]
  exact if_pos ⟨h, hp⟩
theorem run_0 {P : Int → Bool} {n p : Int} (h : ¬ (p < n ∧ P p = true)) : runT P n p = p := by
  unfold runT
  cases (n - p).toNat with
  | zero => rfl
  | succ k => exact if_neg h
theorem runF_rng (P : Int → Bool) (n : Int) : ∀ (k : Nat) (p : Int), n - p ≤ k → (p ≤ runF P n k p ∧ (p ≤ n → runF P n k p ≤ n)) ∧ ¬ (runF P n k p < n ∧ P (runF P n k p) = true) := by
  intro k
  induction k with
  | zero => intro p h; exact ⟨⟨Int.le_refl _, fun q => q⟩, fun q => by have : p < n := q.1; omega⟩
  | succ k ih =>
    intro p h
    have e : runF P n (k + 1) p = if p < n ∧ P p = true then runF P n k (p + 1) else p := rfl
    rw [e]
    by_cases c : p < n ∧ P p = true
    · rw [if_pos c]
      have := ih (p + 1) (by omega)
      exact ⟨⟨by omega, fun _ => this.1.2 (by omega)⟩, this.2⟩
    · rw [if_neg c]
      exact ⟨⟨Int.le_refl _, fun q => q⟩, c⟩
theorem run_rng {P : Int → Bool} {n p : Int} (h : p ≤ n) : p ≤ runT P n p ∧ runT P n p ≤ n := by
  have := runF_rng P n (n - p).toNat p (by omega)
  exact ⟨this.1.1, this.1.2 h⟩
theorem run_end {P : Int → Bool} {n p : Int} : ¬ (runT P n p < n ∧ P (runT P n p) = true) := (runF_rng P n (n - p).toNat p (by omega)).2
def isSpB (T : BT) (p : Int) : Bool := decide (T p.toNat = 32)
def isLeB (T : BT) (p : Int) : Bool := decide (97 ≤ T p.toNat ∧ T p.toNat ≤ 122)
def isDiB (T : BT) (p : Int) : Bool := decide (48 ≤ T p.toNat ∧ T p.toNat ≤ 57)
def skT (T : BT) (n p : Int) : Int := runT (isSpB T) n p
def kdT (T : BT) (n p : Int) : Int := if n ≤ p then 0 else if 97 ≤ T p.toNat ∧ T p.toNat ≤ 122 then 1 else if 48 ≤ T p.toNat ∧ T p.toNat ≤ 57 then 2 else 3
def enT (T : BT) (n p : Int) : Int := if n ≤ p then p else if 97 ≤ T p.toNat ∧ T p.toNat ≤ 122 then runT (isLeB T) n p else if 48 ≤ T p.toNat ∧ T p.toNat ≤ 57 then runT (isDiB T) n p else p + 1
def nuF (T : BT) (n : Int) : Nat → Int → Int → Int
  | 0, v, _ => v
  | k + 1, v, p => if p < n ∧ isDiB T p = true then nuF T n k (min (v * 10 + T p.toNat - 48) 1000000) (p + 1) else v
def nvT (T : BT) (n v p : Int) : Int := nuF T n (n - p).toNat v p
def vlT (T : BT) (n p : Int) : Int := if kdT T n p = 2 then nvT T n 0 p else T p.toNat
def nxT (T : BT) (n p : Int) : Int := skT T n (enT T n p)
def nmT (T : BT) (n lo hi p : Int) : Int := if kdT T n p ≠ 2 then 1 else if lo ≤ vlT T n p ∧ vlT T n p ≤ hi then 0 else 2
abbrev isWd (T : BT) (n : Int) (w : Nat) (p : Int) : Prop := kdT T n p = 1 ∧ enT T n p - p = slen w ∧ ∀ i, i < (slen w).toNat → T (p.toNat + i) = schr w i
abbrev TxO (T : BT) (n : Int) : Prop := (0 ≤ n ∧ n ≤ 500) ∧ ∀ i : Nat, (i : Int) < n → 1 ≤ T i ∧ T i ≤ 255
section TOK
variable {T : BT} {n p : Int}
theorem nv_1 {v : Int} (h : p < n) (hp : isDiB T p = true) : nvT T n v p = nvT T n (min (v * 10 + T p.toNat - 48) 1000000) (p + 1) := by
  unfold nvT
  rw [show (n - p).toNat = (n - (p + 1)).toNat + 1 by omega]
  exact if_pos ⟨h, hp⟩
theorem nv_0 {v : Int} (h : ¬ (p < n ∧ isDiB T p = true)) : nvT T n v p = v := by
  unfold nvT
  cases (n - p).toNat with
  | zero => rfl
  | succ k => exact if_neg h
theorem isLe_t (h : 97 ≤ T p.toNat ∧ T p.toNat ≤ 122) : isLeB T p = true := decide_eq_true h
theorem isDi_t (h : 48 ≤ T p.toNat ∧ T p.toNat ≤ 57) : isDiB T p = true := decide_eq_true h
theorem isSp_t (h : T p.toNat = 32) : isSpB T p = true := decide_eq_true h
theorem isLe_f (h : ¬ (97 ≤ T p.toNat ∧ T p.toNat ≤ 122)) : ¬ (p < n ∧ isLeB T p = true) := fun q => h (of_decide_eq_true q.2)
theorem isDi_f (h : ¬ (48 ≤ T p.toNat ∧ T p.toNat ≤ 57)) : ¬ (p < n ∧ isDiB T p = true) := fun q => h (of_decide_eq_true q.2)
theorem isSp_f (h : T p.toNat ≠ 32) : ¬ (p < n ∧ isSpB T p = true) := fun q => h (of_decide_eq_true q.2)
theorem sk_rng (h : p ≤ n) : p ≤ skT T n p ∧ skT T n p ≤ n := run_rng h
theorem sk_sk : skT T n (skT T n p) = skT T n p := run_0 run_end
theorem en_rng (h : p ≤ n) : p ≤ enT T n p ∧ enT T n p ≤ n ∧ (p < n → p < enT T n p) := by
  unfold enT
  by_cases c : n ≤ p
  · rw [if_pos c]; omega
  rw [if_neg c]
  by_cases c2 : 97 ≤ T p.toNat ∧ T p.toNat ≤ 122
  · rw [if_pos c2, run_1 (by omega) (isLe_t c2)]
    have := run_rng (P := isLeB T) (n := n) (p := p + 1) (by omega)
    omega
  rw [if_neg c2]
  by_cases c3 : 48 ≤ T p.toNat ∧ T p.toNat ≤ 57
  · rw [if_pos c3, run_1 (by omega) (isDi_t c3)]
    have := run_rng (P := isDiB T) (n := n) (p := p + 1) (by omega)
    omega
  rw [if_neg c3]; omega
theorem nx_rng (h : p ≤ n) : p ≤ nxT T n p ∧ nxT T n p ≤ n ∧ (p < n → p < nxT T n p) := by
  have h1 := en_rng (T := T) h
  have h2 := sk_rng (T := T) h1.2.1
  unfold nxT
  omega
theorem kd_1 (h : p < n) (h2 : 97 ≤ T p.toNat ∧ T p.toNat ≤ 122) : kdT T n p = 1 := by unfold kdT; rw [if_neg (by omega), if_pos h2]
theorem kd_2 (h : p < n) (h2 : 48 ≤ T p.toNat ∧ T p.toNat ≤ 57) : kdT T n p = 2 := by unfold kdT; rw [if_neg (by omega), if_neg (by omega), if_pos h2]
theorem kd_3 (h : p < n) (h1 : ¬ (97 ≤ T p.toNat ∧ T p.toNat ≤ 122)) (h2 : ¬ (48 ≤ T p.toNat ∧ T p.toNat ≤ 57)) : kdT T n p = 3 := by unfold kdT; rw [if_neg (by omega), if_neg h1, if_neg h2]
theorem kd_0 (h : n ≤ p) : kdT T n p = 0 := if_pos h
theorem kd_of1 (h : kdT T n p = 1) : p < n ∧ 97 ≤ T p.toNat ∧ T p.toNat ≤ 122 := by
  by_cases c : n ≤ p
  · rw [kd_0 c] at h; omega
  by_cases c2 : 97 ≤ T p.toNat ∧ T p.toNat ≤ 122
  · exact ⟨by omega, c2⟩
  by_cases c3 : 48 ≤ T p.toNat ∧ T p.toNat ≤ 57
  · rw [kd_2 (by omega) c3] at h; omega
  · rw [kd_3 (by omega) c2 c3] at h; omega
theorem kd_of2 (h : kdT T n p = 2) : p < n ∧ 48 ≤ T p.toNat ∧ T p.toNat ≤ 57 := by
  by_cases c : n ≤ p
  · rw [kd_0 c] at h; omega
  by_cases c2 : 97 ≤ T p.toNat ∧ T p.toNat ≤ 122
  · rw [kd_1 (by omega) c2] at h; omega
  by_cases c3 : 48 ≤ T p.toNat ∧ T p.toNat ≤ 57
  · exact ⟨by omega, c3⟩
  · rw [kd_3 (by omega) c2 c3] at h; omega
theorem kd_of3 (h : kdT T n p = 3) : p < n ∧ ¬ (97 ≤ T p.toNat ∧ T p.toNat ≤ 122) ∧ ¬ (48 ≤ T p.toNat ∧ T p.toNat ≤ 57) := by
  by_cases c : n ≤ p
  · rw [kd_0 c] at h; omega
  by_cases c2 : 97 ≤ T p.toNat ∧ T p.toNat ≤ 122
  · rw [kd_1 (by omega) c2] at h; omega
  by_cases c3 : 48 ≤ T p.toNat ∧ T p.toNat ≤ 57
  · rw [kd_2 (by omega) c3] at h; omega
  · exact ⟨by omega, c2, c3⟩
theorem kd_of0 (h : kdT T n p = 0) : n ≤ p := by
  by_cases c : n ≤ p
  · exact c
  by_cases c2 : 97 ≤ T p.toNat ∧ T p.toNat ≤ 122
  · rw [kd_1 (by omega) c2] at h; omega
  by_cases c3 : 48 ≤ T p.toNat ∧ T p.toNat ≤ 57
  · rw [kd_2 (by omega) c3] at h; omega
  · rw [kd_3 (by omega) c2 c3] at h; omega
theorem vl_3 (h : kdT T n p = 3) : vlT T n p = T p.toNat := if_neg (by omega)
theorem vl_2 (h : kdT T n p = 2) : vlT T n p = nvT T n 0 p := if_pos h
end TOK
-- the class reads a token ahead
abbrev TkS (T : BT) (n : Int) (G : GH) (p : Int) : Prop := (0 ≤ p ∧ p ≤ n) ∧ G 41 6 = p ∧ G 41 5 = kdT T n p ∧ G 41 7 = enT T n p ∧ (2 ≤ kdT T n p → G 41 8 = vlT T n p)
section CTOK
variable {T : BT} {n p : Int} {G : GH}
theorem c_letter {Q : Int → Prop} {x : Int} (h : Q (b2 (97 ≤ x ∧ x ≤ 122))) : f_X5_isLetter x Q := by
  have h1 : f_X9_within x 97 122 Q := c_within h
  exact h1
theorem c_digit {Q : Int → Prop} {x : Int} (h : Q (b2 (48 ≤ x ∧ x ≤ 57))) : f_X5_isDigit x Q := by
  have h1 : f_X9_within x 48 57 Q := c_within h
  exact h1
theorem c_adv {Q : GH → Prop} {e : Int} (hT : TxO T n) (h1 : G 41 1 = n) (h2 : G 42 = T) (h7 : G 41 7 = e) (he : 0 ≤ e ∧ e ≤ n)
    (h : ∀ G' : GH, (∀ x, x ≠ 41 → G' x = G x) → (∀ k, ¬ (5 ≤ k ∧ k ≤ 8) → G' 41 k = G 41 k) → TkS T n G' (skT T n e) → Q G') : f_X5_advance G Q := by
  intro G1 e1
  have hn := hT.1
  have hs := sk_rng (T := T) he.2
  refine joinI1 (P := fun G4 : GH => (∀ x, x ≠ 41 → G4 x = G x) ∧ (∀ k, k ≠ 6 → G4 41 k = G 41 k) ∧ G4 41 6 = skT T n e) (fun G4 hP G5 e5 => ?_) (fun j hj => ?_)
  · obtain ⟨o4, p4, s4⟩ := hP
    generalize hp : skT T n e = p at *
    have a6 : G5 41 6 = p := by rw [e5, upG_nk (by omega)]; exact s4
    have a7 : G5 41 7 = p := by rw [e5, upG_same]; exact s4
    have a1 : G5 41 1 = n := by rw [e5, upG_nk (by omega), p4 1 (by omega)]; exact h1
    have a42 : G5 42 = T := by rw [e5, up_na (by omega), o4 42 (by omega)]; exact h2
    have o5 : ∀ x, x ≠ 41 → G5 x = G x := fun x hx => by rw [e5, up_na hx]; exact o4 x hx
    have p5 : ∀ k, ¬ (5 ≤ k ∧ k ≤ 8) → G5 41 k = G 41 k := fun k hk => by rw [e5, upG_nk (by omega)]; exact p4 k (by omega)
    rw [a6, a1]
    refine ⟨fun c => ⟨⟨by omega, by omega⟩, ?_⟩, fun c G6 e6 => ?_⟩
    · have hlt : p < n := by omega
      rw [a42]
      refine c_letter ⟨fun c2 => c_digit ⟨fun c3 G6 e6 => ?_, fun c3 G6 e6 G7 e7 => ?_⟩, fun c2 G6 e6 => ?_⟩
      · have n2 := b2_eq0 c2
        have n3 := b2_eq0 c3
        have k3 : kdT T n p = 3 := kd_3 hlt n2 n3
        have b6 : G6 41 6 = p := by rw [e6, upG_nk (by omega)]; exact a6
        have b7 : G6 41 7 = p := by rw [e6, upG_nk (by omega)]; exact a7
        have b42 : G6 42 = T := by rw [e6, up_na (by omega)]; exact a42
        rw [b6, b42]
        refine ⟨⟨by omega, by omega⟩, fun G7 e7 => ?_⟩
        have c7 : G7 41 7 = p := by rw [e7, upG_nk (by omega)]; exact b7
        rw [c7]
        refine ⟨⟨by omega, by omega⟩, fun G8 e8 => h G8 (fun x hx => by rw [e8, up_na hx, e7, up_na hx, e6, up_na hx]; exact o5 x hx) (fun k hk => by rw [e8, upG_nk (by omega), e7, upG_nk (by omega), e6, upG_nk (by omega)]; exact p5 k hk) ⟨by omega, ?_, ?_, ?_, fun _ => ?_⟩⟩
        · rw [e8, upG_nk (by omega), e7, upG_nk (by omega)]; exact b6
        · rw [e8, upG_nk (by omega), e7, upG_nk (by omega), e6, upG_same, k3]
        · rw [e8, upG_same]
          unfold enT
          rw [if_neg (show ¬ n ≤ p by omega), if_neg n2, if_neg n3]
        · rw [e8, upG_nk (by omega), e7, upG_same, vl_3 k3]
      · have n2 := b2_eq0 c2
        have d3 := b2_ne0 c3
        have k2 : kdT T n p = 2 := kd_2 hlt d3
        have en : enT T n p = runT (isDiB T) n p := by unfold enT; rw [if_neg (show ¬ n ≤ p by omega), if_neg n2, if_pos d3]
        have hr := run_rng (P := isDiB T) hs.2
        refine loopI1 (I := fun G8 : GH => (∀ x, x ≠ 41 → G8 x = G x) ∧ (∀ k, k ≠ 7 → k ≠ 8 → G8 41 k = G6 41 k) ∧ (p ≤ G8 41 7 ∧ G8 41 7 ≤ n) ∧ runT (isDiB T) n (G8 41 7) = runT (isDiB T) n p ∧ (0 ≤ G8 41 8 ∧ G8 41 8 ≤ 1000000) ∧ nvT T n (G8 41 8) (G8 41 7) = nvT T n 0 p) (μ := fun G8 : GH => (n - G8 41 7).toNat) (fun k G8 hI ih => ?_) G7 ⟨fun x hx => by rw [e7, up_na hx, e6, up_na hx]; exact o5 x hx, fun k _ k8 => by rw [e7, upG_nk k8], by rw [e7, upG_nk (by omega), e6, upG_nk (by omega), a7]; omega, by rw [e7, upG_nk (by omega), e6, upG_nk (by omega), a7], by rw [e7, upG_same]; omega, by rw [e7, upG_same, upG_nk (by omega), e6, upG_nk (by omega), a7]⟩
        obtain ⟨o8, p8, r8, q8, v8, w8⟩ := hI
        have l8 : G8 41 1 = n := by rw [p8 1 (by omega) (by omega), e6, upG_nk (by omega)]; exact a1
        have t8 : G8 42 = T := by rw [o8 42 (by omega)]; exact h2
        have stop : ¬ (G8 41 7 < n ∧ isDiB T (G8 41 7) = true) → Q G8 := fun st => by
          rw [run_0 st] at q8
          rw [nv_0 st] at w8
          refine h G8 o8 (fun k hk => by rw [p8 k (by omega) (by omega), e6, upG_nk (by omega)]; exact p5 k hk) ⟨by omega, ?_, ?_, ?_, fun _ => ?_⟩
          · rw [p8 6 (by omega) (by omega), e6, upG_nk (by omega)]; exact a6
          · rw [p8 5 (by omega) (by omega), e6, upG_same, k2]
          · rw [q8, en]
          · rw [w8, vl_2 k2]
        rw [l8, t8]
        refine ⟨fun c4 => stop (fun q => by omega), fun c4 => ⟨⟨by omega, by omega⟩, c_digit ⟨fun c5 => stop (isDi_f (b2_eq0 c5)), fun c5 => ?_⟩⟩⟩
        have d5 := b2_ne0 c5
        refine ⟨⟨by omega, by omega⟩, fun G9 e9 => ?_⟩
        have g97 : G9 41 7 = G8 41 7 := by rw [e9, upG_nk (by omega)]
        rw [g97]
        refine ⟨⟨by omega, by omega⟩, fun G10 e10 => ih G10 ⟨fun x hx => by rw [e10, up_na hx, e9, up_na hx]; exact o8 x hx, fun k k7 k8 => by rw [e10, upG_nk k7, e9, upG_nk k8]; exact p8 k k7 k8, by rw [e10, upG_same]; omega, by rw [e10, upG_same, ← run_1 c4 (isDi_t d5)]; exact q8, by rw [e10, upG_nk (by omega), e9, upG_same]; omega, ?_⟩ (by rw [e10, upG_same]; omega)⟩
        rw [e10, upG_same, upG_nk (by omega), e9, upG_same, ← nv_1 c4 (isDi_t d5)]
        exact w8
      · have d2 := b2_ne0 c2
        have k1 : kdT T n p = 1 := kd_1 hlt d2
        have en : enT T n p = runT (isLeB T) n p := by unfold enT; rw [if_neg (show ¬ n ≤ p by omega), if_pos d2]
        have hr := run_rng (P := isLeB T) hs.2
        refine loopI1 (I := fun G8 : GH => (∀ x, x ≠ 41 → G8 x = G x) ∧ (∀ k, k ≠ 7 → G8 41 k = G6 41 k) ∧ (p ≤ G8 41 7 ∧ G8 41 7 ≤ n) ∧ runT (isLeB T) n (G8 41 7) = runT (isLeB T) n p) (μ := fun G8 : GH => (n - G8 41 7).toNat) (fun k G8 hI ih => ?_) G6 ⟨fun x hx => by rw [e6, up_na hx]; exact o5 x hx, fun _ _ => rfl, by rw [e6, upG_nk (by omega), a7]; omega, by rw [e6, upG_nk (by omega), a7]⟩
        obtain ⟨o8, p8, r8, q8⟩ := hI
        have l8 : G8 41 1 = n := by rw [p8 1 (by omega), e6, upG_nk (by omega)]; exact a1
        have t8 : G8 42 = T := by rw [o8 42 (by omega)]; exact h2
        have stop : ¬ (G8 41 7 < n ∧ isLeB T (G8 41 7) = true) → Q G8 := fun st => by
          rw [run_0 st] at q8
          refine h G8 o8 (fun k hk => by rw [p8 k (by omega), e6, upG_nk (by omega)]; exact p5 k hk) ⟨by omega, ?_, ?_, ?_, fun w => by omega⟩
          · rw [p8 6 (by omega), e6, upG_nk (by omega)]; exact a6
          · rw [p8 5 (by omega), e6, upG_same, k1]
          · rw [q8, en]
        rw [l8, t8]
        refine ⟨fun c4 => stop (fun q => by omega), fun c4 => ⟨⟨by omega, by omega⟩, c_letter ⟨fun c5 => stop (isLe_f (b2_eq0 c5)), fun c5 G10 e10 => ?_⟩⟩⟩
        have d5 := b2_ne0 c5
        exact ih G10 ⟨fun x hx => by rw [e10, up_na hx]; exact o8 x hx, fun k k7 => by rw [e10, upG_nk k7]; exact p8 k k7, by rw [e10, upG_same]; omega, by rw [e10, upG_same, ← run_1 c4 (isLe_t d5)]; exact q8⟩ (by rw [e10, upG_same]; omega)
    · have k0 : kdT T n p = 0 := kd_0 (by omega)
      refine h G6 (fun x hx => by rw [e6, up_na hx]; exact o5 x hx) (fun k hk => by rw [e6, upG_nk (by omega)]; exact p5 k hk) ⟨by omega, ?_, ?_, ?_, fun w => by omega⟩
      · rw [e6, upG_nk (by omega)]; exact a6
      · rw [e6, upG_same, k0]
      · rw [e6, upG_nk (by omega), a7]
        unfold enT
        rw [if_pos (show n ≤ p by omega)]
  · refine loopI1 (I := fun G8 : GH => (∀ x, x ≠ 41 → G8 x = G x) ∧ (∀ k, k ≠ 6 → G8 41 k = G 41 k) ∧ (0 ≤ G8 41 6 ∧ G8 41 6 ≤ n) ∧ skT T n (G8 41 6) = skT T n e) (μ := fun G8 : GH => (n - G8 41 6).toNat) (fun k G8 hI ih => ?_) G1 ⟨fun x hx => by rw [e1, up_na hx], fun k hk => by rw [e1, upG_nk hk], by rw [e1, upG_same, h7]; omega, by rw [e1, upG_same, h7]⟩
    obtain ⟨o8, p8, r8, q8⟩ := hI
    have l8 : G8 41 1 = n := by rw [p8 1 (by omega)]; exact h1
    have t8 : G8 42 = T := by rw [o8 42 (by omega)]; exact h2
    have stop : ¬ (G8 41 6 < n ∧ isSpB T (G8 41 6) = true) → j G8 := fun st => hj G8 ⟨o8, p8, by rw [← q8]; exact (run_0 st).symm⟩
    rw [l8, t8]
    refine ⟨fun c4 => stop (fun q => by omega), fun c4 => ⟨⟨by omega, by omega⟩, fun c5 => stop (isSp_f c5), fun c5 G10 e10 => ?_⟩⟩
    exact ih G10 ⟨fun x hx => by rw [e10, up_na hx]; exact o8 x hx, fun k k7 => by rw [e10, upG_nk k7]; exact p8 k k7, by rw [e10, upG_same]; omega, by rw [e10, upG_same]; rw [← q8]; exact (run_1 c4 (isSp_t c5)).symm⟩ (by rw [e10, upG_same]; omega)
theorem c_word {Q : Int → Prop} {w : Nat} (hT : TxO T n) (h2 : G 42 = T) (t : TkS T n G p) (hw : w < 10) (h : Q (b2 (isWd T n w p))) : f_X5_isWord w G Q := by
  obtain ⟨t0, t6, t5, t7, t8⟩ := t
  have hn := hT.1
  have he := en_rng (T := T) t0.2
  unfold f_X5_isWord
  rw [t5, t6, t7, h2]
  refine ⟨fun c => ?_, fun c => ⟨⟨by omega, by omega⟩, fun c2 => ?_, fun c2 => ?_⟩⟩
  · rw [b2_f (fun q => c q.1)] at h; exact h
  · refine loopI1 (I := fun x : Int => 0 ≤ x ∧ x ≤ slen w ∧ ∀ i : Nat, (i : Int) < x → T (p.toNat + i) = schr w i) (μ := fun x : Int => (slen w - x).toNat) (fun k x hI ih => ?_) 0 ⟨by omega, by omega, fun i hi => by omega⟩
    obtain ⟨x0, x1, hx⟩ := hI
    have et : (p + x).toNat = p.toNat + x.toNat := by omega
    refine ⟨fun c3 => ?_, fun c3 => ⟨⟨by omega, by omega⟩, ⟨x0, c3⟩, fun c4 => ?_, fun c4 => ?_⟩⟩
    · rw [b2_t ⟨c, c2, fun i hi => hx i (by omega)⟩] at h; exact h
    · rw [et] at c4
      refine ih _ ⟨by omega, by omega, fun i hi => ?_⟩ (by omega)
      by_cases e : i = x.toNat
      · rw [e]; exact c4
      · exact hx i (by omega)
    · rw [et] at c4
      rw [b2_f (fun q => c4 (q.2.2 _ (by omega)))] at h; exact h
  · rw [b2_f (fun q => c2 q.2.1)] at h; exact h
theorem c_sign {Q : Int → Prop} {i : Int} (t : TkS T n G p) (hi : ¬ (97 ≤ i ∧ i ≤ 122) ∧ ¬ (48 ≤ i ∧ i ≤ 57)) (h : Q (b2 (p < n ∧ T p.toNat = i))) : f_X5_isSign i G Q := by
  obtain ⟨t0, t6, t5, t7, t8⟩ := t
  unfold f_X5_isSign
  rw [t5]
  refine ⟨fun c => ?_, fun c => ?_⟩
  · rw [b2_f (fun q => c (kd_3 q.1 (by rw [q.2]; exact hi.1) (by rw [q.2]; exact hi.2)))] at h; exact h
  · rw [t8 (by omega), vl_3 c]
    refine ⟨fun c2 => ?_, fun c2 => ?_⟩
    · rw [b2_f (fun q => c2 q.2)] at h; exact h
    · rw [b2_t ⟨(kd_of3 c).1, c2⟩] at h; exact h
theorem c_fail {Q : Int → GH → Prop} {e : Int} (t : TkS T n G p) (h : ∀ G' : GH, (∀ x, x ≠ 41 → G' x = G x) → (∀ k, k ≠ 2 → k ≠ 3 → G' 41 k = G 41 k) → G' 41 2 = e → G' 41 3 = p → Q 0 G') : f_X5_fail e G Q := by
  intro G1 e1 G2 e2
  refine h G2 (fun x hx => by rw [e2, up_na hx, e1, up_na hx]) (fun k k2 k3 => by rw [e2, upG_nk k3, e1, upG_nk k2]) (by rw [e2, upG_nk (by omega), e1, upG_same]) (by rw [e2, upG_same, e1, upG_nk (by omega)]; exact t.2.1)
theorem c_numb {Q : Int → GH → Prop} {lo hi : Int} (t : TkS T n G p) (h1 : nmT T n lo hi p = 0 → kdT T n p = 2 → lo ≤ vlT T n p ∧ vlT T n p ≤ hi → G 41 8 = vlT T n p → Q 1 G) (h0 : nmT T n lo hi p ≠ 0 → ∀ G' : GH, (∀ x, x ≠ 41 → G' x = G x) → (∀ k, k ≠ 2 → k ≠ 3 → G' 41 k = G 41 k) → G' 41 2 = nmT T n lo hi p → G' 41 3 = p → Q 0 G') : f_X5_isNumber lo hi G Q := by
  have t' := t
  obtain ⟨t0, t6, t5, t7, t8⟩ := t
  unfold f_X5_isNumber
  rw [t5]
  unfold nmT at h1 h0
  refine ⟨fun c => ?_, fun c => ?_⟩
  · rw [if_neg (show ¬ kdT T n p ≠ 2 from fun q => q c)] at h1 h0
    rw [t8 (by omega)]
    refine c_within ⟨fun c2 => ?_, fun c2 => ?_⟩
    · have d := b2_ne0 c2
      rw [if_pos d] at h1
      exact h1 rfl c d (t8 (by omega))
    · have d := b2_eq0 c2
      rw [if_neg d] at h0
      exact c_fail t' (fun G' g1 g2 g3 g4 => ⟨fun _ => h0 (by omega) G' g1 g2 g3 g4, fun q => absurd rfl q⟩)
  · rw [if_pos c] at h0
    exact c_fail t' (fun G' g1 g2 g3 g4 => h0 (by omega) G' g1 g2 g3 g4)
end CTOK
