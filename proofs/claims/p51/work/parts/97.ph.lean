-- ===== p51, PURE LAYER: sums of hung cards; canShow of one digit =====
theorem sumZ_pos {f : Int → Int} : ∀ n : Nat, (∀ s : Int, 0 ≤ s → s < n → 0 ≤ f s) → (0 < sumZ f n ↔ ∃ s : Int, 0 ≤ s ∧ s < n ∧ 0 < f s)
  | 0, _ => ⟨fun q => absurd q (by show ¬ (0 : Int) < 0; omega), fun ⟨s, h0, h1, _⟩ => by omega⟩
  | n + 1, h => by
    have e : sumZ f ((n + 1 : Nat) : Int) = sumZ f (n : Int) + f (n : Int) := by
      rw [Int.natCast_add]; exact sumZ_s (by omega)
    have ih := sumZ_pos (f := f) n (fun s s0 s1 => h s s0 (by omega))
    have hn := h (n : Int) (by omega) (by omega)
    have h0 := sumZ_ge (f := f) (x := (n : Int)) (fun s s0 s1 => h s s0 (by omega))
    rw [e]
    constructor
    · intro q
      by_cases c : 0 < f (n : Int)
      · exact ⟨(n : Int), by omega, by omega, c⟩
      · obtain ⟨s, s0, s1, s2⟩ := ih.mp (by omega)
        exact ⟨s, s0, by omega, s2⟩
    · rintro ⟨s, s0, s1, s2⟩
      by_cases c : s = (n : Int)
      · subst c; omega
      · have := ih.mpr ⟨s, s0, by omega, s2⟩
        omega
theorem plus_one {d : Int} (hd : 1 ≤ d ∧ d ≤ 9) : plusH (fun _ => 0) d 1 = bump (fun _ => 0) d 1 := by
  funext e
  show (0 : Int) + 1 * cntd d e = _
  unfold cntd
  rw [show d % 10 = d by omega, show d / 10 = 0 by omega, show (0 : Int) / 10 = 0 by omega, b2_f (show ¬ ((0 : Int) < 0 ∧ (0 : Int) % 10 = e) by omega)]
  by_cases c : e = d
  · rw [c, bump_eq, b2_t ⟨by omega, rfl⟩]; omega
  · rw [bump_ne c, b2_f (fun w => c w.2.symm)]; omega
theorem hall_one {D : Int → Nat} {L : Int → Int} {d : Int} (hd : 1 ≤ d ∧ d ≤ 9) (hL : ∀ s, 0 ≤ s → s < 43 → 0 ≤ L s) (hD : ∀ s, 0 ≤ s → s < 43 → D s < 1024) : hall 43 D L (plusH (fun _ => 0) d 1) ↔ ∃ s, (0 ≤ s ∧ s < 43) ∧ 0 < L s ∧ inS (D s) d := by
  rw [plus_one hd]
  constructor
  · intro h
    obtain ⟨s, s0, s1, s2, -⟩ := hall_pick (by omega) hL hD h (d := d) (by omega) (by rw [bump_eq]; omega)
    exact ⟨s, s0, s1, s2⟩
  · rintro ⟨s, s0, s1, s2⟩ X hX
    rw [need_bump (by omega)]
    have nz : need (fun _ => 0) X = 0 := sumZ_zero (fun i _ _ => by split <;> rfl)
    have cz : 0 ≤ can 43 D L X := sumZ_ge (fun i i0 i1 => by
      show 0 ≤ (if mts (D i) X then L i else 0)
      split
      · exact hL i i0 i1
      · omega)
    rw [nz]
    by_cases c : inS X d
    · rw [if_pos c]
      have hp := (sumZ_pos (f := fun i => if mts (D i) X then L i else 0) 43 (fun i i0 i1 => by
        show 0 ≤ (if mts (D i) X then L i else 0)
        split
        · exact hL i i0 (by omega)
        · omega)).mpr ⟨s, s0.1, by omega, by
          show 0 < (if mts (D s) X then L s else 0)
          rw [if_pos (fun w => by
            have := inS_and.mpr ⟨s2, c⟩
            rw [w] at this
            exact inS_0 this)]
          exact s1⟩
      have hp2 : 0 < can 43 D L X := hp
      omega
    · rw [if_neg c]; omega
section PH
variable {j : Int} {G : GH} {W : WT} {Q2 : Int → GH → Prop} {X2 : String → GH → Prop}
theorem cFr_42 : cFr W 42 = 0 ∨ cFr W 42 ≤ 0 := by
  right
  show cFr W 42 ≤ 0
  unfold cFr
  have z2 : cntW (-1) W 42 = 0 := by
    unfold cntW
    rw [if_pos rfl, if_pos rfl]
  have r := rankW_rng (W := W) (s := 42) (P := 54) (by omega)
  have e : hgW W 42 = rankW W 42 54 := rfl
  omega
theorem hall_free (hW : WF j W) {d : Int} (hd : 1 ≤ d ∧ d ≤ 9) : hall 43 (shW (-1) W) (cFr W) (plusH (fun _ => 0) d 1) ↔ 0 < freeW W d := by
  rw [hall_one hd (fun s s0 s1 => (cFr_rng hW s0 s1).1) (fun _ _ _ => shW_lt)]
  have hp := sumZ_pos (f := fun s => if wayW (-1) W s d = -1 then 0 else cntW (-1) W s - hgW W s) 42 (fun s s0 s1 => (free_rng hW s0 (by omega)).1)
  have e : freeW W d = sumZ (fun s => if wayW (-1) W s d = -1 then 0 else cntW (-1) W s - hgW W s) ((42 : Nat) : Int) := rfl
  rw [e, hp]
  constructor
  · rintro ⟨s, s0, s1, s2⟩
    have s42 : s ≠ 42 := fun w => by
      rw [w] at s1
      have := cFr_42 (W := W)
      omega
    refine ⟨s, s0.1, by omega, ?_⟩
    show 0 < (if wayW (-1) W s d = -1 then 0 else cntW (-1) W s - hgW W s)
    rw [if_neg ((shW_in (by omega)).mp s2)]
    exact s1
  · rintro ⟨s, s0, s1, s2⟩
    have s2' : 0 < (if wayW (-1) W s d = -1 then 0 else cntW (-1) W s - hgW W s) := s2
    by_cases c : wayW (-1) W s d = -1
    · rw [if_pos c] at s2'; omega
    · rw [if_neg c] at s2'
      exact ⟨s, ⟨s0, by omega⟩, s2', (shW_in (by omega)).mpr c⟩
theorem e_canShow {hy : Int} (hW : WF j W) (hR : RepS G 1 W) (hh : 1 ≤ hy ∧ hy ≤ 999) (h : ∀ v G2, (v = 0 ∨ v = 1) → (v = 1 ↔ hall 43 (shW (-1) W) (cFr W) (plusH (fun _ => 0) hy 1)) → (∀ x, ¬ (208 ≤ x ∧ x ≤ 229) → G2 x = G x) → Q2 v G2) : f_X9_canShow hy G Q2 X2 := by
  have cb : ∀ x, 0 ≤ x → x < 43 → 0 ≤ cFr W x ∧ cFr W x ≤ 720 := fun x x0 x1 => cFr_rng hW x0 x1
  unfold f_X9_canShow f_X4_couldShow
  refine c_needHymn (fun _ => ?_) (fun q => absurd hh q)
  refine c_offerFree hW hR (fun G1 m o1 q1 => ?_)
  have q43 := q1.skip (x := 42) (by omega) (by
    show cFr W 42 ≤ 0
    have := cFr_42 (W := W)
    omega)
  have lk := q43.lk
  have hz : ∀ x, 0 ≤ x → x < 43 → cFr W x ≤ 0 → cFr W x = 0 := fun x x0 x1 w => by
    have := cb x x0 x1
    omega
  have M := q43.mat (fun _ _ _ => shW_lt) (fun x x0 x1 => by have := cb x x0 x1; omega)
  refine c_addDigits (by omega) M (fun G2 o2 M2 => ?_) (fun G2 o2 M2 nh => ?_)
  · exact h 1 G2 (Or.inr rfl) ⟨fun _ => (lk.hallE hz).mp M2.hl, fun _ => rfl⟩ (fun x hx => by rw [o2 x (by omega), o1 x (by omega)])
  · exact h 0 G2 (Or.inl rfl) ⟨fun w => by omega, fun w => absurd ((lk.hallE hz).mpr w) nh⟩ (fun x hx => by rw [o2 x (by omega), o1 x (by omega)])
theorem hg_le {s : Int} : hgW W s ≤ 54 := by
  have := sumZ_le (f := fun p => b2 (plaW W p 1 = s)) (c := 1) (x := 54) (by omega) (fun _ _ _ => b2_le)
  show sumZ (fun p => b2 (plaW W p 1 = s)) 54 ≤ 54
  omega
/-- all that hangs, by sorts -/
theorem sorts_all (hW : WF j W) : sumZ (hgW W) 42 = ahW W := by
  have e : sumZ (hgW W) 42 = sumZ (fun s => sumZ (fun p => b2 (plaW W p 1 = s)) 54) 42 := rfl
  rw [e, sumZ_swap]
  refine sumZ_congr (fun p p0 p1 => ?_)
  have pl := hW.pl p p0 p1
  by_cases c : plaW W p 1 = -1
  · have : plaW W p 0 = -1 := pl.2.2.2.1.mpr c
    rw [b2_f (fun w => w this)]
    exact sumZ_zero (fun s s0 s1 => b2_f (by omega))
  · have : plaW W p 0 ≠ -1 := fun w => c (pl.2.2.2.1.mp w)
    rw [b2_t this]
    have h1 := sumZ_one0 (f := fun s => b2 (plaW W p 1 = s)) (j := plaW W p 1) (x := 42) (by omega) pl.2.1.2 (fun i _ _ hi => b2_f (fun w => hi w.symm))
    rw [h1]; exact b2_t rfl
theorem sumN_split2 {f : Int → Int} {m n : Nat} (hz : ∀ i : Int, m ≤ i → i < m + n → f i = 0) : sumN f (m + n) = sumN f m := by
  rw [sumN_split n, sumN_zero n (fun i h0 h1 => hz _ (by omega) (by omega))]; omega
/-- with one friend: own sorts and the friend's ten -/
theorem sorts_sum (hW : WF j W) (h4 : W 4 = 1) : sumZ (hgW W) (W 3) + sumZ (fun d => hgW W (12 + d)) 10 = ahW W := by
  rw [← sorts_all hW]
  have how := hW.ow
  have hlo := hW.lo
  have z1 : ∀ s, W 3 ≤ s → s < 12 → hgW W s = 0 := fun s s0 s1 => by
    have h1 := hW.hc s (by omega) (by omega)
    have h2 := hg_ge (W := W) (s := s)
    rw [cnt_own (by omega) s1, if_neg (by omega)] at h1
    omega
  have z2 : ∀ s, 22 ≤ s → s < 42 → hgW W s = 0 := fun s s0 s1 => by
    have h1 := hW.hc s (by omega) s1
    have h2 := hg_ge (W := W) (s := s)
    have e : cntW (-1) W s = borW W ((s - 12) / 10) ((s - 12) % 10) := by
      unfold cntW
      rw [if_neg (by omega), if_neg (by omega)]
    have b : borW W ((s - 12) / 10) ((s - 12) % 10) = 0 := sumZ_zero (fun l l0 l1 => by
      have ln := hW.ln l l0 l1
      rw [h4] at ln
      exact if_neg (by omega))
    omega
  show _ = sumN (hgW W) 42
  have s1 : sumN (hgW W) 42 = sumN (hgW W) 22 := sumN_split2 (m := 22) (n := 20) (fun i i0 i1 => z2 i (by omega) (by omega))
  have s2 : sumN (hgW W) 22 = sumN (hgW W) 12 + sumN (fun i => hgW W (((12 : Nat) : Int) + i)) 10 := sumN_split (f := hgW W) (m := 12) 10
  obtain ⟨n, hn⟩ : ∃ n : Nat, 12 = (W 3).toNat + n := ⟨12 - (W 3).toNat, by omega⟩
  have s3 : sumN (hgW W) 12 = sumN (hgW W) (W 3).toNat := by
    rw [hn]
    exact sumN_split2 (fun i i0 i1 => z1 i (by omega) (by omega))
  rw [s1, s2, s3]
  rfl
theorem free_most (hW : WF j W) {d : Int} : freeW W d ≤ mostW W d := sumZ_mono (fun s s0 s1 => by
  have := hg_ge (W := W) (s := s)
  show (if wayW (-1) W s d = -1 then 0 else cntW (-1) W s - hgW W s) ≤ (if wayW (-1) W s d = -1 then 0 else cntW (-1) W s)
  split <;> omega)
end PH
