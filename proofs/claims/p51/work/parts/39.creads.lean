-- ===== PURE LAYER: sums over the class's places; the reading methods and their arms =====
theorem up_up {G : GH} {a k : Nat} {v w : Int} : upG (upG G a k v) a k w = upG G a k w := by
  funext b l
  unfold upG
  by_cases h : b = a ∧ l = k
  · rw [if_pos h, if_pos h]
  · rw [if_neg h, if_neg h, if_neg h]
theorem HangS.sum3 {G : GH} {h : Nat} {W : WT} {j : Int} (hW : WF j W) (hH : HangS G h W) (f3 : Int → Int → Int → Int) (h0 : f3 (-1) (-1) (-1) = 0) :
    sumZ (fun p => f3 (G (h + 2) p.toNat) (G (h + 3) p.toNat) (G (h + 4) p.toNat)) 54 = sumZ (fun p => f3 (plaW W p 0) (plaW W p 1) (plaW W p 2)) 54 := by
  have := blk_sum hW (m := 3) (Or.inr rfl) (f := fun p => f3 (G (h + 2) p.toNat) (G (h + 3) p.toNat) (G (h + 4) p.toNat)) (f' := fun p => f3 (plaW W p 0) (plaW W p 1) (plaW W p 2)) (fun b i b0 b1 i0 i1 => ?_) (fun p p0 p1 => ?_)
  · exact this
  · obtain ⟨q1, q2⟩ := hH.2 b i b0 b1 i0 (by omega)
    refine ⟨fun c => ?_, fun c => ?_⟩
    · obtain ⟨e1, e2, e3⟩ := q1 c
      show f3 (G (h + 2) (18 * b + i).toNat) (G (h + 3) (18 * b + i).toNat) (G (h + 4) (18 * b + i).toNat) = _
      rw [e1, e2, e3]
    · obtain ⟨e1, e2, e3⟩ := q2 c
      show f3 (G (h + 2) (18 * b + i).toNat) (G (h + 3) (18 * b + i).toNat) (G (h + 4) (18 * b + i).toNat) = _
      rw [e1, e2, e3, h0]
  · have hal := hW.allR
    have z := hW.pf p p0 (by omega)
    have pl := hW.pl p (by omega) (by omega)
    show f3 (plaW W p 0) (plaW W p 1) (plaW W p 2) = 0
    rw [z, pl.2.2.2.1.mp z, pl.2.2.2.2.mp z, h0]
/-- a row of the class and its hymn, summed -/
theorem HangS.sum1 {G : GH} {h : Nat} {W : WT} {j : Int} (hW : WF j W) {f f' : Int → Int} (hf : ∀ b r : Int, 0 ≤ b → b < 3 → 0 ≤ r → r < 6 → (actv W 1 b r → f (6 * b + r) = f' (frstW W b + r)) ∧ (¬ actv W 1 b r → f (6 * b + r) = 0)) (hz : ∀ r, allRW W ≤ r → r < 18 → f' r = 0) :
    sumZ f 18 = sumZ f' 18 := by
  have := blk_sum hW (m := 1) (Or.inl rfl) (f := f) (f' := f') (fun b i b0 b1 i0 i1 => by
    have := hf b i b0 b1 i0 (by omega)
    rw [Int.one_mul]
    exact this) (fun p p0 p1 => hz p (by omega) (by omega))
  exact this
section CCNT
variable {G : GH} {a h : Nat} {Q : Int → Prop} {j : Int} {W : WT}
theorem c_countCards (hW : WF j W) (hH : HangS G h W) (hq : Q (ahW W)) : f_X0_countCards h G Q := by
  have e := hH.sum3 hW (fun x _ _ => b2 (x ≠ -1)) (by rfl)
  unfold f_X0_countCards
  refine cnt_loop (fun p => G (h + 2) p.toNat ≠ -1) 54 ⟨by omega, by omega⟩ (fun k acc x h0 h1 ha he ht hf => ⟨fun c => ?_, fun c => ⟨⟨h0, c⟩, fun c1 => ?_, fun c1 => ⟨⟨by omega, by omega⟩, ht c c1⟩⟩⟩)
  · rw [he (by omega), e]; exact hq
  · have := hf c (fun q => q c1); rw [Int.add_zero] at this; exact this
theorem c_countTurned (hW : WF j W) (hH : HangS G h W) (hq : Q (tuW W)) : f_X0_countTurned h G Q := by
  have e := hH.sum3 hW (fun _ _ x => b2 (x = 2 ∨ x = 3)) (by rfl)
  have e2 : tuW W = sumZ (fun p => b2 (plaW W p 2 = 2 ∨ plaW W p 2 = 3)) 54 := sumZ_congr (fun p p0 p1 => b2_iff (by have := (hW.pl p p0 p1).2.2.1; omega))
  rw [e2] at hq
  unfold f_X0_countTurned
  refine cnt_loop (fun p => G (h + 4) p.toNat = 2 ∨ G (h + 4) p.toNat = 3) 54 ⟨by omega, by omega⟩ (fun k acc x h0 h1 ha he ht hf => ⟨fun c => ?_, fun c => ⟨⟨h0, c⟩, fun c1 => ⟨⟨by omega, by omega⟩, ht c (Or.inl c1)⟩, fun c1 => ⟨fun c2 => ?_, fun c2 => ⟨⟨by omega, by omega⟩, ht c (Or.inr c2)⟩⟩⟩⟩)
  · rw [he (by omega), e]; exact hq
  · have := hf c (fun q => q.elim c1 c2); rw [Int.add_zero] at this; exact this
theorem c_countBacks (hW : WF j W) (hH : HangS G h W) (hq : Q (baW W)) : f_X0_countBacks h G Q := by
  have e := hH.sum3 hW (fun _ _ x => b2 (x = 1 ∨ x = 3)) (by rfl)
  unfold f_X0_countBacks
  refine cnt_loop (fun p => G (h + 4) p.toNat = 1 ∨ G (h + 4) p.toNat = 3) 54 ⟨by omega, by omega⟩ (fun k acc x h0 h1 ha he ht hf => ⟨fun c => ?_, fun c => ⟨⟨h0, c⟩, fun c1 => ⟨⟨by omega, by omega⟩, ht c (Or.inl c1)⟩, fun c1 => ⟨fun c2 => ?_, fun c2 => ⟨⟨by omega, by omega⟩, ht c (Or.inr c2)⟩⟩⟩⟩)
  · rw [he (by omega), e]; exact hq
  · have := hf c (fun q => q.elim c1 c2); rw [Int.add_zero] at this; exact this
theorem c_countBorrowed (hW : WF j W) (hH : HangS G h W) (hq : Q (boW W)) : f_X0_countBorrowed h G Q := by
  have e := hH.sum3 hW (fun _ x _ => b2 (12 ≤ x)) (by rfl)
  have e2 : boW W = sumZ (fun p => b2 (12 ≤ plaW W p 1)) 54 := sumZ_congr (fun p p0 p1 => b2_iff (by have := hW.pl p p0 p1; omega))
  rw [e2] at hq
  unfold f_X0_countBorrowed
  refine cnt_loop (fun p => 12 ≤ G (h + 3) p.toNat) 54 ⟨by omega, by omega⟩ (fun k acc x h0 h1 ha he ht hf => ⟨fun c => ?_, fun c => ⟨⟨h0, c⟩, fun c1 => ?_, fun c1 => ⟨⟨by omega, by omega⟩, ht c c1⟩⟩⟩)
  · rw [he (by omega), e]; exact hq
  · have := hf c (by show ¬ 12 ≤ G (h + 3) x.toNat; omega); rw [Int.add_zero] at this; exact this
end CCNT
section MCHK
variable {G : GH} {Q : Int → Prop} {Z : Int → GH → Prop} {j : Int}
theorem p10_join {p : Prop} [Decidable p] {F : Int → Prop} (h0 : p → F 0) (h1 : ¬ p → F 1) : join1 F (fun k => (b2 p ≠ 0 → k 0) ∧ (b2 p = 0 → k 1)) :=
  ⟨fun c => h0 (b2_ne0 c), fun c => h1 (b2_eq0 c)⟩
theorem p10_join' {p : Prop} [Decidable p] {F : Int → Prop} (h0 : p → F 0) (h1 : ¬ p → F 1) : join1 F (fun k => (b2 p = 0 → k 1) ∧ (b2 p ≠ 0 → k 0)) :=
  ⟨fun c => h1 (b2_eq0 c), fun c => h0 (b2_ne0 c)⟩
/-- wrong at 0: go on at 0, else answer 0 -/
theorem z01 {A : Prop} {B : Prop} (h : A) : ((0 : Int) = 0 → A) ∧ ((0 : Int) ≠ 0 → B) := ⟨fun _ => h, fun c => absurd rfl c⟩
theorem z01' {A : Prop} {B : Prop} (h : A) : ((0 : Int) ≠ 0 → B) ∧ ((0 : Int) = 0 → A) := ⟨fun c => absurd rfl c, fun _ => h⟩
theorem z10 {A : Prop} {B : Prop} (h : B) : ((1 : Int) = 0 → A) ∧ ((1 : Int) ≠ 0 → B) := ⟨fun c => by omega, fun _ => h⟩
theorem z10' {A : Prop} {B : Prop} (h : B) : ((1 : Int) ≠ 0 → B) ∧ ((1 : Int) = 0 → A) := ⟨fun _ => h, fun c => by omega⟩
abbrev isOwnW (W : WT) (c : Int) : Prop := 0 ≤ c ∧ c ≤ W 3 - 1
abbrev isCardW (W : WT) (c : Int) : Prop := (0 ≤ c ∧ c < W 3) ∨ (100 ≤ c ∧ c < 100 + 10 * W 4)
end MCHK
