-- ===== PURE LAYER: a State started anew; the beginning of the law =====
def ZW (W : WT) : Prop := (0 ≤ W 0 ∧ W 0 ≤ 3) ∧ (W 1 = 0 ∨ W 1 = 1) ∧ (W 2 = 0 ∨ W 2 = 1) ∧ W 3 = 0 ∧ W 4 = 0 ∧ W 5 = 0 ∧ W 6 = 0 ∧ W 7 = -1 ∧ W 8 = 0 ∧ W 9 = 0 ∧ W 10 = 0 ∧ W 11 = 0 ∧ (∀ b : Int, 0 ≤ b → b < W 0 → 1 ≤ rowW W b ∧ rowW W b ≤ 6) ∧ ∀ k, 276 ≤ k → k < 456 → W k = -1
def ZR (G : GH) (a : Nat) : Prop := G (a + 2) 1 = 0 ∧ G (a + 2) 5 = 0 ∧ G (a + 2) 8 = 0 ∧ (∀ s : Int, 0 ≤ s → s < 42 → G (a + 5) s.toNat = 0) ∧ G (a + 11) 0 = 0 ∧ G (a + 14) 0 = -1 ∧ (∀ i : Int, 0 ≤ i → i < 18 → G (a + 15) i.toNat = -1) ∧ (∀ i : Int, 0 ≤ i → i < 54 → G (a + 16) i.toNat = -1 ∧ G (a + 17) i.toNat = -1 ∧ G (a + 18) i.toNat = -1) ∧ (∀ s : Int, 0 ≤ s → s < 42 → G (a + 19) s.toNat = 0) ∧ G a 6 = 0 ∧ G a 7 = 0 ∧ G a 8 = 0 ∧ G a 9 = 0
def ZS (G : GH) (a : Nat) (W : WT) : Prop := ZR G a ∧ G a 0 = W 0 ∧ (∀ b : Int, 0 ≤ b → b < W 0 → G (a + 1) b.toNat = rowW W b) ∧ G a 2 = W 2 ∧ G (a + 2) 0 = W 1
theorem sumZ_z {f : Int → Int} {x : Int} (h0 : 0 ≤ x) (h : ∀ i, 0 ≤ i → i < x → f i = 0) : sumZ f x = 0 := by
  have a := sumZ_ge (f := f) (x := x) (fun i i0 i1 => by rw [h i i0 i1]; exact Int.le_refl _)
  have b := sumZ_le (f := f) (c := 0) h0 (fun i i0 i1 => by rw [h i i0 i1]; exact Int.le_refl _)
  omega
section ZZ
variable {W : WT} {j : Int} {G : GH} {a : Nat}
theorem ZW.pla (z : ZW W) {p h : Int} (p0 : 0 ≤ p) (p1 : p < 54) (h0 : 0 ≤ h) (h1 : h < 3) : plaW W p h = -1 := z.2.2.2.2.2.2.2.2.2.2.2.2.2 _ (by omega) (by omega)
theorem ZW.hun (z : ZW W) {r : Int} (r0 : 0 ≤ r) (r1 : r < 18) : hunW W r = -1 := z.2.2.2.2.2.2.2.2.2.2.2.2.2 _ (by omega) (by omega)
theorem ZW.hg (z : ZW W) {s : Int} (s0 : 0 ≤ s) : hgW W s = 0 := sumZ_z (by omega) (fun p p0 p1 => b2_f (by rw [z.pla p0 p1 (by omega) (by omega)]; omega))
theorem ZW.bor (z : ZW W) {f d : Int} : borW W f d = 0 := by
  unfold borW
  rw [z.2.2.2.2.2.2.1]; rfl
theorem ZW.cnt (z : ZW W) {s : Int} (s0 : 0 ≤ s) (s1 : s < 42) : cntW (-1) W s = 0 := by
  by_cases c : s < 12
  · rw [cnt_own s0 c, z.2.2.2.1, if_neg (show ¬ s < 0 by omega)]
  · rw [cnt_bor (by omega) s1]; exact z.bor
theorem ZW.wf (z : ZW W) (h0 : 1 ≤ W 0) (hj : 0 ≤ j) : WF j W := by
  have z' := z
  obtain ⟨a0, a1, a2, a3, a4, a5, a6, a7, a8, a9, a10, a11, ar, ak⟩ := z
  refine ⟨⟨h0, a0.2⟩, a1, a2, by omega, by omega, by omega, by omega, by omega, by omega, by omega, by omega, by omega, ar, fun k k0 k1 => by omega, fun f f0 f1 => by omega, fun l l0 l1 => by omega, fun s s0 s1 => by omega, fun p p0 p1 => ?_, fun p p0 p1 => ?_, fun r r0 r1 => Or.inl (z'.hun r0 r1), fun r r0 r1 => ?_, fun s s0 s1 => ?_, fun _ p p0 p1 => z'.pla p0 p1 (by omega) (by omega)⟩
  · rw [z'.pla p0 p1 (by omega) (by omega), z'.pla p0 p1 (by omega) (by omega), z'.pla p0 p1 (by omega) (by omega)]
    omega
  · by_cases c : 0 ≤ p
    · exact z'.pla c p1 (by omega) (by omega)
    · have : 0 ≤ allRW W := sumZ_ge (fun i i0 i1 => by have := ar i i0 i1; omega)
      omega
  · by_cases c : 0 ≤ r
    · exact z'.hun c r1
    · have : 0 ≤ allRW W := sumZ_ge (fun i i0 i1 => by have := ar i i0 i1; omega)
      omega
  · rw [z'.hg s0, z'.cnt s0 s1]; exact Int.le_refl _
theorem ZS.rep (q : ZS G a W) (z : ZW W) (h0 : 1 ≤ W 0) : RepS G a W := by
  have hW : WF 0 W := z.wf h0 (Int.le_refl _)
  have z' := z
  obtain ⟨a0, a1, a2, a3, a4, a5, a6, a7, a8, a9, a10, a11, ar, ak⟩ := z
  obtain ⟨⟨q1, q2, q3, q4, q5, q6, q7, q8, q9, q10, q11, q12, q13⟩, q0, qr, qs, qt⟩ := q
  refine ⟨q0, qr, qs, qt, by rw [q1, a3], by rw [q2, a4], by rw [q3, a6], fun k k0 k1 => by omega, fun s s0 s1 => by rw [q4 s s0 s1, z'.cnt s0 s1], fun f f0 f1 => by omega, fun l l0 l1 => by omega, by rw [q5, a5], fun s s0 s1 => by omega, by rw [q6, a7], ⟨fun b r b0 b1 r0 r1 => ⟨fun c => ?_, fun _ => ?_⟩, fun b i b0 b1 i0 i1 => ⟨fun c => ?_, fun _ => ?_⟩⟩, fun s s0 s1 => by rw [q9 s s0 s1, z'.hg s0], by rw [q10, a8], by rw [q11, a9], by rw [q12, a10], by rw [q13, a11]⟩
  · unfold actv at c
    have := hW.rowlt (b := b) (r := r) ⟨⟨b0, c.1⟩, r0, by omega⟩
    rw [z'.hun (by omega) (by omega)]
    exact q7 (6 * b + r) (by omega) (by omega)
  · exact q7 (6 * b + r) (by omega) (by omega)
  · unfold actv at c
    have := hW.rowlt (b := b) (r := i / 3) ⟨⟨b0, c.1⟩, by omega, by omega⟩
    rw [z'.pla (by omega) (by omega) (by omega) (by omega), z'.pla (by omega) (by omega) (by omega) (by omega), z'.pla (by omega) (by omega) (by omega) (by omega)]
    exact q8 (18 * b + i) (by omega) (by omega)
  · exact q8 (18 * b + i) (by omega) (by omega)
theorem ZR.congr {G' : GH} (e : ∀ x, a ≤ x → x ≤ a + 19 → x ≠ a → x ≠ a + 1 → x ≠ a + 2 → G' x = G x) (e0 : ∀ k, 6 ≤ k → k ≤ 9 → G' a k = G a k) (e2 : ∀ k, k ≠ 0 → G' (a + 2) k = G (a + 2) k) (z : ZR G a) : ZR G' a := by
  unfold ZR
  rw [e0 6 (by omega) (by omega), e0 7 (by omega) (by omega), e0 8 (by omega) (by omega), e0 9 (by omega) (by omega), e2 1 (by omega), e2 5 (by omega), e2 8 (by omega), e (a + 5) (by omega) (by omega) (by omega) (by omega) (by omega), e (a + 11) (by omega) (by omega) (by omega) (by omega) (by omega), e (a + 14) (by omega) (by omega) (by omega) (by omega) (by omega), e (a + 15) (by omega) (by omega) (by omega) (by omega) (by omega), e (a + 16) (by omega) (by omega) (by omega) (by omega) (by omega), e (a + 17) (by omega) (by omega) (by omega) (by omega) (by omega), e (a + 18) (by omega) (by omega) (by omega) (by omega) (by omega), e (a + 19) (by omega) (by omega) (by omega) (by omega) (by omega)]
  exact z
theorem c_startAnew {Q : GH → Prop} (h : ∀ G' : GH, (∀ x, ¬ (a ≤ x ∧ x ≤ a + 19) → G' x = G x) → ZR G' a → G' a 0 = 0 → G' a 2 = 0 → G' (a + 2) 0 = 0 → Q G') : f_X7_startAnew a G Q := by
  intro G1 e1 G2 e2 B1 d1 B2 d2 B3 d3 B4 d4 B5 d5 B6 d6 G4 e4
  refine c_allDown (fun G5 o5 p5 v5 w5 x5 G6 e6 G7 e7 G8 e8 G9 e9 => ?_)
  have r9 : ∀ x, x ≠ a → G9 x = G5 x := fun x hx => by rw [e9, up_na hx, e8, up_na hx, e7, up_na hx, e6, up_na hx]
  have r4 : ∀ x, x ≠ a → x ≠ a + 2 → x ≠ a + 5 → x ≠ a + 7 → x ≠ a + 11 → G4 x = G x := fun x h0 h2 h5 h7 h11 => by rw [e4, up_na h11, d6, flG_na h7, d5, flG_na h5, d4, up_na h2, d3, up_na h2, d2, up_na h2, d1, up_na h2, e2, up_na h0, e1, up_na h0]
  have b2 : ∀ k, G4 (a + 2) k = B4 (a + 2) k := fun k => by rw [e4, up_na (by omega), d6, flG_na (by omega), d5, flG_na (by omega)]
  have k2 : ∀ k, G9 (a + 2) k = B4 (a + 2) k := fun k => by rw [r9 _ (by omega), o5 _ (by omega), b2]
  have ka : ∀ k, k < 6 → G9 a k = G2 a k := fun k hk => by rw [e9, upG_nk (by omega), e8, upG_nk (by omega), e7, upG_nk (by omega), e6, upG_nk (by omega), o5 _ (by omega), e4, up_na (by omega), d6, flG_na (by omega), d5, flG_na (by omega), d4, up_na (by omega), d3, up_na (by omega), d2, up_na (by omega), d1, up_na (by omega)]
  refine h G9 (fun x hx => by rw [r9 x (by omega), o5 x (by omega), r4 x (by omega) (by omega) (by omega) (by omega) (by omega)]) ⟨?_, ?_, ?_, fun s s0 s1 => ?_, ?_, ?_, fun i i0 i1 => ?_, fun i i0 i1 => ?_, fun s s0 s1 => ?_, ?_, ?_, ?_, ?_⟩ ?_ ?_ ?_
  · rw [k2, d4, upG_nk (by omega), d3, upG_nk (by omega), d2, upG_same]
  · rw [k2, d4, upG_nk (by omega), d3, upG_same]
  · rw [k2, d4, upG_same]
  · rw [r9 _ (by omega), o5 _ (by omega), e4, up_na (by omega), d6, flG_na (by omega), d5]
    exact flG_at (by omega)
  · rw [r9 _ (by omega), o5 _ (by omega), e4, upG_same]
  · rw [r9 _ (by omega)]; exact p5
  · rw [r9 _ (by omega)]; exact v5 _ (by omega)
  · rw [r9 _ (by omega), r9 _ (by omega), r9 _ (by omega)]; exact w5 _ (by omega)
  · rw [r9 _ (by omega)]; exact x5 _ (by omega)
  · rw [e9, upG_nk (by omega), e8, upG_nk (by omega), e7, upG_nk (by omega), e6, upG_same]
  · rw [e9, upG_nk (by omega), e8, upG_nk (by omega), e7, upG_same]
  · rw [e9, upG_nk (by omega), e8, upG_same]
  · rw [e9, upG_same]
  · rw [ka 0 (by omega), e2, upG_nk (by omega), e1, upG_same]
  · rw [ka 2 (by omega), e2, upG_same]
  · rw [k2, d4, upG_nk (by omega), d3, upG_nk (by omega), d2, upG_nk (by omega), d1, upG_same]
/-- what the reference begins with; V: its row before -/
def beW (V : WT) : WT := fun k => if k = 7 then -1 else if k < 276 then 0 else if k < 456 then -1 else V k
theorem be_zw {V : WT} : ZW (beW V) := ⟨⟨Int.le_refl 0, (show (0 : Int) ≤ 3 by decide)⟩, Or.inl rfl, Or.inl rfl, rfl, rfl, rfl, rfl, rfl, rfl, rfl, rfl, rfl, fun b b0 b1 => by have : b < 0 := b1; omega, fun k k0 k1 => by unfold beW; rw [if_neg (by omega), if_neg (by omega), if_pos k1]⟩
end ZZ