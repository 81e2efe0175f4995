-- ===== PURE LAYER: copies of a State (made by wip/whole/mk45.py) =====
theorem cpG_na {G : GH} {s sp d dp n x : Nat} (h : x ≠ d) : cpG G s sp d dp n x = G x := by
  funext k
  unfold cpG
  exact if_neg (fun q => h q.1)
theorem cpG_at {G : GH} {s d n k : Nat} (h : k < n) : cpG G s 0 d 0 n d k = G s k := by
  unfold cpG
  rw [if_pos ⟨rfl, by omega, by omega⟩, Nat.zero_add, Nat.sub_zero]
theorem c_copy8 {G : GH} {Q : GH → Prop} {a b : Nat} (hd : a + 9 ≤ b ∨ b + 9 ≤ a) (h01 : G b 0 = 0 ∨ G b 0 = 1) (h : ∀ G' : GH, (∀ x, ¬ (a ≤ x ∧ x < a + 9) → G' x = G x) → G' a 0 = G b 0 → G' a 1 = G b 1 → G' a 5 = G b 5 → G' a 8 = G b 8 → (∀ i, i < 12 → G' (a + 1) i = G (b + 1) i) → (∀ i, i < 12 → G' (a + 2) i = G (b + 2) i) → (∀ i, i < 42 → G' (a + 3) i = G (b + 3) i) → (∀ i, i < 3 → G' (a + 4) i = G (b + 4) i) → (∀ i, i < 30 → G' (a + 5) i = G (b + 5) i) → (∀ i, i < 12 → G' (a + 6) i = G (b + 6) i) → (∀ i, i < 12 → G' (a + 7) i = G (b + 7) i) → (∀ i, i < 12 → G' (a + 8) i = G (b + 8) i) → Q G') : f_X8_copyFrom a b G Q := by
  refine ⟨h01, ?_⟩
  intro G1 e1 G2 e2 G3 e3 G4 e4 G5 e5 G6 e6 G7 e7 G8 e8 G9 e9 G10 e10 G11 e11 G12 e12
  have r1 : ∀ x, ¬ (a ≤ x ∧ x < a + 9) → G1 x = G x := fun x hx => by rw [e1]; exact up_na (by omega)
  have r2 : ∀ x, ¬ (a ≤ x ∧ x < a + 9) → G2 x = G x := fun x hx => by rw [e2, up_na (by omega)]; exact r1 x hx
  have r3 : ∀ x, ¬ (a ≤ x ∧ x < a + 9) → G3 x = G x := fun x hx => by rw [e3, up_na (by omega)]; exact r2 x hx
  have r4 : ∀ x, ¬ (a ≤ x ∧ x < a + 9) → G4 x = G x := fun x hx => by rw [e4, up_na (by omega)]; exact r3 x hx
  have r5 : ∀ x, ¬ (a ≤ x ∧ x < a + 9) → G5 x = G x := fun x hx => by rw [e5, cpG_na (by omega)]; exact r4 x hx
  have r6 : ∀ x, ¬ (a ≤ x ∧ x < a + 9) → G6 x = G x := fun x hx => by rw [e6, cpG_na (by omega)]; exact r5 x hx
  have r7 : ∀ x, ¬ (a ≤ x ∧ x < a + 9) → G7 x = G x := fun x hx => by rw [e7, cpG_na (by omega)]; exact r6 x hx
  have r8 : ∀ x, ¬ (a ≤ x ∧ x < a + 9) → G8 x = G x := fun x hx => by rw [e8, cpG_na (by omega)]; exact r7 x hx
  have r9 : ∀ x, ¬ (a ≤ x ∧ x < a + 9) → G9 x = G x := fun x hx => by rw [e9, cpG_na (by omega)]; exact r8 x hx
  have r10 : ∀ x, ¬ (a ≤ x ∧ x < a + 9) → G10 x = G x := fun x hx => by rw [e10, cpG_na (by omega)]; exact r9 x hx
  have r11 : ∀ x, ¬ (a ≤ x ∧ x < a + 9) → G11 x = G x := fun x hx => by rw [e11, cpG_na (by omega)]; exact r10 x hx
  have r12 : ∀ x, ¬ (a ≤ x ∧ x < a + 9) → G12 x = G x := fun x hx => by rw [e12, cpG_na (by omega)]; exact r11 x hx
  exact h G12 r12 (by rw [e12, cpG_na (by omega), e11, cpG_na (by omega), e10, cpG_na (by omega), e9, cpG_na (by omega), e8, cpG_na (by omega), e7, cpG_na (by omega), e6, cpG_na (by omega), e5, cpG_na (by omega), e4, upG_nk (by omega), e3, upG_nk (by omega), e2, upG_nk (by omega), e1, upG_same])
    (by rw [e12, cpG_na (by omega), e11, cpG_na (by omega), e10, cpG_na (by omega), e9, cpG_na (by omega), e8, cpG_na (by omega), e7, cpG_na (by omega), e6, cpG_na (by omega), e5, cpG_na (by omega), e4, upG_nk (by omega), e3, upG_nk (by omega), e2, upG_same]; rw [r1 b (by omega)])
    (by rw [e12, cpG_na (by omega), e11, cpG_na (by omega), e10, cpG_na (by omega), e9, cpG_na (by omega), e8, cpG_na (by omega), e7, cpG_na (by omega), e6, cpG_na (by omega), e5, cpG_na (by omega), e4, upG_nk (by omega), e3, upG_same]; rw [r2 b (by omega)])
    (by rw [e12, cpG_na (by omega), e11, cpG_na (by omega), e10, cpG_na (by omega), e9, cpG_na (by omega), e8, cpG_na (by omega), e7, cpG_na (by omega), e6, cpG_na (by omega), e5, cpG_na (by omega), e4, upG_same]; rw [r3 b (by omega)])
    (fun i hi => by rw [e12, cpG_na (by omega), e11, cpG_na (by omega), e10, cpG_na (by omega), e9, cpG_na (by omega), e8, cpG_na (by omega), e7, cpG_na (by omega), e6, cpG_na (by omega), e5, cpG_at hi]; rw [r4 (b + 1) (by omega)])
    (fun i hi => by rw [e12, cpG_na (by omega), e11, cpG_na (by omega), e10, cpG_na (by omega), e9, cpG_na (by omega), e8, cpG_na (by omega), e7, cpG_na (by omega), e6, cpG_at hi]; rw [r5 (b + 2) (by omega)])
    (fun i hi => by rw [e12, cpG_na (by omega), e11, cpG_na (by omega), e10, cpG_na (by omega), e9, cpG_na (by omega), e8, cpG_na (by omega), e7, cpG_at hi]; rw [r6 (b + 3) (by omega)])
    (fun i hi => by rw [e12, cpG_na (by omega), e11, cpG_na (by omega), e10, cpG_na (by omega), e9, cpG_na (by omega), e8, cpG_at hi]; rw [r7 (b + 4) (by omega)])
    (fun i hi => by rw [e12, cpG_na (by omega), e11, cpG_na (by omega), e10, cpG_na (by omega), e9, cpG_at hi]; rw [r8 (b + 5) (by omega)])
    (fun i hi => by rw [e12, cpG_na (by omega), e11, cpG_na (by omega), e10, cpG_at hi]; rw [r9 (b + 6) (by omega)])
    (fun i hi => by rw [e12, cpG_na (by omega), e11, cpG_at hi]; rw [r10 (b + 7) (by omega)])
    (fun i hi => by rw [e12, cpG_at hi]; rw [r11 (b + 8) (by omega)])
theorem c_copy6 {G : GH} {Q : GH → Prop} {a b : Nat} (hd : a + 3 ≤ b ∨ b + 3 ≤ a) (h : ∀ G' : GH, (∀ x, ¬ (a ≤ x ∧ x < a + 3) → G' x = G x) → G' a 0 = G b 0 → (∀ i, i < 16 → G' (a + 1) i = G (b + 1) i) → (∀ i, i < 128 → G' (a + 2) i = G (b + 2) i) → Q G') : f_X6_copyFrom a b G Q := by
  intro G1 e1 G2 e2 G3 e3
  have r1 : ∀ x, ¬ (a ≤ x ∧ x < a + 3) → G1 x = G x := fun x hx => by rw [e1]; exact up_na (by omega)
  have r2 : ∀ x, ¬ (a ≤ x ∧ x < a + 3) → G2 x = G x := fun x hx => by rw [e2, cpG_na (by omega)]; exact r1 x hx
  have r3 : ∀ x, ¬ (a ≤ x ∧ x < a + 3) → G3 x = G x := fun x hx => by rw [e3, cpG_na (by omega)]; exact r2 x hx
  exact h G3 r3 (by rw [e3, cpG_na (by omega), e2, cpG_na (by omega), e1, upG_same])
    (fun i hi => by rw [e3, cpG_na (by omega), e2, cpG_at hi]; rw [r1 (b + 1) (by omega)])
    (fun i hi => by rw [e3, cpG_at hi]; rw [r2 (b + 2) (by omega)])
theorem c_copy0 {G : GH} {Q : GH → Prop} {a b : Nat} (hd : a + 6 ≤ b ∨ b + 6 ≤ a) (h : ∀ G' : GH, (∀ x, ¬ (a ≤ x ∧ x < a + 6) → G' x = G x) → G' a 0 = G b 0 → (∀ i, i < 18 → G' (a + 1) i = G (b + 1) i) → (∀ i, i < 54 → G' (a + 2) i = G (b + 2) i) → (∀ i, i < 54 → G' (a + 3) i = G (b + 3) i) → (∀ i, i < 54 → G' (a + 4) i = G (b + 4) i) → (∀ i, i < 42 → G' (a + 5) i = G (b + 5) i) → Q G') : f_X0_copyFrom a b G Q := by
  intro G1 e1 G2 e2 G3 e3 G4 e4 G5 e5 G6 e6
  have r1 : ∀ x, ¬ (a ≤ x ∧ x < a + 6) → G1 x = G x := fun x hx => by rw [e1]; exact up_na (by omega)
  have r2 : ∀ x, ¬ (a ≤ x ∧ x < a + 6) → G2 x = G x := fun x hx => by rw [e2, cpG_na (by omega)]; exact r1 x hx
  have r3 : ∀ x, ¬ (a ≤ x ∧ x < a + 6) → G3 x = G x := fun x hx => by rw [e3, cpG_na (by omega)]; exact r2 x hx
  have r4 : ∀ x, ¬ (a ≤ x ∧ x < a + 6) → G4 x = G x := fun x hx => by rw [e4, cpG_na (by omega)]; exact r3 x hx
  have r5 : ∀ x, ¬ (a ≤ x ∧ x < a + 6) → G5 x = G x := fun x hx => by rw [e5, cpG_na (by omega)]; exact r4 x hx
  have r6 : ∀ x, ¬ (a ≤ x ∧ x < a + 6) → G6 x = G x := fun x hx => by rw [e6, cpG_na (by omega)]; exact r5 x hx
  exact h G6 r6 (by rw [e6, cpG_na (by omega), e5, cpG_na (by omega), e4, cpG_na (by omega), e3, cpG_na (by omega), e2, cpG_na (by omega), e1, upG_same])
    (fun i hi => by rw [e6, cpG_na (by omega), e5, cpG_na (by omega), e4, cpG_na (by omega), e3, cpG_na (by omega), e2, cpG_at hi]; rw [r1 (b + 1) (by omega)])
    (fun i hi => by rw [e6, cpG_na (by omega), e5, cpG_na (by omega), e4, cpG_na (by omega), e3, cpG_at hi]; rw [r2 (b + 2) (by omega)])
    (fun i hi => by rw [e6, cpG_na (by omega), e5, cpG_na (by omega), e4, cpG_at hi]; rw [r3 (b + 3) (by omega)])
    (fun i hi => by rw [e6, cpG_na (by omega), e5, cpG_at hi]; rw [r4 (b + 4) (by omega)])
    (fun i hi => by rw [e6, cpG_at hi]; rw [r5 (b + 5) (by omega)])
def CopyS (G G' : GH) (a b : Nat) : Prop := G' a 0 = G b 0 ∧ (∀ i, i < 3 → G' (a + 1) i = G (b + 1) i) ∧ G' a 2 = G b 2 ∧ G' (a + 2) 0 = G (b + 2) 0 ∧ G' (a + 2) 1 = G (b + 2) 1 ∧ G' (a + 2) 5 = G (b + 2) 5 ∧ G' (a + 2) 8 = G (b + 2) 8 ∧ (∀ i, i < 12 → G' (a + 3) i = G (b + 3) i) ∧ (∀ i, i < 12 → G' (a + 4) i = G (b + 4) i) ∧ (∀ i, i < 42 → G' (a + 5) i = G (b + 5) i) ∧ (∀ i, i < 3 → G' (a + 6) i = G (b + 6) i) ∧ (∀ i, i < 30 → G' (a + 7) i = G (b + 7) i) ∧ (∀ i, i < 12 → G' (a + 8) i = G (b + 8) i) ∧ (∀ i, i < 12 → G' (a + 9) i = G (b + 9) i) ∧ (∀ i, i < 12 → G' (a + 10) i = G (b + 10) i) ∧ G' (a + 11) 0 = G (b + 11) 0 ∧ (∀ i, i < 16 → G' (a + 12) i = G (b + 12) i) ∧ (∀ i, i < 128 → G' (a + 13) i = G (b + 13) i) ∧ G' (a + 14) 0 = G (b + 14) 0 ∧ (∀ i, i < 18 → G' (a + 15) i = G (b + 15) i) ∧ (∀ i, i < 54 → G' (a + 16) i = G (b + 16) i) ∧ (∀ i, i < 54 → G' (a + 17) i = G (b + 17) i) ∧ (∀ i, i < 54 → G' (a + 18) i = G (b + 18) i) ∧ (∀ i, i < 42 → G' (a + 19) i = G (b + 19) i) ∧ G' a 6 = G b 6 ∧ G' a 7 = G b 7 ∧ G' a 8 = G b 8 ∧ G' a 9 = G b 9
theorem c_copy7 {G : GH} {Q : GH → Prop} {a b : Nat} (hd : a + 20 ≤ b ∨ b + 20 ≤ a) (h2 : G b 2 = 0 ∨ G b 2 = 1) (ht : G (b + 2) 0 = 0 ∨ G (b + 2) 0 = 1) (h : ∀ G' : GH, (∀ x, ¬ (a ≤ x ∧ x < a + 20) → G' x = G x) → CopyS G G' a b → Q G') : f_X7_copyFrom a b G Q := by
  intro G1 e1 G2 e2
  have r1 : ∀ x, ¬ (a ≤ x ∧ x < a + 20) → G1 x = G x := fun x hx => by rw [e1]; exact up_na (by omega)
  have r2 : ∀ x, ¬ (a ≤ x ∧ x < a + 20) → G2 x = G x := fun x hx => by rw [e2, cpG_na (by omega)]; exact r1 x hx
  refine ⟨by rw [r2 b (by omega)]; exact h2, fun G3 e3 => ?_⟩
  have r3 : ∀ x, ¬ (a ≤ x ∧ x < a + 20) → G3 x = G x := fun x hx => by rw [e3, up_na (by omega)]; exact r2 x hx
  refine c_copy8 (by omega) (by rw [r3 (b + 2) (by omega)]; exact ht) (fun G4 o4 q0 q1 q2 q3 q4 q5 q6 q7 q8 q9 q10 q11 => ?_)
  have r4 : ∀ x, ¬ (a ≤ x ∧ x < a + 20) → G4 x = G x := fun x hx => by rw [o4 x (by omega)]; exact r3 x hx
  refine c_copy6 (by omega) (fun G5 o5 s0 s1 s2 => ?_)
  have r5 : ∀ x, ¬ (a ≤ x ∧ x < a + 20) → G5 x = G x := fun x hx => by rw [o5 x (by omega)]; exact r4 x hx
  refine c_copy0 (by omega) (fun G6 o6 t0 t1 t2 t3 t4 t5 => ?_)
  have r6 : ∀ x, ¬ (a ≤ x ∧ x < a + 20) → G6 x = G x := fun x hx => by rw [o6 x (by omega)]; exact r5 x hx
  intro G7 e7 G8 e8 G9 e9 G10 e10
  have r7 : ∀ x, ¬ (a ≤ x ∧ x < a + 20) → G7 x = G x := fun x hx => by rw [e7, up_na (by omega)]; exact r6 x hx
  have r8 : ∀ x, ¬ (a ≤ x ∧ x < a + 20) → G8 x = G x := fun x hx => by rw [e8, up_na (by omega)]; exact r7 x hx
  have r9 : ∀ x, ¬ (a ≤ x ∧ x < a + 20) → G9 x = G x := fun x hx => by rw [e9, up_na (by omega)]; exact r8 x hx
  have r10 : ∀ x, ¬ (a ≤ x ∧ x < a + 20) → G10 x = G x := fun x hx => by rw [e10, up_na (by omega)]; exact r9 x hx
  have k6 : ∀ x, x ≠ a → G10 x = G6 x := fun x hx => by rw [e10, up_na hx, e9, up_na hx, e8, up_na hx, e7, up_na hx]
  exact h G10 r10 ⟨by rw [e10, upG_nk (by omega), e9, upG_nk (by omega), e8, upG_nk (by omega), e7, upG_nk (by omega), o6 a (by omega), o5 a (by omega), o4 a (by omega), e3, upG_nk (by omega), e2, cpG_na (by omega), e1, upG_same],
    fun i hi => by rw [k6 (a + 1) (by omega), o6 (a + 1) (by omega), o5 (a + 1) (by omega), o4 (a + 1) (by omega), e3, up_na (by omega), e2, cpG_at hi, r1 (b + 1) (by omega)],
    by rw [e10, upG_nk (by omega), e9, upG_nk (by omega), e8, upG_nk (by omega), e7, upG_nk (by omega), o6 a (by omega), o5 a (by omega), o4 a (by omega), e3, upG_same, r2 b (by omega)],
    by rw [k6 (a + 2) (by omega), o6 (a + 2) (by omega), o5 (a + 2) (by omega)]; exact (q0).trans (by rw [r3 (b + 2) (by omega)]),
    by rw [k6 (a + 2) (by omega), o6 (a + 2) (by omega), o5 (a + 2) (by omega)]; exact (q1).trans (by rw [r3 (b + 2) (by omega)]),
    by rw [k6 (a + 2) (by omega), o6 (a + 2) (by omega), o5 (a + 2) (by omega)]; exact (q2).trans (by rw [r3 (b + 2) (by omega)]),
    by rw [k6 (a + 2) (by omega), o6 (a + 2) (by omega), o5 (a + 2) (by omega)]; exact (q3).trans (by rw [r3 (b + 2) (by omega)]),
    fun i hi => by rw [k6 (a + 3) (by omega), o6 (a + 3) (by omega), o5 (a + 3) (by omega)]; exact (q4 i hi).trans (by rw [show b + 2 + 1 = b + 3 by omega, r3 (b + 3) (by omega)]),
    fun i hi => by rw [k6 (a + 4) (by omega), o6 (a + 4) (by omega), o5 (a + 4) (by omega)]; exact (q5 i hi).trans (by rw [show b + 2 + 2 = b + 4 by omega, r3 (b + 4) (by omega)]),
    fun i hi => by rw [k6 (a + 5) (by omega), o6 (a + 5) (by omega), o5 (a + 5) (by omega)]; exact (q6 i hi).trans (by rw [show b + 2 + 3 = b + 5 by omega, r3 (b + 5) (by omega)]),
    fun i hi => by rw [k6 (a + 6) (by omega), o6 (a + 6) (by omega), o5 (a + 6) (by omega)]; exact (q7 i hi).trans (by rw [show b + 2 + 4 = b + 6 by omega, r3 (b + 6) (by omega)]),
    fun i hi => by rw [k6 (a + 7) (by omega), o6 (a + 7) (by omega), o5 (a + 7) (by omega)]; exact (q8 i hi).trans (by rw [show b + 2 + 5 = b + 7 by omega, r3 (b + 7) (by omega)]),
    fun i hi => by rw [k6 (a + 8) (by omega), o6 (a + 8) (by omega), o5 (a + 8) (by omega)]; exact (q9 i hi).trans (by rw [show b + 2 + 6 = b + 8 by omega, r3 (b + 8) (by omega)]),
    fun i hi => by rw [k6 (a + 9) (by omega), o6 (a + 9) (by omega), o5 (a + 9) (by omega)]; exact (q10 i hi).trans (by rw [show b + 2 + 7 = b + 9 by omega, r3 (b + 9) (by omega)]),
    fun i hi => by rw [k6 (a + 10) (by omega), o6 (a + 10) (by omega), o5 (a + 10) (by omega)]; exact (q11 i hi).trans (by rw [show b + 2 + 8 = b + 10 by omega, r3 (b + 10) (by omega)]),
    by rw [k6 (a + 11) (by omega), o6 (a + 11) (by omega)]; exact (s0).trans (by rw [r4 (b + 11) (by omega)]),
    fun i hi => by rw [k6 (a + 12) (by omega), o6 (a + 12) (by omega)]; exact (s1 i hi).trans (by rw [show b + 11 + 1 = b + 12 by omega, r4 (b + 12) (by omega)]),
    fun i hi => by rw [k6 (a + 13) (by omega), o6 (a + 13) (by omega)]; exact (s2 i hi).trans (by rw [show b + 11 + 2 = b + 13 by omega, r4 (b + 13) (by omega)]),
    by rw [k6 (a + 14) (by omega)]; exact (t0).trans (by rw [r5 (b + 14) (by omega)]),
    fun i hi => by rw [k6 (a + 15) (by omega)]; exact (t1 i hi).trans (by rw [show b + 14 + 1 = b + 15 by omega, r5 (b + 15) (by omega)]),
    fun i hi => by rw [k6 (a + 16) (by omega)]; exact (t2 i hi).trans (by rw [show b + 14 + 2 = b + 16 by omega, r5 (b + 16) (by omega)]),
    fun i hi => by rw [k6 (a + 17) (by omega)]; exact (t3 i hi).trans (by rw [show b + 14 + 3 = b + 17 by omega, r5 (b + 17) (by omega)]),
    fun i hi => by rw [k6 (a + 18) (by omega)]; exact (t4 i hi).trans (by rw [show b + 14 + 4 = b + 18 by omega, r5 (b + 18) (by omega)]),
    fun i hi => by rw [k6 (a + 19) (by omega)]; exact (t5 i hi).trans (by rw [show b + 14 + 5 = b + 19 by omega, r5 (b + 19) (by omega)]),
    by rw [e10, upG_nk (by omega), e9, upG_nk (by omega), e8, upG_nk (by omega), e7, upG_same, r6 b (by omega)],
    by rw [e10, upG_nk (by omega), e9, upG_nk (by omega), e8, upG_same, r7 b (by omega)],
    by rw [e10, upG_nk (by omega), e9, upG_same, r8 b (by omega)],
    by rw [e10, upG_same, r9 b (by omega)]⟩
theorem RepS.copy {G G' : GH} {a b : Nat} {W : WT} {j : Int} (hW : WF j W) (hc : CopyS G G' a b) (hR : RepS G b W) : RepS G' a W := by
  obtain ⟨c0_0, c1, c0_2, c2_0, c2_1, c2_5, c2_8, c3, c4, c5, c6, c7, c8, c9, c10, c11_0, c12, c13, c14_0, c15, c16, c17, c18, c19, c0_6, c0_7, c0_8, c0_9⟩ := hc
  have bo := hW.bo; have ow := hW.ow; have fr := hW.fr; have lo := hW.lo; have se := hW.se
  obtain ⟨a1, a2, a3, a4, a5, a6, a7, a8, a9, a10, a11, a12, a13, a14, a15, a16, a17, a18, a19, a20⟩ := hR
  refine ⟨c0_0.trans a1, fun x h0 h1 => (c1 _ (by omega)).trans (a2 x h0 h1), c0_2.trans a3, c2_0.trans a4, c2_1.trans a5, c2_5.trans a6, c2_8.trans a7, fun x h0 h1 => ⟨(c3 _ (by omega)).trans (a8 x h0 h1).1, (c4 _ (by omega)).trans (a8 x h0 h1).2⟩, fun x h0 h1 => (c5 _ (by omega)).trans (a9 x h0 h1),
    fun x h0 h1 => ⟨(c6 _ (by omega)).trans (a10 x h0 h1).1, fun y h2 h3 => (c7 _ (by omega)).trans ((a10 x h0 h1).2 y h2 h3)⟩, fun x h0 h1 => ⟨(c8 _ (by omega)).trans (a11 x h0 h1).1, (c9 _ (by omega)).trans (a11 x h0 h1).2.1, (c10 _ (by omega)).trans (a11 x h0 h1).2.2⟩,
    c11_0.trans a12, fun x h0 h1 => ⟨(c12 _ (by omega)).trans (a13 x h0 h1).1, fun y h2 h3 => (c13 _ (by have := hW.sv x h0 h1; omega)).trans ((a13 x h0 h1).2 y h2 h3)⟩, c14_0.trans a14, ⟨fun x y h0 h1 h2 h3 => ⟨fun q => ?_, fun q => ?_⟩, fun x y h0 h1 h2 h3 => ⟨fun q => ⟨?_, ?_, ?_⟩, fun q => ⟨?_, ?_, ?_⟩⟩⟩,
    fun x h0 h1 => (c19 _ (by omega)).trans (a16 x h0 h1), c0_6.trans a17, c0_7.trans a18, c0_8.trans a19, c0_9.trans a20⟩
  · exact (c15 _ (by omega)).trans ((a15.1 x y h0 h1 h2 h3).1 q)
  · exact (c15 _ (by omega)).trans ((a15.1 x y h0 h1 h2 h3).2 q)
  · exact (c16 _ (by omega)).trans ((a15.2 x y h0 h1 h2 h3).1 q).1
  · exact (c17 _ (by omega)).trans ((a15.2 x y h0 h1 h2 h3).1 q).2.1
  · exact (c18 _ (by omega)).trans ((a15.2 x y h0 h1 h2 h3).1 q).2.2
  · exact (c16 _ (by omega)).trans ((a15.2 x y h0 h1 h2 h3).2 q).1
  · exact (c17 _ (by omega)).trans ((a15.2 x y h0 h1 h2 h3).2 q).2.1
  · exact (c18 _ (by omega)).trans ((a15.2 x y h0 h1 h2 h3).2 q).2.2
