-- ===== PURE LAYER: the arm of load =====
section ARML1
variable {j : Nat} {G : GH} {K : GH → Prop} {L : Nat} {xs : Nat → Int32} {i4 : Int}
theorem arm_1 (h : Rel j G) (hK : ∀ G', Rel (j + 1) G' → K G') : f_law_1 L xs i4 G K := by
  obtain ⟨r1, r2, r3, r4, r5, ⟨t1, t2, t3⟩, r7, r8⟩ := h
  have hj : (j : Int) ≤ ((j + 1 : Nat) : Int) := by omega
  have hj0 : (0 : Int) ≤ ((j + 1 : Nat) : Int) := by omega
  have hT : TxO (G 42) (G 41 1) := ⟨t2, fun i hi => by
    have := (t3 (i : Int) (by omega) hi).1
    rw [Int.toNat_natCast] at this
    exact this⟩
  have hr : ∀ i : Nat, (i : Int) < G 41 1 → G 278 i = sgB (G 42 i) := fun i hi => by
    have := (t3 (i : Int) (by omega) hi).2
    rw [Int.toNat_natCast] at this
    exact this
  have bV : BW (G 273) := ⟨r1.ow, r1.fr, r1.se⟩
  show f_X9_load G (fun r1 G1 => f_X10_load G1 (tail0 K r1))
  unfold f_X9_load
  refine c_into (V := G 273) hT rfl rfl ⟨fun W' G1 st' hp b wf G2 e2 => ⟨fun _ => ?_, fun w => by omega⟩, fun e a st' G1 hp f G2 e2 => ⟨fun w => absurd rfl w, fun _ => ?_⟩⟩
  · have rp : RepS G1 21 W' := b.2.2.2.2
    have x2 : ∀ x, x ≠ 41 → G2 x = G1 x := fun x hx => by rw [e2, up_na hx]
    have rp2 : RepS G2 21 W' := rp.congr (fun x a0 a1 => x2 x (by omega))
    refine c_copy7 (by omega) (by have := wf.sp; rw [rp2.sp]; exact this) (by have := wf.tu; rw [rp2.tu]; exact this) (fun G3 o3 cp G4 e4 => ?_)
    have rp3 : RepS G3 1 W' := RepS.copy wf cp rp2
    have x4 : ∀ x, ¬ (1 ≤ x ∧ x < 21) → x ≠ 44 → x ≠ 41 → G4 x = G1 x := fun x h1 h2 h3 => by rw [e4, up_na h2, o3 x h1]; exact x2 x h3
    have x5 : ∀ x, ¬ (1 ≤ x ∧ x ≤ 40) → x ≠ 41 → x ≠ 43 → x ≠ 44 → G4 x = G x := fun x h1 h2 h3 h4 => by rw [x4 x (by omega) h4 h2]; exact b.1 x h2 h3 (by omega)
    have rp4 : RepS G4 1 W' := rp3.congr (fun x a0 a1 => by rw [e4, up_na (by omega)])
    have k41 : ∀ k, k ≠ 1 → G4 41 k = G1 41 k := fun k hk => by rw [e4, up_na (by omega), o3 41 (by omega), e2, upG_nk hk]
    have n41 : G4 41 1 = 0 := by rw [e4, up_na (by omega), o3 41 (by omega), e2, upG_same]
    have e12 : G4 12 0 = W' 5 := rp4.se
    show f_X10_load G4 (tail0 K (G4 12 0))
    rw [e12]
    refine m_load (T := G 42) (n := G 41 1) (V := G 273) hT ⟨by rw [x5 272 (by omega) (by omega) (by omega) (by omega)]; exact t1, fun i hi => by rw [x5 278 (by omega) (by omega) (by omega) (by omega)]; exact hr i hi⟩ (x5 273 (by omega) (by omega) (by omega) (by omega)) bV (fun W'' hp2 G5 o5 p5 w5 a6 a8 a12 a15 => ?_) (fun e a st hp2 => ?_)
    · rw [hp] at hp2
      obtain rfl : W' = W'' := Sum.inr.inj hp2
      have y5 : ∀ x, ¬ (1 ≤ x ∧ x ≤ 40) → x ≠ 41 → x ≠ 43 → x ≠ 44 → x ≠ 272 → x ≠ 273 → x ≠ 274 → x ≠ 279 → G5 x = G x := fun x h1 h2 h3 h4 h5 h6 h7 h8 => by rw [o5 x h5 h6 h7 h8]; exact x5 x h1 h2 h3 h4
      have z5 : ∀ k, k ≠ 0 → k ≠ 6 → k ≠ 8 → ¬ (9 ≤ k ∧ k ≤ 15) → G5 272 k = G 272 k := fun k k0 k6 k8 kk => by rw [p5 k k0 k6 k8 kk, x5 272 (by omega) (by omega) (by omega) (by omega)]
      refine tail0_ok rfl (hK _ ⟨by rw [w5]; exact wf.mono hj0, by rw [w5]; exact rp4.congr (fun x a0 a1 => o5 x (by omega) (by omega) (by omega) (by omega)), by rw [z5 17 (by omega) (by omega) (by omega) (by omega)]; exact r3, ?_, r5.congr hj (fun x q => y5 x (by omega) (by omega) (by omega) (by omega) (by omega) (by omega) (by omega) (by omega)), ?_, ?_, r8.congr (fun x q => y5 x (by omega) (by omega) (by omega) (by omega) (by omega) (by omega) (by omega) (by omega)) (z5 27 (by omega) (by omega) (by omega) (by omega))⟩)
      · have g44 : ∀ k, k ≠ 2 → G5 44 k = G 44 k := fun k hk => by rw [o5 44 (by omega) (by omega) (by omega) (by omega), e4, upG_nk hk, o3 44 (by omega), x2 44 (by omega), b.1 44 (by omega) (by omega) (by omega)]
        have g442 : G5 44 2 = 0 := by rw [o5 44 (by omega) (by omega) (by omega) (by omega), e4, upG_same]
        unfold HistR
        rw [a6, g442, g44 1 (by omega)]
        exact ⟨by omega, rfl, r4.2.2.1, fun i i0 i1 => by omega⟩
      · unfold TextR
        rw [a8, o5 41 (by omega) (by omega) (by omega) (by omega), n41]
        exact ⟨rfl, by omega, fun i i0 i1 => by omega⟩
      · unfold ErrR
        rw [a12, a15, o5 41 (by omega) (by omega) (by omega) (by omega), k41 2 (by omega), b.2.2.1]
        exact ⟨rfl, fun _ => rfl, fun w => absurd rfl w⟩
    · rw [hp] at hp2
      cases hp2
  · have k41 : ∀ k, k ≠ 1 → G2 41 k = G1 41 k := fun k hk => by rw [e2, upG_nk hk]
    have n41 : G2 41 1 = 0 := by rw [e2, upG_same]
    have x2 : ∀ x, x ≠ 41 → x ≠ 43 → ¬ (21 ≤ x ∧ x ≤ 40) → G2 x = G x := fun x h1 h2 h3 => by rw [e2, up_na h1]; exact f.1 x h1 h2 h3
    obtain ⟨f0, f1, f4, f2, f3, fe, fa⟩ := f
    rw [k41 3 (by omega), f3]
    refine ⟨⟨by omega, by omega⟩, ?_⟩
    show f_X10_load G2 (tail0 K (-100 - a))
    refine m_load (T := G 42) (n := G 41 1) (V := G 273) hT ⟨by rw [x2 272 (by omega) (by omega) (by omega)]; exact t1, fun i hi => by rw [x2 278 (by omega) (by omega) (by omega)]; exact hr i hi⟩ (x2 273 (by omega) (by omega) (by omega)) bV (fun W'' hp2 => ?_) (fun e' a' st'' hp2 => ?_)
    · rw [hp] at hp2
      cases hp2
    · rw [hp] at hp2
      obtain ⟨rfl, rfl, rfl⟩ : e = e' ∧ a = a' ∧ st' = st'' := by
        have := Sum.inl.inj hp2
        exact ⟨congrArg Prod.fst this, congrArg (fun q => q.2.1) this, congrArg (fun q => q.2.2) this⟩
      refine ⟨fa, fun G5 o5 p5 w5 a8 a12 a15 => ?_⟩
      have y5 : ∀ x, x ≠ 41 → x ≠ 43 → ¬ (21 ≤ x ∧ x ≤ 40) → x ≠ 272 → x ≠ 273 → x ≠ 274 → x ≠ 279 → G5 x = G x := fun x h1 h2 h3 h5 h6 h7 h8 => by rw [o5 x h5 h6 h7 h8]; exact x2 x h1 h2 h3
      have z5 : ∀ k, k ≠ 0 → k ≠ 8 → ¬ (9 ≤ k ∧ k ≤ 15) → G5 272 k = G 272 k := fun k k0 k8 kk => by rw [p5 k k0 k8 kk, x2 272 (by omega) (by omega) (by omega)]
      have eq : EqW (G5 273) (G 273) := w5
      refine tail0_ok rfl (hK _ ⟨(eq.wf r1).mono hj, (eq.rep r1 r2).congr (fun x a0 a1 => y5 x (by omega) (by omega) (by omega) (by omega) (by omega) (by omega) (by omega)), by rw [z5 17 (by omega) (by omega) (by omega)]; exact r3, r4.congr hj (fun x q => y5 x (by omega) (by omega) (by omega) (by omega) (by omega) (by omega) (by omega)) (z5 6 (by omega) (by omega) (by omega)), r5.congr hj (fun x q => y5 x (by omega) (by omega) (by omega) (by omega) (by omega) (by omega) (by omega)), ?_, ?_, r8.congr (fun x q => y5 x (by omega) (by omega) (by omega) (by omega) (by omega) (by omega) (by omega)) (z5 27 (by omega) (by omega) (by omega))⟩)
      · unfold TextR
        rw [a8, o5 41 (by omega) (by omega) (by omega) (by omega), n41]
        exact ⟨rfl, by omega, fun i i0 i1 => by omega⟩
      · unfold ErrR
        rw [a12, a15, o5 41 (by omega) (by omega) (by omega) (by omega), k41 2 (by omega), k41 4 (by omega), f2, f4]
        exact ⟨rfl, fun w => absurd w fe, fun _ => rfl⟩
end ARML1
