-- ===== PURE LAYER: a loan ends =====
theorem c_endLoan {a0 : Nat} {G : GH} {Q : GH → Prop} {l n kd mn t b : Int} (hl : 0 ≤ l ∧ l < n) (hn2 : n ≤ 12) (hn : G a0 8 = n) (hk : G (a0 + 6) l.toNat = kd) (hk2 : 0 ≤ kd ∧ kd < 30) (hm : G (a0 + 7) l.toNat = mn) (ht : G (a0 + 5) kd.toNat = t) (hb : G (a0 + 3) (12 + kd).toNat = b) (r1 : inR (t + mn)) (r2 : inR (b - mn))
    (h : ∀ G' : GH, (∀ x, x ≠ a0 → x ≠ a0 + 3 → ¬ (a0 + 5 ≤ x ∧ x ≤ a0 + 8) → G' x = G x) → (∀ i, i ≠ 8 → G' a0 i = G a0 i) → G' a0 8 = n - 1 → (∀ i, i ≠ kd.toNat → G' (a0 + 5) i = G (a0 + 5) i) → G' (a0 + 5) kd.toNat = t + mn → (∀ i, i ≠ (12 + kd).toNat → G' (a0 + 3) i = G (a0 + 3) i) → G' (a0 + 3) (12 + kd).toNat = b - mn →
      (∀ i : Nat, (i : Int) < l → G' (a0 + 6) i = G (a0 + 6) i ∧ G' (a0 + 7) i = G (a0 + 7) i ∧ G' (a0 + 8) i = G (a0 + 8) i) → (∀ i : Nat, l ≤ (i : Int) → (i : Int) < n - 1 → G' (a0 + 6) i = G (a0 + 6) (i + 1) ∧ G' (a0 + 7) i = G (a0 + 7) (i + 1) ∧ G' (a0 + 8) i = G (a0 + 8) (i + 1)) → Q G') : f_X8_endLoan a0 l G Q := by
  unfold f_X8_endLoan
  rw [hk, hm, ht]
  refine ⟨by omega, hk2, r1, fun G1 e1 => ⟨by omega, ?_⟩⟩
  have b1 : G1 (a0 + 3) (12 + kd).toNat = b := by rw [e1, upG_na (by omega), hb]
  have m1 : G1 (a0 + 7) l.toNat = mn := by rw [e1, upG_na (by omega), hm]
  rw [b1, m1]
  refine ⟨r2, fun G2 e2 => ?_⟩
  have n2 : G2 a0 8 = n := by rw [e2, upG_na (by omega), e1, upG_na (by omega), hn]
  rw [n2]
  refine ⟨⟨by omega, by omega⟩, fun G3 e3 => ?_⟩
  have o3 : ∀ x, x ≠ a0 → x ≠ a0 + 3 → x ≠ a0 + 5 → G3 x = G x := fun x x0 x1 x2 => by rw [e3, up_na x0, e2, up_na x1, e1, up_na x2]
  refine up_loop (fun x G4 => (∀ y, ¬ (a0 + 6 ≤ y ∧ y ≤ a0 + 8) → G4 y = G3 y) ∧ (∀ i : Nat, (i : Int) < l ∨ x ≤ (i : Int) → G4 (a0 + 6) i = G (a0 + 6) i ∧ G4 (a0 + 7) i = G (a0 + 7) i ∧ G4 (a0 + 8) i = G (a0 + 8) i) ∧ (∀ i : Nat, l ≤ (i : Int) → (i : Int) < x → G4 (a0 + 6) i = G (a0 + 6) (i + 1) ∧ G4 (a0 + 7) i = G (a0 + 7) (i + 1) ∧ G4 (a0 + 8) i = G (a0 + 8) (i + 1))) l (n - 1) (by omega)
    ⟨fun _ _ => rfl, fun i _ => by rw [o3 (a0 + 6) (by omega) (by omega) (by omega), o3 (a0 + 7) (by omega) (by omega) (by omega), o3 (a0 + 8) (by omega) (by omega) (by omega)]; exact ⟨rfl, rfl, rfl⟩, fun i i0 i1 => by omega⟩ (fun k x G4 h0 h1 hI kk => ?_)
  obtain ⟨j1, j2, j3⟩ := hI
  have n4 : G4 a0 8 = n - 1 := by rw [j1 a0 (by omega), e3, upG_same]
  rw [n4]
  refine ⟨fun c => ?_, fun c => ⟨⟨by omega, by omega⟩, ⟨by omega, by omega⟩, fun G5 e5 G6 e6 G7 e7 => kk G7 c ⟨fun y hy => ?_, fun i hi => ?_, fun i i0 i1 => ?_⟩⟩⟩
  · refine h G4 (fun y y0 y1 y2 => by rw [j1 y (by omega), o3 y y0 y1 (by omega)]) (fun i hi => by rw [j1 a0 (by omega), e3, upG_nk hi, e2, up_na (by omega), e1, up_na (by omega)]) n4 (fun i hi => by rw [j1 _ (by omega), e3, up_na (by omega), e2, up_na (by omega), e1, upG_nk hi]) (by rw [j1 _ (by omega), e3, up_na (by omega), e2, up_na (by omega), e1, upG_same]) (fun i hi => by rw [j1 _ (by omega), e3, up_na (by omega), e2, upG_nk hi, e1, up_na (by omega)]) (by rw [j1 _ (by omega), e3, up_na (by omega), e2, upG_same]) (fun i hi => j2 i (Or.inl hi)) (fun i i0 i1 => j3 i i0 (by omega))
  · rw [e7, up_na (by omega), e6, up_na (by omega), e5, up_na (by omega)]; exact j1 y hy
  · have z := j2 i (by omega)
    refine ⟨?_, ?_, ?_⟩
    · rw [e7, up_na (by omega), e6, up_na (by omega), e5, upG_nk (by omega)]; exact z.1
    · rw [e7, up_na (by omega), e6, upG_nk (by omega), e5, up_na (by omega)]; exact z.2.1
    · rw [e7, upG_nk (by omega), e6, up_na (by omega), e5, up_na (by omega)]; exact z.2.2
  · by_cases ex : (i : Int) = x
    · have z := j2 (i + 1) (by omega)
      have t1 : x.toNat = i := by omega
      have t2 : (x + 1).toNat = i + 1 := by omega
      refine ⟨?_, ?_, ?_⟩
      · rw [e7, up_na (by omega), e6, up_na (by omega), e5, t1, t2, upG_same]; exact z.1
      · rw [e7, up_na (by omega), e6, t1, t2, upG_same, e5, up_na (by omega)]; exact z.2.1
      · rw [e7, t1, t2, upG_same, e6, up_na (by omega), e5, up_na (by omega)]; exact z.2.2
    · have z := j3 i i0 (by omega)
      refine ⟨?_, ?_, ?_⟩
      · rw [e7, up_na (by omega), e6, up_na (by omega), e5, upG_nk (by omega)]; exact z.1
      · rw [e7, up_na (by omega), e6, upG_nk (by omega), e5, up_na (by omega)]; exact z.2.1
      · rw [e7, upG_nk (by omega), e6, up_na (by omega), e5, up_na (by omega)]; exact z.2.2