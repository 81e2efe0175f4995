-- ===== PURE LAYER: the relation; reads of both sides; their arms =====
def ownA (a : Nat) : Prop := (1 ≤ a ∧ a ≤ 20) ∨ a = 41 ∨ a = 42 ∨ a = 44 ∨ (46 ≤ a ∧ a ≤ 207) ∨ (230 ≤ a ∧ a ≤ 271) ∨ a = 273 ∨ (275 ≤ a ∧ a ≤ 278) ∨ a = 284
def ownK (k : Nat) : Prop := k = 6 ∨ k = 8 ∨ k = 12 ∨ k = 15 ∨ k = 17 ∨ k = 27
def undW (G : GH) (i : Int) : WT := fun k => G 277 ((456 * i).toNat + k)
def savW (G : GH) (s : Int) : WT := fun k => G 275 ((456 * s).toNat + k)
def ringA (G : GH) (i : Int) : Nat := 46 + 20 * ((G 44 1 + 8 - G 272 6 + i) % 8).toNat
def HistR (j : Int) (G : GH) : Prop := (0 ≤ G 272 6 ∧ G 272 6 ≤ 8) ∧ G 44 2 = G 272 6 ∧ (0 ≤ G 44 1 ∧ G 44 1 ≤ 7) ∧ ∀ i, 0 ≤ i → i < G 272 6 → WF j (undW G i) ∧ RepS G (ringA G i) (undW G i)
def SnapR (j : Int) (G : GH) : Prop := ∀ s : Int, 0 ≤ s → s < 2 → (G 207 s.toNat = 0 ∨ G 207 s.toNat = 1) ∧ G 276 s.toNat = G 207 s.toNat ∧ (G 207 s.toNat = 1 → WF j (savW G s) ∧ RepS G (232 + 20 * s.toNat) (savW G s))
def TextR (G : GH) : Prop := G 272 8 = G 41 1 ∧ (0 ≤ G 41 1 ∧ G 41 1 ≤ 500) ∧ ∀ i : Int, 0 ≤ i → i < G 41 1 → (1 ≤ G 42 i.toNat ∧ G 42 i.toNat ≤ 255) ∧ G 278 i.toNat = if G 42 i.toNat < 128 then G 42 i.toNat else G 42 i.toNat - 256
def ErrR (G : GH) : Prop := G 272 12 = G 41 2 ∧ (G 41 2 = 0 → G 272 15 = -1) ∧ (G 41 2 ≠ 0 → G 272 15 = G 41 4)
def OutR (G : GH) : Prop := G 272 27 = G 230 1 ∧ (0 ≤ G 230 1 ∧ G 230 1 ≤ 80) ∧ ∀ i : Int, 0 ≤ i → i < G 230 1 → G 284 i.toNat = G 231 i.toNat
def RelI (j : Int) (G : GH) : Prop := WF j (G 273) ∧ RepS G 1 (G 273) ∧ G 272 17 = -1 ∧ HistR j G ∧ SnapR j G ∧ TextR G ∧ ErrR G ∧ OutR G
def Rel (j : Nat) (G : GH) : Prop := RelI (j : Int) G
theorem HistR.congr {j j' : Int} {G G' : GH} (hj : j ≤ j') (e : ∀ a, a = 44 ∨ (46 ≤ a ∧ a ≤ 205) ∨ a = 277 → G' a = G a) (ek : G' 272 6 = G 272 6) (h : HistR j G) : HistR j' G' := by
  obtain ⟨h1, h2, h3, h4⟩ := h
  unfold HistR undW ringA
  rw [ek, e 44 (Or.inl rfl), e 277 (Or.inr (Or.inr rfl))]
  exact ⟨h1, h2, h3, fun i q1 q2 => ⟨(h4 i q1 q2).1.mono hj, (h4 i q1 q2).2.congr (fun x x1 x2 => e x (by omega))⟩⟩
theorem SnapR.congr {j j' : Int} {G G' : GH} (hj : j ≤ j') (e : ∀ a, a = 207 ∨ (232 ≤ a ∧ a ≤ 271) ∨ a = 275 ∨ a = 276 → G' a = G a) (h : SnapR j G) : SnapR j' G' := by
  intro s q1 q2
  obtain ⟨h1, h2, h3⟩ := h s q1 q2
  unfold savW
  rw [e 207 (by omega), e 275 (by omega), e 276 (by omega)]
  exact ⟨h1, h2, fun q => ⟨(h3 q).1.mono hj, (h3 q).2.congr (fun x x1 x2 => e x (by omega))⟩⟩
theorem TextR.congr {G G' : GH} (e : ∀ a, a = 41 ∨ a = 42 ∨ a = 278 → G' a = G a) (ek : G' 272 8 = G 272 8) (h : TextR G) : TextR G' := by
  unfold TextR
  rw [ek, e 41 (by omega), e 42 (by omega), e 278 (by omega)]
  exact h
theorem ErrR.congr {G G' : GH} (e : G' 41 = G 41) (e1 : G' 272 12 = G 272 12) (e2 : G' 272 15 = G 272 15) (h : ErrR G) : ErrR G' := by
  unfold ErrR
  rw [e, e1, e2]
  exact h
theorem OutR.congr {G G' : GH} (e : ∀ a, a = 230 ∨ a = 231 ∨ a = 284 → G' a = G a) (ek : G' 272 27 = G 272 27) (h : OutR G) : OutR G' := by
  unfold OutR
  rw [ek, e 230 (by omega), e 231 (by omega), e 284 (by omega)]
  exact h
theorem RelI.congr {j j' : Int} {G G' : GH} (hj : j ≤ j') (e : ∀ a, ownA a → G' a = G a) (ek : ∀ k, ownK k → G' 272 k = G 272 k) (h : RelI j G) : RelI j' G' := by
  obtain ⟨h1, h2, h3, h4, h5, h6, h7, h8⟩ := h
  unfold ownA at e
  unfold ownK at ek
  have e273 : G' 273 = G 273 := e 273 (by omega)
  refine ⟨by rw [e273]; exact h1.mono hj, by rw [e273]; exact h2.congr (fun x x1 x2 => e x (by omega)), by rw [ek 17 (by omega)]; exact h3, h4.congr hj (fun a q => e a (by omega)) (ek 6 (by omega)), h5.congr hj (fun a q => e a (by omega)), h6.congr (fun a q => e a (by omega)) (ek 8 (by omega)), h7.congr (e 41 (by omega)) (ek 12 (by omega)) (ek 15 (by omega)), h8.congr (fun a q => e a (by omega)) (ek 27 (by omega))⟩
/-- the next call: nothing of Rel changed -/
theorem Rel.next {j : Nat} {G G' : GH} (h : Rel j G) (e : ∀ a, ownA a → G' a = G a) (ek : ∀ k, ownK k → G' 272 k = G 272 k) : Rel (j + 1) G' := RelI.congr (by omega) e ek h
theorem Rel.next0 {j : Nat} {G : GH} (h : Rel j G) : Rel (j + 1) G := h.next (fun _ _ => rfl) (fun _ _ => rfl)
/-- after a read: out and thrown alone changed -/
theorem Rel.read {j : Nat} {G G1 : GH} {t : Int} (h : Rel j G) (e : ∀ a, ownA a ∨ a = 272 → G1 a = G a) : Rel (j + 1) (upG G1 272 0 t) := by
  refine h.next (fun a q => ?_) (fun k q => ?_)
  · rw [up_na (by unfold ownA at q; omega), e a (Or.inl q)]
  · rw [upG_nk (by unfold ownK at q; omega), e 272 (Or.inr rfl)]
def tail0 (K : GH → Prop) (r1 : Int) : Int → GH → Prop := fun r2 G2 => ((r1 = r2 → K G2) ∧ (r1 ≠ r2 → False))
theorem tail0_ok {K : GH → Prop} {r1 r2 : Int} {G2 : GH} (h1 : r1 = r2) (hK : K G2) : tail0 K r1 r2 G2 := ⟨fun _ => hK, fun q => q h1⟩
theorem arm_read0 {j : Nat} {G : GH} {K : GH → Prop} {L : (Int → Prop) → Prop} {M : (Int → GH → Prop) → Prop} (v : Int) (h : Rel j G) (hK : ∀ G', Rel (j + 1) G' → K G')
    (hL : ∀ Q : Int → Prop, Q v → L Q) (hM : ∀ (Q : Int → GH → Prop), Q v (upG G 272 0 0) → M Q) : L (fun r1 => M (tail0 K r1)) :=
  hL _ (hM _ (tail0_ok rfl (hK _ (h.read (fun a q => rfl)))))
