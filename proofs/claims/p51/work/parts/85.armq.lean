-- ===== PURE LAYER: what would be: arms =====
def RQ (G G' : GH) : Prop := (∀ x, x ≠ 272 → x ≠ 274 → ¬ (280 ≤ x ∧ x ≤ 283) → G' x = G x) ∧ (∀ k, ¬ (22 ≤ k ∧ k ≤ 25) → G' 272 k = G 272 k)
theorem RQ.rfl' {G : GH} : RQ G G := ⟨fun _ _ _ _ => rfl, fun _ _ => rfl⟩
theorem RQ.trans {G G' G'' : GH} (a : RQ G G') (b : RQ G' G'') : RQ G G'' := ⟨fun x x0 x1 x2 => (b.1 x x0 x1 x2).trans (a.1 x x0 x1 x2), fun k hk => (b.2 k hk).trans (a.2 k hk)⟩
def CQ (G G' : GH) : Prop := ∀ x, ¬ (208 ≤ x ∧ x ≤ 229) → G' x = G x
theorem CQ.trans {G G' G'' : GH} (a : CQ G G') (b : CQ G' G'') : CQ G G'' := fun x hx => (b x hx).trans (a x hx)
theorem arm_q0 {j : Nat} {G : GH} {K : GH → Prop} {L : (Int → GH → Prop) → Prop} {M : GH → (Int → GH → Prop) → Prop} (v : Int) (h : Rel j G) (hK : ∀ G', Rel (j + 1) G' → K G')
    (hL : ∀ Q : Int → GH → Prop, (∀ G1, CQ G G1 → Q v G1) → L Q)
    (hM : ∀ (G1 : GH) (Q : Int → GH → Prop), CQ G G1 → (∀ G', RQ (upG G1 272 0 0) G' → Q v G') → M G1 Q) :
    L (fun r1 G1 => M G1 (tail0 K r1)) := by
  refine hL _ (fun G1 q1 => hM _ _ q1 (fun G' q => tail0_ok rfl (hK _ (h.next (fun a ha => ?_) (fun k hk => ?_)))))
  · unfold ownA at ha
    rw [q.1 a (by omega) (by omega) (by omega), up_na (by omega), q1 a (by omega)]
  · unfold ownK at hk
    rw [q.2 k (by omega), upG_nk (by omega), q1 272 (by omega)]
def F4 (tf : Int) (W : WT) (s : Int) (G : GH) : Prop := G 272 22 = rhV tf W s (allRW W) ∧ G 272 23 = roV tf W s (allRW W) ∧ G 272 24 = foN tf W s (allRW W).toNat ∧ G 272 25 = wkV tf W s
section AQ
variable {tf : Int} {W : WT} {s n : Int} {G : GH}
theorem hng_high {k : Nat} (hk : 456 ≤ k) : hngW tf W s k = W k := by
  unfold hngW
  rw [if_neg (by omega), if_neg (by omega), if_neg (by omega), if_neg (by omega), if_neg (by omega), if_neg (by omega), if_neg (by omega)]
theorem CQ.rep {G1 : GH} (q : CQ G G1) (hR : RepS G 1 W) : RepS G1 1 W := hR.congr (fun x x0 x1 => q x (by omega))
/-- the class's rows, chosen for a thought -/
theorem c_think {Q : GH → Prop} (hW : WF n W) (hs : 0 ≤ s ∧ s < W 5) (ht : -1 ≤ tf ∧ tf ≤ 9) (hR : RepS G 1 W) (h : ∀ (G' : GH) (m : Int), CQ G G' → Chosen G' 218 tf W s m → Q G') : f_X4_chooseRows 1 s tf 218 G Q :=
  c_chooseRows (Or.inl rfl) hW hs ht hR (fun G' m o c => h G' m (fun x hx => o x (by omega) (by omega)) c)
end AQ
section AQ2
variable {j : Nat} {G : GH} {K : GH → Prop} {L : Nat} {xs : Nat → Int32} {i4 : Int}
theorem mq_up {G : GH} {t : Int} : ∀ x, x ≠ 272 → (upG G 272 0 t) x = G x := fun _ hx => up_na hx
-- firstOut
def fvI (W : WT) (v : Int) : Prop := (v = -1 ∧ ∀ s, 0 ≤ s → s < W 5 → roV (-1) W s (allRW W) ≤ 0) ∨ ((0 ≤ v ∧ v < W 5) ∧ 0 < roV (-1) W v (allRW W) ∧ ∀ s, 0 ≤ s → s < v → roV (-1) W s (allRW W) ≤ 0)
theorem fvI_one {W : WT} {v v' : Int} (a : fvI W v) (b : fvI W v') : v = v' := by
  rcases a with ⟨a1, a2⟩ | ⟨a1, a2, a3⟩ <;> rcases b with ⟨b1, b2⟩ | ⟨b1, b2, b3⟩
  · omega
  · have := a2 v' b1.1 b1.2
    omega
  · have := b2 v a1.1 a1.2
    omega
  · rcases Int.lt_trichotomy v v' with q | q | q
    · have := b3 v a1.1 q
      omega
    · exact q
    · have := a3 v' b1.1 q
      omega
-- easiest
def eaN (W : WT) : Nat → Int × Int
  | 0 => (-1, 0)
  | k + 1 => if (eaN W k).1 = -1 ∨ wkV (-1) W (k : Int) < (eaN W k).2 then ((k : Int), wkV (-1) W (k : Int)) else eaN W k
theorem eaN_s {W : WT} {x : Int} (h : 0 ≤ x) : eaN W (x + 1).toNat = if (eaN W x.toNat).1 = -1 ∨ wkV (-1) W x < (eaN W x.toNat).2 then (x, wkV (-1) W x) else eaN W x.toNat := by
  have e : eaN W (x.toNat + 1) = if (eaN W x.toNat).1 = -1 ∨ wkV (-1) W ((x.toNat : Nat) : Int) < (eaN W x.toNat).2 then (((x.toNat : Nat) : Int), wkV (-1) W ((x.toNat : Nat) : Int)) else eaN W x.toNat := rfl
  rw [show (x + 1).toNat = x.toNat + 1 by omega, e, show ((x.toNat : Nat) : Int) = x by omega]
end AQ2
