-- ===== PURE LAYER: the reading methods and their arms =====
/-- the reference's state is W, no front is thought of -/
def MV (G : GH) (W : WT) : Prop := G 273 = W ∧ G 272 17 = -1
theorem MV.th {G : GH} {W : WT} {t : Int} (m : MV G W) : MV (upG G 272 0 t) W := ⟨by rw [up_na (by decide)]; exact m.1, by rw [upG_nk (by decide)]; exact m.2⟩
theorem MV.of {j : Nat} {G G1 : GH} (h : Rel j G) (e : ∀ a, ownA a ∨ a = 272 → G1 a = G a) : MV G1 (G 273) := ⟨e 273 (by unfold ownA; omega), by rw [e 272 (Or.inr rfl)]; exact h.2.2.1⟩
theorem Rel.wf {j : Nat} {G : GH} (h : Rel j G) : WF (j : Int) (G 273) := h.1
theorem Rel.rp {j : Nat} {G : GH} (h : Rel j G) : RepS G 1 (G 273) := h.2.1
section MVS
variable {G : GH} {W : WT} {Q : Int → Prop} {Z : Int → GH → Prop} {j : Int}
theorem mv_front {s : Int} (m : MV G W) (hs : 0 ≤ s ∧ s ≤ 42) (h : Q (frontW (-1) W s)) : f_X10_front s G Q := p10_front hs (by rw [m.1, m.2]; exact h)
theorem mv_back {s : Int} (m : MV G W) (hs : 0 ≤ s ∧ s ≤ 42) (h : Q (backW W s)) : f_X10_back s G Q := p10_back hs (by rw [m.1]; exact h)
theorem mv_count {s : Int} (m : MV G W) (hW : WF j W) (hs : 0 ≤ s ∧ s ≤ 42) (h : Q (cntW (-1) W s)) : f_X10_count s G Q := p10_count (j := j) (by rw [m.1]; exact hW) hs (by rw [m.1, m.2]; exact h)
theorem mv_way {s d : Int} (m : MV G W) (hs : 0 ≤ s ∧ s ≤ 42) (h : Q (wayW (-1) W s d)) : f_X10_wayOf s d G Q := p10_wayOf hs (by rw [m.1, m.2]; exact h)
theorem mv_hanging {s : Int} (m : MV G W) (h : Q (hgW W s)) : f_X10_hanging s G Q := p10_hanging (by rw [m.1]; exact h)
theorem mv_allRows (m : MV G W) (hW : WF j W) (h : Q (allRW W)) : f_X10_allRows G Q := p10_allRows (j := j) (by rw [m.1]; exact hW) (by rw [m.1]; exact h)
theorem mv_firstRow {b : Int} (m : MV G W) (hW : WF j W) (hb : 0 ≤ b ∧ b ≤ W 0) (h : Q (frstW W b)) : f_X10_firstRow b G Q := p10_firstRow (j := j) (by rw [m.1]; exact hW) (by rw [m.1]; exact hb) (by rw [m.1]; exact h)
theorem mv_allHanging (m : MV G W) (h : Q (ahW W)) : f_X10_allHanging G Q := p10_allHanging (by rw [m.1]; exact h)
theorem mv_turnedOnes (m : MV G W) (h : Q (tuW W)) : f_X10_turnedOnes G Q := p10_turnedOnes (by rw [m.1]; exact h)
theorem mv_isCard {c : Int} (m : MV G W) (hW : WF j W) (h : Q (b2 (isCardW W c))) : f_X10_isCard c G Q := p10_isCard (j := j) (by rw [m.1]; exact hW) (by rw [m.1]; exact h)
theorem mv_noFriend {c : Int} (m : MV G W) (hW : WF j W) (h0 : 0 ≤ c ∧ c ≤ W 4 - 1 → Z 0 (upG G 272 0 0)) (h1 : ¬ (0 ≤ c ∧ c ≤ W 4 - 1) → Z 1 (upG G 272 0 1)) : f_X10_noFriend c G Z := p10_noFriend (j := j) (by rw [m.1]; exact hW) (by rw [m.1]; exact h0) (by rw [m.1]; exact h1)
theorem mv_noLoan {c : Int} (m : MV G W) (hW : WF j W) (h0 : 0 ≤ c ∧ c ≤ W 6 - 1 → Z 0 (upG G 272 0 0)) (h1 : ¬ (0 ≤ c ∧ c ≤ W 6 - 1) → Z 1 (upG G 272 0 1)) : f_X10_noLoan c G Z := p10_noLoan (j := j) (by rw [m.1]; exact hW) (by rw [m.1]; exact h0) (by rw [m.1]; exact h1)
theorem mv_noService {c : Int} (m : MV G W) (hW : WF j W) (h0 : 0 ≤ c ∧ c ≤ W 5 - 1 → Z 0 (upG G 272 0 0)) (h1 : ¬ (0 ≤ c ∧ c ≤ W 5 - 1) → Z 1 (upG G 272 0 1)) : f_X10_noService c G Z := p10_noService (j := j) (by rw [m.1]; exact hW) (by rw [m.1]; exact h0) (by rw [m.1]; exact h1)
theorem mv_noOwn {c : Int} (m : MV G W) (hW : WF j W) (h0 : 0 ≤ c ∧ c ≤ W 3 - 1 → Z 0 (upG G 272 0 0)) (h1 : ¬ (0 ≤ c ∧ c ≤ W 3 - 1) → Z 1 (upG G 272 0 1)) : f_X10_noOwn c G Z := p10_noOwn (j := j) (by rw [m.1]; exact hW) (by rw [m.1]; exact h0) (by rw [m.1]; exact h1)
theorem mv_noRow {b r : Int} (m : MV G W) (hW : WF j W) (h0 : (0 ≤ b ∧ b < W 0) ∧ 0 ≤ r ∧ r < rowW W b → Z 0 (upG G 272 0 0)) (h1 : ¬ ((0 ≤ b ∧ b < W 0) ∧ 0 ≤ r ∧ r < rowW W b) → Z 1 (upG G 272 0 1)) : f_X10_noRow b r G Z := p10_noRow (j := j) (by rw [m.1]; exact hW) (by rw [m.1]; exact h0) (by rw [m.1]; exact h1)
end MVS
/-- an arm of a reading method: A wrong: 1; B wrong: 2 -/
theorem arm3 {j : Nat} {G : GH} {K : GH → Prop} {L : (Int → GH → Prop) → Prop} {M : GH → (Int → GH → Prop) → Prop} (A B : Prop) [Decidable A] [Decidable B] (v : Int) (h : Rel j G) (hK : ∀ G', Rel (j + 1) G' → K G')
    (hL : ∀ Q : Int → GH → Prop, (A → B → Q 0 (upG G 285 0 v)) → (¬ A → Q 1 G) → (A → ¬ B → Q 2 G) → L Q)
    (hM : ∀ (G1 : GH) (Q : Int → GH → Prop), MV G1 (G 273) → (A → B → Q v (upG G1 272 0 0)) → (¬ A → Q 0 (upG G1 272 0 1)) → (A → ¬ B → Q 0 (upG G1 272 0 2)) → M G1 Q) :
    L (fun r1 G1 => M G1 (tailP K r1)) := by
  refine arm_read (if A then (if B then 0 else 2) else 1) v h hK (fun Q q0 q1 => hL Q (fun a b => q0 (by rw [if_pos a, if_pos b])) (fun a => ?_) (fun a b => ?_)) (fun G1 Q e q => hM G1 Q (MV.of h e) (fun a b => ?_) (fun a => ?_) (fun a b => ?_))
  · rw [if_neg a] at q1; exact q1 (by decide)
  · rw [if_pos a, if_neg b] at q1; exact q1 (by decide)
  · rw [if_pos a, if_pos b] at q; exact q
  · rw [if_neg a] at q; exact q
  · rw [if_pos a, if_neg b] at q; exact q
section ARMS
variable {j : Nat} {G : GH} {K : GH → Prop} {L : Nat} {xs : Nat → Int32} {i4 : Int}
theorem arm_2 (h : Rel j G) (hK : ∀ G', Rel (j + 1) G' → K G') : f_law_2 L xs i4 G K :=
  arm_read0 (L := fun Q => f_X9_loadError G Q) (M := fun Q => f_X10_loadError G Q) (G 41 2) h hK (fun _ q => q) (fun Q q G1 e => by
    rw [e, upG_nk (by decide), h.2.2.2.2.2.2.1.1]; exact q)
theorem arm_3 (h : Rel j G) (hK : ∀ G', Rel (j + 1) G' → K G') : f_law_3 L xs i4 G K :=
  arm_read0 (L := fun Q => f_X9_loadStatement G Q) (M := fun Q => f_X10_loadStatement G Q) (G 272 15) h hK
    (fun Q q => ⟨fun c => by rw [← h.2.2.2.2.2.2.1.2.2 c]; exact q, fun c => by rw [← h.2.2.2.2.2.2.1.2.1 c]; exact q⟩) (fun Q q G1 e => by
    rw [e, upG_nk (by decide)]; exact q)
def sizeV (G : GH) (i : Int) : Int := if i = 0 then G 273 0 else if i = 1 then allRW (G 273) else if i = 2 then G 273 1 else if i = 3 then G 273 2 else if i = 4 then G 273 3 else if i = 5 then G 273 4 else if i = 6 then G 273 5 else if i = 7 then G 273 6 else if i = 8 then G 273 7 else if i = 9 then ahW (G 273) else if i = 10 then G 273 8 else if i = 11 then G 273 9 else if i = 12 then G 273 10 else if i = 13 then G 273 11 else G 272 6
theorem arm_4 (h : Rel j G) (hK : ∀ G', Rel (j + 1) G' → K G') (hL : 0 ≤ i4 ∧ i4 + 5 ≤ L) : f_law_4 L xs i4 G K := by
  have hW := h.wf
  have hR := h.rp
  have b := hW.bo
  refine ⟨⟨by omega, by omega⟩, ?_⟩
  generalize (xs ((i4 + 1)).toNat).toInt = i
  refine arm_read (L := fun Q => f_L_size i G Q) (M := fun G1 Q => f_X10_size i G1 Q) (if 0 ≤ i ∧ i ≤ 14 then 0 else 1) (sizeV G i) h hK (fun Q q0 q1 => ?_) (fun G1 Q e q => ?_)
  · refine ⟨fun c => ⟨rfl, ?_⟩, ?_⟩
    · rw [if_neg (by omega)] at q1; exact q1 (by decide)
    · by_cases c : 0 ≤ i ∧ i ≤ 14
      · rw [if_pos c] at q0
        have q0 := q0 rfl
        unfold sizeV at q0
        have k : ∀ v w : Int, v = w → Q 0 (upG G 285 0 w) → ∀ G1, G1 = upG G 285 0 v → Q 0 G1 := fun v w e1 q2 G1 e2 => by rw [e2, e1]; exact q2
        refine ⟨fun c => ?_, fun c => ?_, fun c => ?_, fun c => ?_, fun c => ?_, fun c => ?_, fun c => ?_, fun c => ?_, fun c => ?_, fun c => ?_, fun c => ?_, fun c => ?_, fun c => ?_, fun c => ?_, fun c => ?_⟩ <;> subst c
        · exact k _ _ hR.bo q0
        · rw [show G 1 0 = G 273 0 from hR.bo]
          exact c_rowsAhead hW hR ⟨by omega, by omega⟩ (k _ _ rfl q0)
        · have e : G 3 0 = G 273 1 := hR.tu
          have := hW.tu
          exact ⟨fun c => k _ _ (show (0 : Int) = G 273 1 by omega) q0, fun c => k _ _ (show (1 : Int) = G 273 1 by omega) q0⟩
        · have e : G 1 2 = G 273 2 := hR.sp
          have := hW.sp
          exact ⟨fun c => k _ _ (show (0 : Int) = G 273 2 by omega) q0, fun c => k _ _ (show (1 : Int) = G 273 2 by omega) q0⟩
        · exact k _ _ hR.ow q0
        · exact k _ _ hR.fr q0
        · exact k _ _ hR.se q0
        · exact k _ _ hR.lo q0
        · exact k _ _ hR.ha q0
        · exact c_countCards hW hR.hs (k _ _ rfl q0)
        · exact k _ _ hR.he q0
        · exact k _ _ hR.wo q0
        · exact k _ _ hR.hu q0
        · exact k _ _ hR.ou q0
        · exact k _ _ h.2.2.2.1.2.1 q0
      · refine ⟨fun c => ?_, fun c => ?_, fun c => ?_, fun c => ?_, fun c => ?_, fun c => ?_, fun c => ?_, fun c => ?_, fun c => ?_, fun c => ?_, fun c => ?_, fun c => ?_, fun c => ?_, fun c => ?_, fun c => ?_⟩ <;> omega
  · have m := MV.of h e
    have e6 : G1 272 6 = G 272 6 := by rw [e 272 (Or.inr rfl)]
    refine p10_in (p10_wr (fun c => ⟨fun _ => ?_, fun c2 => absurd rfl c2⟩) (fun c => ⟨fun c2 => by omega, fun _ => ?_⟩))
    · rw [if_pos c, if_pos rfl] at q
      have m1 := m.th (t := 0)
      unfold sizeV at q
      refine ⟨fun c2 => ?_, fun c => ?_, fun c => ?_, fun c => ?_, fun c => ?_, fun c => ?_, fun c => ?_, fun c => ?_, fun c => ?_, fun c => ?_, fun c => ?_, fun c => ?_, fun c => ?_, fun c => ?_, fun c => ?_⟩
      · have : i = 14 := by omega
        subst this
        rw [upG_nk (by decide), e6]; exact q
      all_goals subst c
      case refine_3 => exact mv_allRows m1 hW q
      case refine_11 => exact mv_allHanging m1 q
      all_goals (rw [m1.1]; exact q)
    · rw [if_neg c, if_neg (by decide)] at q; exact q
end ARMS
