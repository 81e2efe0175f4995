-- ===== PURE LAYER: arms of the reading methods, on =====
section ARMS
variable {j : Nat} {G : GH} {K : GH → Prop} {L : Nat} {xs : Nat → Int32} {i4 : Int}
def sortN (c : Int) : Int := if c < 100 then c else (12 + c) - 100
theorem sortN_rng {n : Int} {W : WT} {c : Int} (hW : WF n W) (h : isCardW W c) : isSort W (sortN c) ∧ 0 ≤ sortN c ∧ sortN c < 42 := by
  have := hW.ow
  have := hW.fr
  unfold isCardW at h
  unfold isSort sortN
  split <;> omega
theorem arm_5 (h : Rel j G) (hK : ∀ G', Rel (j + 1) G' → K G') (hL : 0 ≤ i4 ∧ i4 + 5 ≤ L) : f_law_5 L xs i4 G K := by
  have hW := h.wf
  have hR := h.rp
  have i1 : inR (xs ((i4 + 1)).toNat).toInt := inR_toInt _
  refine ⟨⟨by omega, by omega⟩, ⟨by omega, by omega⟩, ?_⟩
  generalize (xs ((i4 + 1)).toNat).toInt = c at i1 ⊢
  generalize (xs ((i4 + 2)).toNat).toInt = i
  refine arm3 (L := fun Q => f_L_card c i G Q) (M := fun G1 Q => f_X10_card c i G1 Q) (isCardW (G 273) c) (0 ≤ i ∧ i ≤ 3) (if i = 0 then frontW (-1) (G 273) (sortN c) else if i = 1 then backW (G 273) (sortN c) else if i = 2 then cntW (-1) (G 273) (sortN c) else hgW (G 273) (sortN c)) h hK (fun Q q0 q1 q2 => ?_) (fun G1 Q m q0 q1 q2 => ?_)
  · unfold f_L_card f_X9_card
    refine c_sortOf i1 hW hR (fun a => ⟨fun b => Or.inr ⟨rfl, q2 a (by omega)⟩, ?_⟩) (fun a => Or.inl ⟨rfl, q1 a⟩)
    have s := sortN_rng hW a
    show (_ = _ → f_X8_frontOf 3 (sortN c) G _) ∧ (_ = _ → f_X8_backOf 3 (sortN c) G _) ∧ (_ = _ → (0 ≤ sortN c ∧ sortN c < 42) ∧ _) ∧ (_ = _ → (0 ≤ sortN c ∧ sortN c < 42) ∧ _)
    by_cases b : 0 ≤ i ∧ i ≤ 3
    · have q0 := q0 a b
      refine ⟨fun e => ?_, fun e => ?_, fun e => ⟨s.2, ?_⟩, fun e => ⟨s.2, ?_⟩⟩ <;> subst e
      · exact c_frontOf hW hR s.1 (fun G1 e => by rw [e]; exact q0)
      · exact c_backOf hW hR s.1 (fun G1 e => by rw [e]; exact q0)
      · intro G1 (e : G1 = upG G 285 0 (G 6 (sortN c).toNat))
        rw [e, show G 6 (sortN c).toNat = cntW (-1) (G 273) (sortN c) from hR.ct _ s.2.1 s.2.2]; exact q0
      · intro G1 (e : G1 = upG G 285 0 (G 20 (sortN c).toNat))
        rw [e, show G 20 (sortN c).toNat = hgW (G 273) (sortN c) from hR.hg _ s.2.1 s.2.2]; exact q0
    · refine ⟨fun e => ?_, fun e => ?_, fun e => ?_, fun e => ?_⟩ <;> omega
  · refine mv_isCard m hW (p10_wr (fun a => z01' (p10_in (p10_th (fun b => z01 ?_) (fun b => z10 ?_)))) (fun a => z10' (q1 a)))
    · have s := sortN_rng hW a
      have hfr := hW.fr
      have how := hW.ow
      have m1 := m.th (t := 0)
      have q0 := q0 a b
      refine p10_sortOf (by omega) ?_
      show (_ → f_X10_hanging (sortN c) _ _) ∧ (_ = _ → f_X10_front (sortN c) _ _) ∧ (_ = _ → f_X10_back (sortN c) _ _) ∧ (_ = _ → f_X10_count (sortN c) _ _)
      refine ⟨fun e => ?_, fun e => ?_, fun e => ?_, fun e => ?_⟩
      · have : i = 3 := by omega
        subst this
        exact mv_hanging m1 q0
      all_goals subst e
      · exact mv_front m1 (by omega) q0
      · exact mv_back m1 (by omega) q0
      · exact mv_count m1 hW (by omega) q0
    · rw [up_up]; exact q2 a b
theorem arm_6 (h : Rel j G) (hK : ∀ G', Rel (j + 1) G' → K G') (hL : 0 ≤ i4 ∧ i4 + 5 ≤ L) : f_law_6 L xs i4 G K := by
  have hW := h.wf
  have hR := h.rp
  have i1 : inR (xs ((i4 + 1)).toNat).toInt := inR_toInt _
  refine ⟨⟨by omega, by omega⟩, ⟨by omega, by omega⟩, ?_⟩
  generalize (xs ((i4 + 1)).toNat).toInt = c at i1 ⊢
  generalize (xs ((i4 + 2)).toNat).toInt = i
  refine arm3 (L := fun Q => f_L_way c i G Q) (M := fun G1 Q => f_X10_way c i G1 Q) (isCardW (G 273) c) (0 ≤ i ∧ i ≤ 9) (wayW (-1) (G 273) (sortN c) i) h hK (fun Q q0 q1 q2 => ?_) (fun G1 Q m q0 q1 q2 => ?_)
  · unfold f_L_way f_X9_way
    refine c_sortOf i1 hW hR (fun a => c_needDigit (fun b => ?_) (fun b => Or.inr ⟨rfl, q2 a b⟩)) (fun a => Or.inl ⟨rfl, q1 a⟩)
    exact c_wayOf hW hR (sortN_rng hW a).1 b (fun G1 e => by rw [e]; exact q0 a b)
  · refine mv_isCard m hW (p10_wr (fun a => z01' (p10_in (p10_th (fun b => z01 ?_) (fun b => z10 ?_)))) (fun a => z10' (q1 a)))
    · have s := sortN_rng hW a
      have hfr := hW.fr
      have how := hW.ow
      exact p10_sortOf (by omega) (mv_way m.th (s := sortN c) (by omega) (q0 a b))
    · rw [up_up]; exact q2 a b
theorem arm_7 (h : Rel j G) (hK : ∀ G', Rel (j + 1) G' → K G') (hL : 0 ≤ i4 ∧ i4 + 5 ≤ L) : f_law_7 L xs i4 G K := by
  have hW := h.wf
  have hR := h.rp
  have hf := hW.fr
  refine ⟨⟨by omega, by omega⟩, ⟨by omega, by omega⟩, ?_⟩
  generalize (xs ((i4 + 1)).toNat).toInt = c
  generalize (xs ((i4 + 2)).toNat).toInt = i
  refine arm3 (L := fun Q => f_L_lends c i G Q) (M := fun G1 Q => f_X10_lends c i G1 Q) (0 ≤ c ∧ c < G 273 4) (0 ≤ i ∧ i ≤ 9) (friW (G 273) c (1 + i)) h hK (fun Q q0 q1 q2 => ?_) (fun G1 Q m q0 q1 q2 => ?_)
  · refine c_needFriend hW hR (fun a => c_needDigit (fun b => ⟨⟨by omega, by omega⟩, fun G1 e => ?_⟩) (fun b => Or.inr ⟨rfl, q2 a b⟩)) (fun a => Or.inl ⟨rfl, q1 a⟩)
    have := (hR.fd c a.1 a.2).2 i (by omega) (by omega)
    rw [e, show G 8 ((c * 10) + i).toNat = friW (G 273) c (1 + i) from this]; exact q0 a b
  · refine mv_noFriend m hW (fun a => z01' (p10_in (p10_th (fun b => z01 ⟨⟨by omega, by omega⟩, p10_ofFriend (by omega) (by omega) ?_⟩) (fun b => z10 ?_)))) (fun a => z10' (q1 (by omega)))
    · rw [m.th.1]; exact q0 (by omega) b
    · rw [up_up]; exact q2 (by omega) b
theorem arm_8 (h : Rel j G) (hK : ∀ G', Rel (j + 1) G' → K G') (hL : 0 ≤ i4 ∧ i4 + 5 ≤ L) : f_law_8 L xs i4 G K := by
  have hW := h.wf
  have hR := h.rp
  have hl := hW.lo
  have elo : G 3 8 = G 273 6 := hR.lo
  refine ⟨⟨by omega, by omega⟩, ⟨by omega, by omega⟩, ?_⟩
  generalize (xs ((i4 + 1)).toNat).toInt = c
  generalize (xs ((i4 + 2)).toNat).toInt = i
  refine arm3 (L := fun Q => f_L_loan c i G Q) (M := fun G1 Q => f_X10_loan c i G1 Q) (0 ≤ c ∧ c ≤ G 273 6 - 1) (0 ≤ i ∧ i ≤ 3) (loanW (G 273) c i) h hK (fun Q q0 q1 q2 => ?_) (fun G1 Q m q0 q1 q2 => ?_)
  · unfold f_L_loan f_X9_loan
    rw [elo]
    refine ⟨⟨by omega, by omega⟩, c_within (c_needI (fun a => ⟨fun b => Or.inr ⟨rfl, q2 a (by omega)⟩, ?_⟩) (fun a => Or.inl ⟨rfl, q1 a⟩))⟩
    by_cases b : 0 ≤ i ∧ i ≤ 3
    · have q0 := q0 a b
      have e := hR.ln c (by omega) (by omega)
      have ln := hW.ln c (by omega) (by omega)
      have e1 : G 9 c.toNat = loanW (G 273) c 0 * 10 + loanW (G 273) c 1 := e.1
      have e2 : G 10 c.toNat = loanW (G 273) c 2 := e.2.1
      have e3 : G 11 c.toNat = loanW (G 273) c 3 := e.2.2
      refine ⟨fun e => ⟨⟨by omega, by omega⟩, by omega, fun G1 e5 => ?_⟩, fun e => ⟨⟨by omega, by omega⟩, by omega, fun G1 e5 => ?_⟩, fun e => ⟨⟨by omega, by omega⟩, fun G1 e5 => ?_⟩, fun e => ⟨⟨by omega, by omega⟩, fun G1 e5 => ?_⟩⟩ <;> subst e
      · rw [e5, e1, show (loanW (G 273) c 0 * 10 + loanW (G 273) c 1) / 10 = loanW (G 273) c 0 by omega]; exact q0
      · rw [e5, e1, show (loanW (G 273) c 0 * 10 + loanW (G 273) c 1) % 10 = loanW (G 273) c 1 by omega]; exact q0
      · rw [e5, e2]; exact q0
      · rw [e5, e3]; exact q0
    · refine ⟨fun e => ?_, fun e => ?_, fun e => ?_, fun e => ?_⟩ <;> omega
  · refine mv_noLoan m hW (fun a => z01' (p10_in (p10_th (fun b => z01 (p10_ofLoan (by omega) b ?_)) (fun b => z10 ?_)))) (fun a => z10' (q1 a))
    · rw [m.th.1]; exact q0 a b
    · rw [up_up]; exact q2 a b
theorem arm_9 (h : Rel j G) (hK : ∀ G', Rel (j + 1) G' → K G') (hL : 0 ≤ i4 ∧ i4 + 5 ≤ L) : f_law_9 L xs i4 G K := by
  have hW := h.wf
  have hR := h.rp
  have hb := hW.bo
  have ebo : G 1 0 = G 273 0 := hR.bo
  refine ⟨⟨by omega, by omega⟩, ?_⟩
  generalize (xs ((i4 + 1)).toNat).toInt = c
  refine arm3 (L := fun Q => f_L_rows c G Q) (M := fun G1 Q => f_X10_rows c G1 Q) (0 ≤ c ∧ c ≤ G 273 0 - 1) True (rowW (G 273) c) h hK (fun Q q0 q1 q2 => ?_) (fun G1 Q m q0 q1 q2 => ?_)
  · unfold f_L_rows f_X9_rows
    rw [ebo]
    refine ⟨⟨by omega, by omega⟩, c_within (c_needI (fun a => ⟨⟨by omega, by omega⟩, fun G1 e => ?_⟩) (fun a => ⟨rfl, q1 a⟩))⟩
    rw [e, show G 2 c.toNat = rowW (G 273) c from hR.ro c (by omega) (by omega)]; exact q0 a trivial
  · refine p10_isBoard (j := j) (by rw [m.1]; exact hW) (p10_wr (fun a => z01 ?_) (fun a => z10 (q1 ?_)))
    · rw [m.1] at a
      refine ⟨⟨by omega, by omega⟩, ?_⟩
      rw [m.th.1]; exact q0 a trivial
    · rw [m.1] at a; exact a
theorem arm_10 (h : Rel j G) (hK : ∀ G', Rel (j + 1) G' → K G') (hL : 0 ≤ i4 ∧ i4 + 5 ≤ L) : f_law_10 L xs i4 G K := by
  have hW := h.wf
  have hR := h.rp
  have hs := hW.se
  refine ⟨⟨by omega, by omega⟩, ?_⟩
  generalize (xs ((i4 + 1)).toNat).toInt = c
  refine arm3 (L := fun Q => f_L_hymns c G Q) (M := fun G1 Q => f_X10_hymns c G1 Q) (0 ≤ c ∧ c < G 273 5) True (servW (G 273) c 0) h hK (fun Q q0 q1 q2 => ?_) (fun G1 Q m q0 q1 q2 => ?_)
  · refine c_needService hW hR (fun a => ⟨⟨by omega, by omega⟩, fun G1 e => ?_⟩) (fun a => ⟨rfl, q1 a⟩)
    rw [e, show G 13 c.toNat = servW (G 273) c 0 from (hR.sv c (by omega) (by omega)).1]; exact q0 a trivial
  · refine mv_noService m hW (fun a => z01 (p10_hymnsOf (by omega) ?_)) (fun a => z10 (q1 (by omega)))
    rw [m.th.1]; exact q0 (by omega) trivial
theorem arm_11 (h : Rel j G) (hK : ∀ G', Rel (j + 1) G' → K G') (hL : 0 ≤ i4 ∧ i4 + 5 ≤ L) : f_law_11 L xs i4 G K := by
  have hW := h.wf
  have hR := h.rp
  have hs := hW.se
  have i1 : inR (xs ((i4 + 2)).toNat).toInt := inR_toInt _
  refine ⟨⟨by omega, by omega⟩, ⟨by omega, by omega⟩, ?_⟩
  generalize (xs ((i4 + 1)).toNat).toInt = c
  generalize (xs ((i4 + 2)).toNat).toInt = i at i1 ⊢
  refine arm3 (L := fun Q => f_L_hymn c i G Q) (M := fun G1 Q => f_X10_hymn c i G1 Q) (0 ≤ c ∧ c < G 273 5) True (if 0 ≤ i ∧ i < servW (G 273) c 0 then servW (G 273) c (1 + i) else -1) h hK (fun Q q0 q1 q2 => ?_) (fun G1 Q m q0 q1 q2 => ?_)
  · refine c_needService hW hR (fun a => c_hymnAt (a := 1) hW hR a i1 (fun G1 e => ?_)) (fun a => ⟨rfl, q1 a⟩)
    rw [e]; exact q0 a trivial
  · refine mv_noService m hW (fun a => z01 (p10_hymnsOf (by omega) ?_)) (fun a => z10 (q1 (by omega)))
    have sv := hW.sv c (by omega) (by omega)
    have q0 := q0 (by omega) trivial
    rw [m.th.1]
    refine ⟨⟨by omega, by omega⟩, p10_in ⟨fun b => ?_, fun b => ?_⟩⟩
    · have b := b2_eq0 b
      rw [if_neg (by omega)] at q0; exact q0
    · have b := b2_ne0 b
      rw [if_pos (by omega)] at q0
      refine p10_hymnOf (by omega) (by omega) ?_
      rw [m.th.1]; exact q0
end ARMS
