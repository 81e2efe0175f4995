-- ===== PURE LAYER: a State of the class shows W; what the class reads =====
def HangS (G : GH) (h : Nat) (W : WT) : Prop :=
  (∀ b r : Int, 0 ≤ b → b < 3 → 0 ≤ r → r < 6 → (actv W 1 b r → G (h + 1) (6 * b + r).toNat = hunW W (frstW W b + r)) ∧ (¬ actv W 1 b r → G (h + 1) (6 * b + r).toNat = -1)) ∧
  (∀ b i : Int, 0 ≤ b → b < 3 → 0 ≤ i → i < 18 → (actv W 3 b i → G (h + 2) (18 * b + i).toNat = plaW W (3 * frstW W b + i) 0 ∧ G (h + 3) (18 * b + i).toNat = plaW W (3 * frstW W b + i) 1 ∧ G (h + 4) (18 * b + i).toNat = plaW W (3 * frstW W b + i) 2) ∧
    (¬ actv W 3 b i → G (h + 2) (18 * b + i).toNat = -1 ∧ G (h + 3) (18 * b + i).toNat = -1 ∧ G (h + 4) (18 * b + i).toNat = -1))
def RepS (G : GH) (a : Nat) (W : WT) : Prop :=
  G a 0 = W 0 ∧ (∀ b : Int, 0 ≤ b → b < W 0 → G (a + 1) b.toNat = rowW W b) ∧ G a 2 = W 2 ∧ G (a + 2) 0 = W 1 ∧ G (a + 2) 1 = W 3 ∧ G (a + 2) 5 = W 4 ∧ G (a + 2) 8 = W 6 ∧
  (∀ k : Int, 0 ≤ k → k < W 3 → G (a + 3) k.toNat = cardW W k 0 ∧ G (a + 4) k.toNat = cardW W k 1) ∧
  (∀ s : Int, 0 ≤ s → s < 42 → G (a + 5) s.toNat = cntW (-1) W s) ∧
  (∀ f : Int, 0 ≤ f → f < W 4 → G (a + 6) f.toNat = friW W f 0 ∧ ∀ d : Int, 0 ≤ d → d < 10 → G (a + 7) ((f * 10) + d).toNat = friW W f (1 + d)) ∧
  (∀ l : Int, 0 ≤ l → l < W 6 → G (a + 8) l.toNat = loanW W l 0 * 10 + loanW W l 1 ∧ G (a + 9) l.toNat = loanW W l 2 ∧ G (a + 10) l.toNat = loanW W l 3) ∧
  G (a + 11) 0 = W 5 ∧ (∀ s : Int, 0 ≤ s → s < W 5 → G (a + 12) s.toNat = servW W s 0 ∧ ∀ i : Int, 0 ≤ i → i < servW W s 0 → G (a + 13) ((s * 8) + i).toNat = servW W s (1 + i)) ∧
  G (a + 14) 0 = W 7 ∧ HangS G (a + 14) W ∧ (∀ s : Int, 0 ≤ s → s < 42 → G (a + 19) s.toNat = hgW W s) ∧
  G a 6 = W 8 ∧ G a 7 = W 9 ∧ G a 8 = W 10 ∧ G a 9 = W 11
section REP
variable {G : GH} {a : Nat} {W : WT}
theorem RepS.bo (h : RepS G a W) : G a 0 = W 0 := h.1
theorem RepS.ro (h : RepS G a W) : ∀ b : Int, 0 ≤ b → b < W 0 → G (a + 1) b.toNat = rowW W b := h.2.1
theorem RepS.sp (h : RepS G a W) : G a 2 = W 2 := h.2.2.1
theorem RepS.tu (h : RepS G a W) : G (a + 2) 0 = W 1 := h.2.2.2.1
theorem RepS.ow (h : RepS G a W) : G (a + 2) 1 = W 3 := h.2.2.2.2.1
theorem RepS.fr (h : RepS G a W) : G (a + 2) 5 = W 4 := h.2.2.2.2.2.1
theorem RepS.lo (h : RepS G a W) : G (a + 2) 8 = W 6 := h.2.2.2.2.2.2.1
theorem RepS.ca (h : RepS G a W) : ∀ k : Int, 0 ≤ k → k < W 3 → G (a + 3) k.toNat = cardW W k 0 ∧ G (a + 4) k.toNat = cardW W k 1 := h.2.2.2.2.2.2.2.1
theorem RepS.ct (h : RepS G a W) : ∀ s : Int, 0 ≤ s → s < 42 → G (a + 5) s.toNat = cntW (-1) W s := h.2.2.2.2.2.2.2.2.1
theorem RepS.fd (h : RepS G a W) : ∀ f : Int, 0 ≤ f → f < W 4 → G (a + 6) f.toNat = friW W f 0 ∧ ∀ d : Int, 0 ≤ d → d < 10 → G (a + 7) ((f * 10) + d).toNat = friW W f (1 + d) := h.2.2.2.2.2.2.2.2.2.1
theorem RepS.ln (h : RepS G a W) : ∀ l : Int, 0 ≤ l → l < W 6 → G (a + 8) l.toNat = loanW W l 0 * 10 + loanW W l 1 ∧ G (a + 9) l.toNat = loanW W l 2 ∧ G (a + 10) l.toNat = loanW W l 3 := h.2.2.2.2.2.2.2.2.2.2.1
theorem RepS.se (h : RepS G a W) : G (a + 11) 0 = W 5 := h.2.2.2.2.2.2.2.2.2.2.2.1
theorem RepS.sv (h : RepS G a W) : ∀ s : Int, 0 ≤ s → s < W 5 → G (a + 12) s.toNat = servW W s 0 ∧ ∀ i : Int, 0 ≤ i → i < servW W s 0 → G (a + 13) ((s * 8) + i).toNat = servW W s (1 + i) := h.2.2.2.2.2.2.2.2.2.2.2.2.1
theorem RepS.ha (h : RepS G a W) : G (a + 14) 0 = W 7 := h.2.2.2.2.2.2.2.2.2.2.2.2.2.1
theorem RepS.hs (h : RepS G a W) : HangS G (a + 14) W := h.2.2.2.2.2.2.2.2.2.2.2.2.2.2.1
theorem RepS.hg (h : RepS G a W) : ∀ s : Int, 0 ≤ s → s < 42 → G (a + 19) s.toNat = hgW W s := h.2.2.2.2.2.2.2.2.2.2.2.2.2.2.2.1
theorem RepS.he (h : RepS G a W) : G a 6 = W 8 := h.2.2.2.2.2.2.2.2.2.2.2.2.2.2.2.2.1
theorem RepS.wo (h : RepS G a W) : G a 7 = W 9 := h.2.2.2.2.2.2.2.2.2.2.2.2.2.2.2.2.2.1
theorem RepS.hu (h : RepS G a W) : G a 8 = W 10 := h.2.2.2.2.2.2.2.2.2.2.2.2.2.2.2.2.2.2.1
theorem RepS.ou (h : RepS G a W) : G a 9 = W 11 := h.2.2.2.2.2.2.2.2.2.2.2.2.2.2.2.2.2.2.2
theorem HangS.congr {G' : GH} {h : Nat} (e : ∀ x, h + 1 ≤ x → x ≤ h + 4 → G' x = G x) (q : HangS G h W) : HangS G' h W := by
  unfold HangS
  rw [e (h + 1) (by omega) (by omega), e (h + 2) (by omega) (by omega), e (h + 3) (by omega) (by omega), e (h + 4) (by omega) (by omega)]
  exact q
theorem RepS.congr {G' : GH} (e : ∀ x, a ≤ x → x < a + 20 → G' x = G x) (q : RepS G a W) : RepS G' a W := by
  unfold RepS
  rw [e a (by omega) (by omega), e (a + 1) (by omega) (by omega), e (a + 2) (by omega) (by omega), e (a + 3) (by omega) (by omega), e (a + 4) (by omega) (by omega), e (a + 5) (by omega) (by omega), e (a + 6) (by omega) (by omega), e (a + 7) (by omega) (by omega), e (a + 8) (by omega) (by omega), e (a + 9) (by omega) (by omega), e (a + 10) (by omega) (by omega), e (a + 11) (by omega) (by omega), e (a + 12) (by omega) (by omega), e (a + 13) (by omega) (by omega), e (a + 14) (by omega) (by omega), e (a + 19) (by omega) (by omega)]
  obtain ⟨a1, a2, a3, a4, a5, a6, a7, a8, a9, a10, a11, a12, a13, a14, a15, a16⟩ := q
  exact ⟨a1, a2, a3, a4, a5, a6, a7, a8, a9, a10, a11, a12, a13, a14, a15.congr (fun x h1 h2 => e x (by omega) (by omega)), a16⟩
end REP
section CREAD
variable {G : GH} {a : Nat} {Q : Int → Prop} {j : Int} {W : WT} {P : Prop} {X : String → Prop}
theorem c_within {x lo hi : Int} (h : Q (b2 (lo ≤ x ∧ x ≤ hi))) : f_X9_within x lo hi Q := by
  unfold f_X9_within
  refine ⟨fun c => ?_, fun c => ⟨fun c2 => ?_, fun c2 => ?_⟩⟩
  · rw [b2_f (by omega)] at h; exact h
  · rw [b2_f (by omega)] at h; exact h
  · rw [b2_t (by omega)] at h; exact h
theorem c_needI {p : Prop} [Decidable p] (h : p → P) (hx : ¬ p → X xIOB) : f_X9_needIndex (b2 p) P X := ⟨fun c => h (b2_ne0 c), fun c => hx (b2_eq0 c)⟩
theorem c_needA {p : Prop} [Decidable p] (h : p → P) (hx : ¬ p → X xIAE) : f_X9_needArgument (b2 p) P X := ⟨fun c => h (b2_ne0 c), fun c => hx (b2_eq0 c)⟩
theorem c_needDigit {d : Int} (h : 0 ≤ d ∧ d ≤ 9 → P) (hx : ¬ (0 ≤ d ∧ d ≤ 9) → X xIAE) : f_X9_needDigit d P X := c_within (c_needA h hx)
theorem c_needHymn {d : Int} (h : 1 ≤ d ∧ d ≤ 999 → P) (hx : ¬ (1 ≤ d ∧ d ≤ 999) → X xIAE) : f_X9_needHymn d P X := c_within (c_needA h hx)
theorem c_needMany {d : Int} (h : 1 ≤ d ∧ d ≤ 60 → P) (hx : ¬ (1 ≤ d ∧ d ≤ 60) → X xIAE) : f_X9_needMany d P X := c_within (c_needA h hx)
theorem c_needService {s : Int} (hW : WF j W) (hR : RepS G 1 W) (h : 0 ≤ s ∧ s < W 5 → P) (hx : ¬ (0 ≤ s ∧ s < W 5) → X xIOB) : f_X9_needService s G P X := by
  have e : G 12 0 = W 5 := hR.se
  have := hW.se
  unfold f_X9_needService
  rw [e]
  exact ⟨⟨by omega, by omega⟩, c_within (c_needI (fun q => h (by omega)) (fun q => hx (by omega)))⟩
theorem c_needFriend {s : Int} (hW : WF j W) (hR : RepS G 1 W) (h : 0 ≤ s ∧ s < W 4 → P) (hx : ¬ (0 ≤ s ∧ s < W 4) → X xIOB) : f_X9_needFriend s G P X := by
  have e : G 3 5 = W 4 := hR.fr
  have := hW.fr
  unfold f_X9_needFriend
  rw [e]
  exact ⟨⟨by omega, by omega⟩, c_within (c_needI (fun q => h (by omega)) (fun q => hx (by omega)))⟩
theorem c_needOwn {s : Int} (hW : WF j W) (hR : RepS G 1 W) (h : 0 ≤ s ∧ s < W 3 → P) (hx : ¬ (0 ≤ s ∧ s < W 3) → X xIOB) : f_X9_needOwn s G P X := by
  have e : G 3 1 = W 3 := hR.ow
  have := hW.ow
  unfold f_X9_needOwn
  rw [e]
  exact ⟨⟨by omega, by omega⟩, c_within (c_needI (fun q => h (by omega)) (fun q => hx (by omega)))⟩
theorem c_needRow {b r : Int} (hW : WF j W) (hR : RepS G 1 W) (h : (0 ≤ b ∧ b < W 0) ∧ 0 ≤ r ∧ r < rowW W b → P) (hx : ¬ ((0 ≤ b ∧ b < W 0) ∧ 0 ≤ r ∧ r < rowW W b) → X xIOB) : f_X9_needRow b r G P X := by
  have e : G 1 0 = W 0 := hR.bo
  have := hW.bo
  unfold f_X9_needRow
  rw [e]
  refine ⟨⟨by omega, by omega⟩, c_within (c_needI (fun q => ?_) (fun q => hx (by omega)))⟩
  have e2 : G 2 b.toNat = rowW W b := hR.ro b (by omega) (by omega)
  have r2 := hW.ro b (by omega) (by omega)
  rw [e2]
  exact ⟨⟨by omega, by omega⟩, ⟨by omega, by omega⟩, c_within (c_needI (fun q2 => h (by omega)) (fun q2 => hx (by omega)))⟩
/-- the class's sort of a card's number -/
theorem c_sortOf {c9 : Int} (hi : inR c9) (hW : WF j W) (hR : RepS G 1 W) (h : (0 ≤ c9 ∧ c9 < W 3) ∨ (100 ≤ c9 ∧ c9 < 100 + 10 * W 4) → Q (if c9 < 100 then c9 else (12 + c9) - 100)) (hx : ¬ ((0 ≤ c9 ∧ c9 < W 3) ∨ (100 ≤ c9 ∧ c9 < 100 + 10 * W 4)) → X xIOB) : f_X9_sortOf c9 G Q X := by
  have hf := hW.fr
  have ho := hW.ow
  unfold f_X9_sortOf
  refine ⟨fun c => ⟨by omega, c_needFriend hW hR (fun q => ⟨⟨by omega, by omega⟩, ?_⟩) (fun q => hx (by omega))⟩, fun c => c_needOwn hW hR (fun q => ?_) (fun q => hx (by omega))⟩
  · have h9 := h (by omega)
    rw [if_neg (by omega)] at h9
    rw [show 12 + (c9 - 100) = (12 + c9) - 100 by omega]
    exact h9
  · have h9 := h (by omega)
    rw [if_pos (by omega)] at h9
    exact h9
theorem c_hymnAt {s i : Int} (hW : WF j W) (hR : RepS G a W) (hs : 0 ≤ s ∧ s < W 5) (hi : inR i) (h : Q (if 0 ≤ i ∧ i < servW W s 0 then servW W s (1 + i) else -1)) : f_X6_hymnAt (a + 11) s i G Q := by
  have hse := hW.se
  have hsv := hW.sv s hs.1 hs.2
  have e := hR.sv s hs.1 hs.2
  unfold f_X6_hymnAt
  rw [show a + 11 + 1 = a + 12 by omega, show a + 11 + 2 = a + 13 by omega, e.1]
  refine ⟨⟨by omega, by omega⟩, ⟨by omega, by omega⟩, c_within ⟨fun c => ?_, fun c => ?_⟩⟩
  · have := b2_eq0 c
    rw [if_neg (by omega)] at h; exact h
  · have := b2_ne0 c
    rw [if_pos (by omega)] at h
    rw [e.2 i (by omega) (by omega)]
    exact ⟨⟨by omega, by omega⟩, h⟩
theorem c_rowsAhead {b : Int} (hW : WF j W) (hR : RepS G a W) (hb : 0 ≤ b ∧ b ≤ W 0) (h : Q (frstW W b)) : f_X7_rowsAhead a b G Q := by
  have hbo := hW.bo
  unfold f_X7_rowsAhead
  refine sum_loop (rowW W) b hb.1 (fun k acc x h0 h1 hacc kk => ⟨fun c => ?_, fun c => ?_⟩)
  · have e : x = b := by omega
    subst e
    rw [hacc, Int.zero_add]; exact h
  · have kk := kk c
    have hr := hW.row_sum h0 (by omega)
    rw [hR.ro x h0 (by omega)]
    refine ⟨⟨by omega, by omega⟩, ?_, kk⟩
    rw [hacc, Int.zero_add]; exact hr
theorem c_hymnFor {s b r : Int} (hW : WF j W) (hR : RepS G a W) (hs : 0 ≤ s ∧ s < W 5) (hb : 0 ≤ b ∧ b < W 0) (hr : 0 ≤ r ∧ r < rowW W b) (h : Q (dueW W s (frstW W b + r))) : f_X7_hymnFor a s b r G Q := by
  have hbo := hW.bo
  have hro := hW.ro b hb.1 hb.2
  have hf := hW.frst hb.1 (by omega)
  have hsv := hW.sv s hs.1 hs.2
  have hbd := hW.bd_eq hb.1 hb.2 hr.1 hr.2
  unfold f_X7_hymnFor
  refine joinI1 (P := fun v => v = dueIx W (frstW W b + r) ∧ 0 ≤ v ∧ v ≤ 100) (fun v hv => ?_) (fun k hk => ⟨fun c => ?_, fun c => ?_⟩)
  · obtain ⟨rfl, h0, h1⟩ := hv
    refine c_hymnAt hW hR hs ⟨by omega, by omega⟩ ?_
    unfold dueW at h
    by_cases c : dueIx W (frstW W b + r) < servW W s 0
    · rw [if_pos c] at h; rw [if_pos ⟨h0, c⟩]; exact h
    · rw [if_neg c] at h; rw [if_neg (by omega)]; exact h
  · rw [hR.sp] at c
    refine hk _ ⟨?_, hr.1, by omega⟩
    unfold dueIx
    rw [if_neg (by omega), hbd]; omega
  · rw [hR.sp] at c
    have := hW.sp
    refine c_rowsAhead hW hR ⟨hb.1, by omega⟩ ⟨⟨by omega, by omega⟩, hk _ ⟨?_, by omega, by omega⟩⟩
    unfold dueIx
    rw [if_pos (by omega)]
/-- a sort that there is: an own one of those that there are, or a borrowed one -/
def isSort (W : WT) (s : Int) : Prop := (0 ≤ s ∧ s < W 3) ∨ (12 ≤ s ∧ s < 42)
theorem c_frontOf {s : Int} (hW : WF j W) (hR : RepS G a W) (hs : isSort W s) (h : Q (frontW (-1) W s)) : f_X8_frontOf (a + 2) s G Q := by
  have ho := hW.ow
  unfold isSort at hs
  unfold f_X8_frontOf
  unfold frontW at h
  rw [if_neg (by omega)] at h
  refine ⟨fun c => ?_, fun c => ?_⟩
  · rw [if_neg (by omega)] at h; exact ⟨by omega, h⟩
  · rw [if_pos c] at h
    rw [show a + 2 + 1 = a + 3 by omega, (hR.ca s (by omega) (by omega)).1]
    exact ⟨⟨by omega, by omega⟩, h⟩
theorem c_backOf {s : Int} (hW : WF j W) (hR : RepS G a W) (hs : isSort W s) (h : Q (backW W s)) : f_X8_backOf (a + 2) s G Q := by
  have ho := hW.ow
  unfold isSort at hs
  unfold f_X8_backOf
  unfold backW at h
  rw [if_neg (by omega)] at h
  refine ⟨fun c => ?_, fun c => ?_⟩
  · rw [if_neg (by omega)] at h; exact h
  · rw [if_pos c] at h
    rw [show a + 2 + 2 = a + 4 by omega, (hR.ca s (by omega) (by omega)).2]
    exact ⟨⟨by omega, by omega⟩, h⟩
theorem c_isTurnable {d : Int} (h : Q (b2 (d = 6 ∨ d = 9))) : f_X8_isTurnable d Q := by
  unfold f_X8_isTurnable
  refine ⟨fun c => ?_, fun c => ⟨fun c1 => ?_, fun c1 => ?_⟩⟩
  · rw [b2_t (Or.inl c)] at h; exact h
  · rw [b2_f (fun q => q.elim c c1)] at h; exact h
  · rw [b2_t (Or.inr c1)] at h; exact h
theorem c_wayOf {s d : Int} (hW : WF j W) (hR : RepS G a W) (hs : isSort W s) (hd : 0 ≤ d ∧ d ≤ 9) (h : Q (wayW (-1) W s d)) : f_X8_wayOf (a + 2) s d G Q := by
  unfold f_X8_wayOf
  unfold wayW at h
  refine c_frontOf hW hR hs (c_backOf hW hR hs ⟨fun c => ⟨fun c1 => ?_, fun c1 => ?_⟩, fun c => ?_⟩)
  · rw [if_neg c, if_neg c1] at h
    rw [hR.tu]
    refine ⟨fun c2 => ?_, fun c2 => c_isTurnable ⟨fun c3 => ?_, fun c3 => ?_⟩⟩
    · rw [if_pos (Or.inl c2)] at h; exact h
    · have c3 := b2_ne0 c3
      have eo : othW d = 15 - d := by
        unfold othW
        rcases c3 with rfl | rfl
        · rfl
        · rfl
      rw [if_neg (by rw [eo]; omega), eo] at h
      refine ⟨⟨by omega, by omega⟩, fun c4 => ⟨⟨by omega, by omega⟩, fun c5 => ?_, fun c5 => ?_⟩, fun c4 => ?_⟩
      · rw [if_neg c4, if_neg c5] at h; exact h
      · rw [if_neg c4, if_pos c5] at h; exact h
      · rw [if_pos c4] at h; exact h
    · have c3 := b2_eq0 c3
      have eo : othW d = -1 := by
        unfold othW
        rw [if_neg (fun q => c3 (Or.inl q)), if_neg (fun q => c3 (Or.inr q))]
      rw [if_pos (Or.inr eo)] at h; exact h
  · rw [if_neg c, if_pos c1] at h; exact h
  · rw [if_pos c] at h; exact h
/-- no cards of a sort that there is not -/
theorem cnt_none {s : Int} (hs : 0 ≤ s ∧ s < 42) (h : ¬ isSort W s) : cntW (-1) W s = 0 := by
  unfold isSort at h
  unfold cntW
  rw [if_neg (by omega), if_pos (by omega), if_neg (by omega)]
theorem cnt_rng {s : Int} (hW : WF j W) (hs : 0 ≤ s ∧ s < 42) : 0 ≤ cntW (-1) W s ∧ cntW (-1) W s ≤ 720 := by
  have hl := hW.lo
  unfold cntW
  rw [if_neg (by omega)]
  split
  · split
    · have := hW.ca s hs.1 (by assumption); omega
    · omega
  · have := hW.loan_rng (f := (s - 12) / 10) (d := (s - 12) % 10) hl.1 (Int.le_refl _)
    unfold borW
    omega
/-- cards of a sort that shows a digit -/
def shwW (W : WT) (s d : Int) : Prop := wayW (-1) W s d ≠ -1
theorem c_showsDigit {s d : Int} (hW : WF j W) (hR : RepS G a W) (hs : 0 ≤ s ∧ s < 42) (hd : 0 ≤ d ∧ d ≤ 9) (h0 : cntW (-1) W s = 0 → Q 0) (h1 : cntW (-1) W s ≠ 0 → wayW (-1) W s d = -1 → Q 0) (h2 : cntW (-1) W s ≠ 0 → wayW (-1) W s d ≠ -1 → Q 1) : f_X8_showsDigit (a + 2) s d G Q := by
  have hr := cnt_rng hW hs
  unfold f_X8_showsDigit
  rw [show a + 2 + 3 = a + 5 by omega, hR.ct s hs.1 hs.2]
  refine ⟨hs, fun c => h0 (by omega), fun c => ?_⟩
  have hi : isSort W s := Classical.byContradiction fun q => by rw [cnt_none hs q] at c; omega
  exact c_wayOf hW hR hi hd ⟨fun c1 => h1 (by omega) c1, fun c1 => h2 (by omega) c1⟩
end CREAD
