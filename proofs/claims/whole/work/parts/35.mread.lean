-- ===== PURE LAYER: what the reference reads =====
theorem b2_eq0 {p : Prop} [Decidable p] (h : b2 p = 0) : ¬ p := fun q => by rw [b2_t q] at h; omega
theorem b2_ne0 {p : Prop} [Decidable p] (h : b2 p ≠ 0) : p := Decidable.byContradiction fun q => h (b2_f q)
theorem b2_eq1 {p : Prop} [Decidable p] (h : b2 p = 1) : p := b2_ne0 (by omega)
theorem cnt_loop {b : (Int → Int → Prop) → Int → Int → Prop} (p : Int → Prop) [DecidablePred p] (N : Int) (hN : 0 ≤ N ∧ N ≤ 1000)
    (hb : ∀ (k : Int → Int → Prop) (acc x : Int), 0 ≤ x → x ≤ N → (0 ≤ acc ∧ acc ≤ x) → (x = N → acc = sumZ (fun i => b2 (p i)) N) → (x < N → p x → k (acc + 1) (x + 1)) → (x < N → ¬ p x → k (acc + 0) (x + 1)) → b k acc x) : loop2 b 0 0 := by
  refine sum_loop (fun i => b2 (p i)) N hN.1 (fun k acc x h0 h1 hacc kk => ?_)
  have g1 : 0 ≤ sumZ (fun i => b2 (p i)) x := sumZ_ge (fun i _ _ => b2_ge)
  have g2 : sumZ (fun i => b2 (p i)) x ≤ 1 * x := sumZ_le h0 (fun i _ _ => b2_le)
  refine hb k acc x h0 h1 ⟨by omega, by omega⟩ (fun e => by subst e; omega) (fun hx hp => ?_) (fun hx hp => ?_)
  · have := kk hx
    rw [b2_t hp] at this
    exact this
  · have := kk hx
    rw [b2_f hp] at this
    exact this
section MREAD
variable {G : GH} {Q : Int → Prop} {Z : Int → GH → Prop} {j : Int}
theorem p10_in {x lo hi : Int} (h : Q (b2 (lo ≤ x ∧ x ≤ hi))) : f_X10_in x lo hi Q := by
  unfold f_X10_in
  refine ⟨fun c => ?_, fun c => ⟨fun c2 => ?_, fun c2 => ?_⟩⟩
  · rw [b2_f (by omega)] at h; exact h
  · rw [b2_f (by omega)] at h; exact h
  · rw [b2_t (by omega)] at h; exact h
theorem p10_wrong {i : Int} (h01 : i = 0 ∨ i = 1) (h : Z i (upG G 272 0 i)) : f_X10_wrong i G Z := by
  unfold f_X10_wrong
  rcases h01 with rfl | rfl
  · exact ⟨fun _ G1 e => ⟨Or.inl rfl, by rw [e]; exact h⟩, fun c => absurd rfl c⟩
  · exact ⟨fun c => by omega, fun _ G1 e => ⟨Or.inr rfl, by rw [e]; exact h⟩⟩
theorem p10_throwsIf {i v : Int} (h01 : i = 0 ∨ i = 1) (h0 : i = 0 → Z 0 G) (h1 : i = 1 → Z 1 (upG G 272 0 v)) : f_X10_throwsIf i v G Z := by
  unfold f_X10_throwsIf
  rcases h01 with rfl | rfl
  · exact ⟨fun _ => ⟨Or.inl rfl, h0 rfl⟩, fun c => absurd rfl c⟩
  · exact ⟨fun c => by omega, fun _ G1 e => ⟨Or.inr rfl, by rw [e]; exact h1 rfl⟩⟩
theorem p10_cardAt {k h9 : Int} (hk : 0 ≤ k ∧ k ≤ 1000) (hh : 0 ≤ h9 ∧ h9 ≤ 1000) (h : Q ((15 + (3 * k)) + h9)) : f_X10_cardAt k h9 Q := ⟨⟨by omega, by omega⟩, h⟩
theorem p10_loanAt {k h9 : Int} (hk : 0 ≤ k ∧ k ≤ 1000) (hh : 0 ≤ h9 ∧ h9 ≤ 1000) (h : Q ((84 + (4 * k)) + h9)) : f_X10_loanAt k h9 Q := ⟨⟨by omega, by omega⟩, h⟩
theorem p10_serviceAt {k h9 : Int} (hk : 0 ≤ k ∧ k ≤ 1000) (hh : 0 ≤ h9 ∧ h9 ≤ 1000) (h : Q ((132 + (9 * k)) + h9)) : f_X10_serviceAt k h9 Q := ⟨⟨by omega, by omega⟩, h⟩
theorem p10_placeAt {k h9 : Int} (hk : 0 ≤ k ∧ k ≤ 1000) (hh : 0 ≤ h9 ∧ h9 ≤ 1000) (h : Q ((276 + (3 * k)) + h9)) : f_X10_placeAt k h9 Q := ⟨⟨by omega, by omega⟩, h⟩
theorem p10_ofFriend {f h9 : Int} (hk : 0 ≤ f ∧ f ≤ 2) (hh : 0 ≤ h9 ∧ h9 ≤ 10) (h : Q (friW (G 273) f h9)) : f_X10_ofFriend f h9 G Q := ⟨⟨by omega, by omega⟩, h⟩
theorem p10_ofLoan {l h9 : Int} (hk : 0 ≤ l ∧ l < 12) (hh : 0 ≤ h9 ∧ h9 ≤ 3) (h : Q (loanW (G 273) l h9)) : f_X10_ofLoan l h9 G Q := p10_loanAt ⟨hk.1, by omega⟩ ⟨hh.1, by omega⟩ ⟨⟨by omega, by omega⟩, h⟩
theorem p10_hymnsOf {s : Int} (hk : 0 ≤ s ∧ s < 16) (h : Q (servW (G 273) s 0)) : f_X10_hymnsOf s G Q := p10_serviceAt ⟨hk.1, by omega⟩ ⟨by omega, by omega⟩ ⟨⟨by omega, by omega⟩, h⟩
theorem p10_hymnOf {s i : Int} (hk : 0 ≤ s ∧ s < 16) (hi : 0 ≤ i ∧ i < 8) (h : Q (servW (G 273) s (1 + i))) : f_X10_hymnOf s i G Q := ⟨⟨by omega, by omega⟩, p10_serviceAt ⟨hk.1, by omega⟩ ⟨by omega, by omega⟩ ⟨⟨by omega, by omega⟩, h⟩⟩
theorem p10_isOwn {s : Int} (h : Q (b2 (s < 12))) : f_X10_isOwn s Q := by
  unfold f_X10_isOwn
  refine ⟨fun c => ?_, fun c => ?_⟩
  · rw [b2_f (by omega)] at h; exact h
  · rw [b2_t c] at h; exact h
theorem p10_friendOf {s : Int} (hs : 12 ≤ s ∧ s ≤ 1000) (h : Q ((s - 12) / 10)) : f_X10_friendOf s Q := ⟨⟨by omega, by omega⟩, by omega, h⟩
theorem p10_digitOf {s : Int} (hs : 12 ≤ s ∧ s ≤ 1000) (h : Q ((s - 12) % 10)) : f_X10_digitOf s Q := ⟨⟨by omega, by omega⟩, by omega, h⟩
theorem p10_numberOf {s : Int} (hs : -1000 ≤ s ∧ s ≤ 1000) (h : Q (if s < 12 then s else (100 + s) - 12)) : f_X10_numberOf s Q := by
  unfold f_X10_numberOf
  refine p10_isOwn ⟨fun c => ⟨⟨by omega, by omega⟩, ?_⟩, fun c => ?_⟩
  · rw [if_neg (b2_eq0 c)] at h; exact h
  · rw [if_pos (b2_ne0 c)] at h; exact h
theorem p10_sortOf {c9 : Int} (hs : 0 ≤ c9 ∧ c9 ≤ 1000) (h : Q (if c9 < 100 then c9 else (12 + c9) - 100)) : f_X10_sortOf c9 Q := by
  unfold f_X10_sortOf
  refine ⟨fun c => ⟨⟨by omega, by omega⟩, ?_⟩, fun c => ?_⟩
  · rw [if_neg (by omega)] at h; exact h
  · rw [if_pos c] at h; exact h
theorem p10_front {s : Int} (hs : 0 ≤ s ∧ s ≤ 42) (h : Q (frontW (G 272 17) (G 273) s)) : f_X10_front s G Q := by
  unfold f_X10_front
  unfold frontW at h
  refine ⟨fun c => ?_, fun c => ?_⟩
  · rw [if_neg c] at h
    refine p10_isOwn ⟨fun c1 => ?_, fun c1 => ?_⟩
    · have := b2_eq0 c1
      rw [if_neg this] at h
      exact p10_digitOf ⟨by omega, by omega⟩ h
    · have := b2_ne0 c1
      rw [if_pos this] at h
      exact p10_cardAt ⟨by omega, by omega⟩ ⟨by omega, by omega⟩ ⟨⟨by omega, by omega⟩, h⟩
  · rw [if_pos c] at h; exact h
theorem p10_back {s : Int} (hs : 0 ≤ s ∧ s ≤ 42) (h : Q (backW (G 273) s)) : f_X10_back s G Q := by
  unfold f_X10_back
  unfold backW at h
  refine ⟨fun c => ?_, fun c => ?_⟩
  · rw [if_pos c] at h; exact h
  · rw [if_neg c] at h
    refine p10_isOwn ⟨fun c1 => ?_, fun c1 => ?_⟩
    · rw [if_neg (b2_eq0 c1)] at h; exact h
    · have := b2_ne0 c1
      rw [if_pos this] at h
      exact p10_cardAt ⟨by omega, by omega⟩ ⟨by omega, by omega⟩ ⟨⟨by omega, by omega⟩, h⟩
theorem WF.loan_rng {W : WT} (h : WF j W) {f d x : Int} (hx0 : 0 ≤ x) (hx : x ≤ W 6) : 0 ≤ sumZ (fun l => if loanW W l 0 = f ∧ loanW W l 1 = d then loanW W l 2 else 0) x ∧ sumZ (fun l => if loanW W l 0 = f ∧ loanW W l 1 = d then loanW W l 2 else 0) x ≤ 60 * x := by
  constructor
  · refine sumZ_ge (fun i h0 h1 => ?_)
    have := h.ln i h0 (by omega)
    split <;> omega
  · refine sumZ_le hx0 (fun i h0 h1 => ?_)
    have := h.ln i h0 (by omega)
    split <;> omega
theorem p10_borrowedOf {f d : Int} (h : WF j (G 273)) (hq : Q (borW (G 273) f d)) : f_X10_borrowedOf f d G Q := by
  unfold f_X10_borrowedOf
  have hl := h.lo
  refine sum_loop (fun l => if loanW (G 273) l 0 = f ∧ loanW (G 273) l 1 = d then loanW (G 273) l 2 else 0) (G 273 6) hl.1 (fun k acc x h0 h1 hacc kk => ?_)
  have hr := h.loan_rng (f := f) (d := d) h0 h1
  refine ⟨fun c => ?_, fun c => ?_⟩
  · have e : x = G 273 6 := by omega
    subst e
    rw [hacc, Int.zero_add]; exact hq
  · have kk := kk c
    have hln := h.ln x h0 c
    refine p10_ofLoan ⟨h0, by omega⟩ ⟨by omega, by omega⟩ ⟨fun c1 => ?_, fun c1 => ?_⟩
    · rw [if_neg (fun q => c1 q.1)] at kk
      exact ⟨⟨by omega, by omega⟩, kk⟩
    · refine p10_ofLoan ⟨h0, by omega⟩ ⟨by omega, by omega⟩ ⟨fun c2 => ?_, fun c2 => ?_⟩
      · rw [if_neg (fun q => c2 q.2)] at kk
        exact ⟨⟨by omega, by omega⟩, kk⟩
      · rw [if_pos ⟨c1, c2⟩] at kk
        exact p10_ofLoan ⟨h0, by omega⟩ ⟨by omega, by omega⟩ ⟨⟨by omega, by omega⟩, kk⟩
theorem p10_count {s : Int} (h : WF j (G 273)) (hs : 0 ≤ s ∧ s ≤ 42) (hq : Q (cntW (G 272 17) (G 273) s)) : f_X10_count s G Q := by
  unfold f_X10_count
  unfold cntW at hq
  refine ⟨fun c => ?_, fun c => ?_⟩
  · rw [if_neg c] at hq
    refine p10_isOwn ⟨fun c1 => ?_, fun c1 => ?_⟩
    · have := b2_eq0 c1
      rw [if_neg this] at hq
      exact p10_friendOf ⟨by omega, by omega⟩ (p10_digitOf ⟨by omega, by omega⟩ (p10_borrowedOf h hq))
    · have := b2_ne0 c1
      rw [if_pos this] at hq
      refine ⟨fun c2 => ?_, fun c2 => ?_⟩
      · rw [if_neg (by omega)] at hq; exact hq
      · rw [if_pos c2] at hq
        exact p10_cardAt ⟨by omega, by omega⟩ ⟨by omega, by omega⟩ ⟨⟨by omega, by omega⟩, hq⟩
  · rw [if_pos c] at hq
    refine ⟨fun c1 => ?_, fun c1 => ?_⟩
    · rw [if_neg c1] at hq; exact hq
    · rw [if_pos c1] at hq; exact hq
theorem p10_otherOne {d : Int} (h : Q (othW d)) : f_X10_otherOne d Q := by
  unfold f_X10_otherOne
  unfold othW at h
  refine ⟨fun c => ⟨fun c1 => ?_, fun c1 => ?_⟩, fun c => ?_⟩
  · rw [if_neg c, if_neg c1] at h; exact h
  · rw [if_neg c, if_pos c1] at h; exact h
  · rw [if_pos c] at h; exact h
theorem p10_wayOf {s d : Int} (hs : 0 ≤ s ∧ s ≤ 42) (h : Q (wayW (G 272 17) (G 273) s d)) : f_X10_wayOf s d G Q := by
  unfold f_X10_wayOf
  unfold wayW at h
  refine p10_front hs ⟨fun c => ?_, fun c => ?_⟩
  · rw [if_neg c] at h
    refine p10_back hs ⟨fun c1 => ?_, fun c1 => ?_⟩
    · rw [if_neg c1] at h
      refine p10_otherOne ⟨fun c2 => ?_, fun c2 => ⟨fun c3 => ?_, fun c3 => ?_⟩⟩
      · rw [if_pos (Or.inl c2)] at h; exact h
      · rw [if_neg (fun q => q.elim c2 c3)] at h
        refine p10_front hs ⟨fun c4 => ?_, fun c4 => ?_⟩
        · rw [if_neg c4] at h
          refine p10_back hs ⟨fun c5 => ?_, fun c5 => ?_⟩
          · rw [if_neg c5] at h; exact h
          · rw [if_pos c5] at h; exact h
        · rw [if_pos c4] at h; exact h
      · rw [if_pos (Or.inr c3)] at h; exact h
    · rw [if_pos c1] at h; exact h
  · rw [if_pos c] at h; exact h
theorem p10_hanging {s : Int} (hq : Q (hgW (G 273) s)) : f_X10_hanging s G Q := by
  unfold f_X10_hanging
  refine cnt_loop (fun p => plaW (G 273) p 1 = s) 54 ⟨by omega, by omega⟩ (fun k acc x h0 h1 ha he ht hf => ⟨fun c => ?_, fun c => ?_⟩)
  · rw [he (by omega)]; exact hq
  · refine p10_placeAt ⟨h0, by omega⟩ ⟨by omega, by omega⟩ ⟨⟨by omega, by omega⟩, fun c1 => ⟨⟨by omega, by omega⟩, hf c c1⟩, fun c1 => ⟨⟨by omega, by omega⟩, ht c c1⟩⟩
theorem p10_hangs {p : Int} (hp : 0 ≤ p ∧ p < 54) (h : Q (b2 (plaW (G 273) p 0 ≠ -1))) : f_X10_hangs p G Q := by
  unfold f_X10_hangs
  refine p10_placeAt ⟨hp.1, by omega⟩ ⟨by omega, by omega⟩ ⟨⟨by omega, by omega⟩, fun c => ?_, fun c => ?_⟩
  · rw [b2_f (fun q => q c)] at h; exact h
  · rw [b2_t c] at h; exact h
def ahW (W : WT) : Int := sumZ (fun p => b2 (plaW W p 0 ≠ -1)) 54
def tuW (W : WT) : Int := sumZ (fun p => b2 (2 ≤ plaW W p 2)) 54
def baW (W : WT) : Int := sumZ (fun p => b2 (plaW W p 2 = 1 ∨ plaW W p 2 = 3)) 54
def boW (W : WT) : Int := sumZ (fun p => b2 (plaW W p 0 ≠ -1 ∧ ¬ plaW W p 1 < 12)) 54
theorem p10_allHanging (hq : Q (ahW (G 273))) : f_X10_allHanging G Q := by
  unfold f_X10_allHanging
  refine cnt_loop (fun p => plaW (G 273) p 0 ≠ -1) 54 ⟨by omega, by omega⟩ (fun k acc x h0 h1 ha he ht hf => ⟨fun c => ?_, fun c => ?_⟩)
  · rw [he (by omega)]; exact hq
  · exact p10_hangs ⟨h0, c⟩ ⟨fun c1 => ⟨⟨by omega, by omega⟩, hf c (b2_eq0 c1)⟩, fun c1 => ⟨⟨by omega, by omega⟩, ht c (b2_ne0 c1)⟩⟩
theorem p10_turnedOnes (hq : Q (tuW (G 273))) : f_X10_turnedOnes G Q := by
  unfold f_X10_turnedOnes
  refine cnt_loop (fun p => 2 ≤ plaW (G 273) p 2) 54 ⟨by omega, by omega⟩ (fun k acc x h0 h1 ha he ht hf => ⟨fun c => ?_, fun c => ?_⟩)
  · rw [he (by omega)]; exact hq
  · exact p10_placeAt ⟨h0, by omega⟩ ⟨by omega, by omega⟩ ⟨⟨by omega, by omega⟩, fun c1 => ⟨⟨by omega, by omega⟩, hf c (Int.not_le.mpr c1)⟩, fun c1 => ⟨⟨by omega, by omega⟩, ht c c1⟩⟩
theorem p10_backs (hq : Q (baW (G 273))) : f_X10_backs G Q := by
  unfold f_X10_backs
  refine cnt_loop (fun p => plaW (G 273) p 2 = 1 ∨ plaW (G 273) p 2 = 3) 54 ⟨by omega, by omega⟩ (fun k acc x h0 h1 ha he ht hf => ⟨fun c => ?_, fun c => ?_⟩)
  · rw [he (by omega)]; exact hq
  · refine p10_placeAt ⟨h0, by omega⟩ ⟨by omega, by omega⟩ ⟨⟨by omega, by omega⟩, fun c1 => ⟨⟨by omega, by omega⟩, ht c (Or.inl c1)⟩, fun c1 => ?_⟩
    exact p10_placeAt ⟨h0, by omega⟩ ⟨by omega, by omega⟩ ⟨⟨by omega, by omega⟩, fun c2 => ⟨⟨by omega, by omega⟩, hf c (fun q => q.elim c1 c2)⟩, fun c2 => ⟨⟨by omega, by omega⟩, ht c (Or.inr c2)⟩⟩
theorem p10_borrowedOnes (hq : Q (boW (G 273))) : f_X10_borrowedOnes G Q := by
  unfold f_X10_borrowedOnes
  refine cnt_loop (fun p => plaW (G 273) p 0 ≠ -1 ∧ ¬ plaW (G 273) p 1 < 12) 54 ⟨by omega, by omega⟩ (fun k acc x h0 h1 ha he ht hf => ⟨fun c => ?_, fun c => ?_⟩)
  · rw [he (by omega)]; exact hq
  · refine p10_hangs ⟨h0, c⟩ ⟨fun c1 => ⟨⟨by omega, by omega⟩, hf c (fun q => b2_eq0 c1 q.1)⟩, fun c1 => ?_⟩
    refine p10_placeAt ⟨h0, by omega⟩ ⟨by omega, by omega⟩ ⟨⟨by omega, by omega⟩, p10_isOwn ⟨fun c2 => ⟨⟨by omega, by omega⟩, hf c (fun q => q.2 (b2_ne0 c2))⟩, fun c2 => ⟨⟨by omega, by omega⟩, ht c ⟨b2_ne0 c1, b2_eq0 c2⟩⟩⟩⟩
theorem WF.row_sum {W : WT} (h : WF j W) {x : Int} (h0 : 0 ≤ x) (h1 : x < W 0) : inR (frstW W x + rowW W x) := by
  have := h.frst h0 (by omega)
  have := h.ro x h0 h1
  have := h.bo
  exact ⟨by omega, by omega⟩
theorem p10_allRows (h : WF j (G 273)) (hq : Q (allRW (G 273))) : f_X10_allRows G Q := by
  unfold f_X10_allRows
  have hb := h.bo
  refine sum_loop (rowW (G 273)) (G 273 0) (by omega) (fun k acc x h0 h1 hacc kk => ⟨fun c => ?_, fun c => ?_⟩)
  · have e : x = G 273 0 := by omega
    subst e
    rw [hacc, Int.zero_add]; exact hq
  · have kk := kk c
    have hr := h.row_sum h0 c
    refine ⟨⟨by omega, by omega⟩, ?_, kk⟩
    rw [hacc, Int.zero_add]; exact hr
theorem p10_firstRow {b : Int} (h : WF j (G 273)) (hb : 0 ≤ b ∧ b ≤ G 273 0) (hq : Q (frstW (G 273) b)) : f_X10_firstRow b G Q := by
  unfold f_X10_firstRow
  have hbo := h.bo
  refine sum_loop (rowW (G 273)) b hb.1 (fun k acc x h0 h1 hacc kk => ⟨fun c => ?_, fun c => ?_⟩)
  · have e : x = b := by omega
    subst e
    rw [hacc, Int.zero_add]; exact hq
  · have kk := kk c
    have hr := h.row_sum h0 (by omega)
    refine ⟨⟨by omega, by omega⟩, ?_, kk⟩
    rw [hacc, Int.zero_add]; exact hr
theorem p10_boardOf {r : Int} (h : WF j (G 273)) (hr : 0 ≤ r ∧ r < allRW (G 273)) (hq : Q (bdW (G 273) r)) : f_X10_boardOf r G Q := by
  unfold f_X10_boardOf
  have hd := h.bd hr.1 hr.2
  have hbo := h.bo
  refine ix_loop (I := fun x => frstW (G 273) x ≤ r) 0 (bdW (G 273) r) hd.1 (by rw [frst_0]; exact hr.1) (fun k x h0 h1 hI kk => ?_)
  refine ⟨⟨by omega, by omega⟩, p10_firstRow h ⟨by omega, by omega⟩ ⟨fun c => ?_, fun c => ?_⟩⟩
  · have e : x = bdW (G 273) r := by
      by_cases e : x = bdW (G 273) r
      · exact e
      · have hx : x < bdW (G 273) r := by omega
        exfalso
        have m : frstW (G 273) (x + 1) ≤ frstW (G 273) (bdW (G 273) r) := by
          have e3 : x = 0 ∨ x = 1 := by omega
          have e4 : bdW (G 273) r = 1 ∨ bdW (G 273) r = 2 := by omega
          have q1 := h.ro 1
          have f1 := frst_1 (W := G 273); have f2 := frst_2 (W := G 273)
          rcases e3 with rfl | rfl <;> rcases e4 with e4 | e4
          · rw [e4]; exact Int.le_refl _
          · rw [e4]; show frstW (G 273) 1 ≤ frstW (G 273) 2; have := q1 (by omega) (by omega); omega
          · omega
          · rw [e4]; exact Int.le_refl _
        omega
    rw [e]; exact hq
  · refine kk ?_ c
    by_cases e : x = bdW (G 273) r
    · subst e; omega
    · omega
theorem p10_dueOf {s r : Int} (h : WF j (G 273)) (hs : 0 ≤ s ∧ s < G 273 5) (hr : 0 ≤ r ∧ r < allRW (G 273)) (hq : Q (dueW (G 273) s r)) : f_X10_dueOf s r G Q := by
  unfold f_X10_dueOf
  have hd := h.bd hr.1 hr.2
  have hbo := h.bo
  have hse := h.se
  have hsv := h.sv s hs.1 hs.2
  have hf := h.frst hd.1 (by omega)
  have hal := h.allR
  refine joinI1 (P := fun v => v = dueIx (G 273) r ∧ 0 ≤ v) (fun v hv => ?_) (fun k hk => ⟨fun c => ?_, fun c => ?_⟩)
  · obtain ⟨rfl, hv⟩ := hv
    unfold dueW at hq
    refine p10_hymnsOf ⟨hs.1, by omega⟩ ⟨fun c => ?_, fun c => ?_⟩
    · rw [if_neg (by omega)] at hq; exact hq
    · rw [if_pos c] at hq
      exact p10_hymnOf ⟨hs.1, by omega⟩ ⟨hv, by omega⟩ hq
  · refine p10_boardOf h hr (p10_firstRow h ⟨hd.1, by omega⟩ ⟨⟨by omega, by omega⟩, hk _ ⟨?_, by omega⟩⟩)
    unfold dueIx
    rw [if_neg c]
  · refine hk _ ⟨?_, hr.1⟩
    unfold dueIx
    rw [if_pos c]
def unitW (c : Int) : Int := if c = 0 then 100 else if c = 1 then 10 else 1
def ddW (W : WT) (p : Int) : Int := if hunW W (p / 3) = -1 then -1 else if hunW W (p / 3) < unitW (p % 3) then -1 else hunW W (p / 3) / unitW (p % 3) % 10
theorem p10_dueDigit {p : Int} (h : WF j (G 273)) (hp : 0 ≤ p ∧ p < 54) (hq : Q (ddW (G 273) p)) : f_X10_dueDigit p G Q := by
  unfold f_X10_dueDigit
  have hr := h.hr (p / 3) (by omega) (by omega)
  unfold ddW at hq
  refine ⟨hp.1, ⟨by omega, by omega⟩, fun c => ?_, fun c => ?_⟩
  · rw [if_neg c] at hq
    have hr2 : 1 ≤ hunW (G 273) (p / 3) ∧ hunW (G 273) (p / 3) ≤ 999 := hr.resolve_left c
    refine joinI1 (P := fun v => v = unitW (p % 3) ∧ 0 < v) (fun v hv => ?_) (fun k hk => ⟨fun c1 => ⟨fun c2 => ?_, fun c2 => ?_⟩, fun c1 => ?_⟩)
    · obtain ⟨rfl, hv⟩ := hv
      refine ⟨fun c1 => ⟨?_, hv, ?_, ?_⟩, fun c1 => ?_⟩
      · show 0 ≤ hunW (G 273) (p / 3); omega
      · exact Int.ediv_nonneg (show 0 ≤ hunW (G 273) (p / 3) by omega) (by omega)
      · rw [if_neg (Int.not_lt.mpr c1)] at hq; exact hq
      · rw [if_pos c1] at hq; exact hq
    · exact hk _ ⟨by unfold unitW; rw [if_neg c1, if_neg c2], by omega⟩
    · exact hk _ ⟨by unfold unitW; rw [if_neg c1, if_pos c2], by omega⟩
    · exact hk _ ⟨by unfold unitW; rw [if_pos c1], by omega⟩
  · rw [if_pos c] at hq; exact hq
end MREAD
