-- ===== p51, PURE LAYER: the class reads the law's text =====
def Stop (u : List Int) : Prop := u = [] ∨ ∃ v, u = 59 :: v
theorem Stop.sep {u : List Int} (h : Stop u) : Sep u := by
  rcases h with rfl | ⟨v, rfl⟩
  · exact Or.inl rfl
  · exact Or.inr (Or.inr rfl)
theorem Stop.skl {u : List Int} (h : Stop u) : skl u = u := by
  rcases h with rfl | ⟨v, rfl⟩
  · rfl
  · exact semi_skl
section QC
variable {T : BT} {n p : Int} {u v : List Int} {c : Nat → Nat} {W : WT}
theorem Stop.kd (h : Stop u) (s : Sf T n p u) : (kdT T n p = 0 ∨ kdT T n p = 3) ∧ ¬ (p < n ∧ T p.toNat = 40) := by
  rcases h with rfl | ⟨v, rfl⟩
  · exact ⟨Or.inl s.kd0, fun q => by have := s.nil; omega⟩
  · exact ⟨Or.inr s.kd3, fun q => by have := s.hd; omega⟩
theorem sts_step {F : Nat} {st q : Int} {W2 : WT} (h : Sf T n p (59 :: v)) (e : pStmt T n (nxT T n p) W = .inr (q, W2)) : pSts T n (F + 1) st p W = pSts T n F (st + 1) q W2 := by
  have e1 : pSts T n (F + 1) st p W = if n ≤ p then .inr W else if T p.toNat = 59 then pThen (pStmt T n (nxT T n p) W) (st + 1) (pSts T n F (st + 1)) else .inl (1, p, st) := rfl
  rw [e1, if_neg (by have := h.lt; omega), if_pos h.hd, e]
  rfl
theorem p_card {x : Nat} (h : Sf T n p (txCard x ++ u)) (hu : Stop u) (w3 : W 3 ≠ 12) : ∃ w, Sf T n p (59 :: w) ∧ ∃ q d e m, pStmt T n (nxT T n p) W = .inr (q, crdU W d e m) ∧ Sf T n q u := by
  unfold txCard at h
  generalize ha : (if x % 4 = 0 then 6 else x / 4 % 10) = a at h
  have ha : a ≤ 9 := by rw [← ha]; split <;> omega
  generalize hb : (if x % 5 = 0 then 9 else x / 7 % 10) = b at h
  have hb : b ≤ 9 := by rw [← hb]; split <;> omega
  have hm : x / 11 % 6 ≤ 5 := by omega
  generalize x / 11 % 6 = m at h hm
  simp only [cT_11, List.cons_append, List.append_assoc, List.nil_append] at h
  refine ⟨_, h, ?_⟩
  have h3 := h.nx3
  rw [cT_skl 3 (by decide)] at h3
  obtain ⟨w1, _, h4⟩ := wd_at (by decide) h3 (Or.inr (Or.inl rfl))
  rw [sp_skl, dgs_skl] at h4
  unfold pStmt pCard pCard0
  rw [if_pos w1, if_neg w3]
  have e9 : pCardA T n (nxT T n (nxT T n (nxT T n p))) W (a : Int) = pCardA T n (nxT T n (nxT T n (nxT T n p))) W (a : Int) := rfl
  by_cases c3 : x % 3 = 0
  · rw [if_pos c3] at h4
    simp only [cT_12, List.cons_append, List.append_assoc, List.nil_append] at h4
    obtain ⟨z1, v1, h5⟩ := nm_at (lo := 0) (hi := 9) (by omega) h4 (Or.inr (Or.inl rfl)) ⟨by omega, by omega⟩
    rw [sp_skl, cT_skl 4 (by decide)] at h5
    obtain ⟨w2, _, h6⟩ := wd_at (by decide) h5 (Or.inr (Or.inl rfl))
    rw [sp_skl, dgs_skl] at h6
    obtain ⟨z2, v2, h7⟩ := nm_at (lo := 0) (hi := 9) (by omega) h6 (Or.inr (Or.inl rfl)) ⟨by omega, by omega⟩
    rw [sp_skl, dgs_skl] at h7
    obtain ⟨z3, v3, h8⟩ := nm_at (lo := 0) (hi := 60) (by omega) h7 hu.sep ⟨by omega, by omega⟩
    rw [if_neg (fun q => q z1)]
    unfold pCardA
    rw [if_pos w2]
    unfold pCardB
    rw [if_neg (fun q => q z2)]
    unfold pCardC
    rw [if_neg (fun q => q z3)]
    rw [hu.skl] at h8
    exact ⟨_, _, _, _, rfl, h8⟩
  · rw [if_neg c3] at h4
    simp only [List.nil_append] at h4
    obtain ⟨z1, v1, h5⟩ := nm_at (lo := 0) (hi := 9) (by omega) h4 (Or.inr (Or.inl rfl)) ⟨by omega, by omega⟩
    rw [sp_skl, dgs_skl] at h5
    have k2 := (dg_at (by omega) h5 hu.sep).1
    obtain ⟨z3, v3, h8⟩ := nm_at (lo := 0) (hi := 60) (by omega) h5 hu.sep ⟨by omega, by omega⟩
    rw [if_neg (fun q => q z1)]
    unfold pCardA
    rw [if_neg (fun q => by have := q.1; omega)]
    unfold pCardC
    rw [if_neg (fun q => q z3)]
    rw [hu.skl] at h8
    exact ⟨_, _, _, _, rfl, h8⟩
theorem crd_lo {d e m : Int} (h : 0 ≤ W 3) : crdU W d e m 3 = W 3 + 1 ∧ ∀ x, 4 ≤ x → x ≤ 7 → crdU W d e m x = W x := by
  refine ⟨pu_at, fun x x1 x2 => ?_⟩
  unfold crdU
  rw [pu_ne (by omega), pu_ne (by omega), pu_ne (by omega), pu_ne (by omega)]
theorem txCard_stop {x : Nat} : Stop (txCard x ++ u) := Or.inr (by
  unfold txCard
  rw [cT_11]
  exact ⟨_, rfl⟩)
theorem p_cards : ∀ (k : Nat) {u : List Int} {p : Int} {W : WT} (F : Nat) (st : Int), 0 ≤ W 3 → W 3 + k ≤ 12 → Sf T n p (txCards c k ++ u) → Stop u → ∃ q W2 st2, Sf T n q u ∧ W2 3 = W 3 + k ∧ (∀ x, 4 ≤ x → x ≤ 7 → W2 x = W x) ∧ pSts T n (F + k) st p W = pSts T n F st2 q W2
  | 0, u, p, W, F, st, h0, h1, h, hu => ⟨p, W, st, h, by omega, fun _ _ _ => rfl, rfl⟩
  | k + 1, u, p, W, F, st, h0, h1, h, hu => by
    have e : txCards c (k + 1) = txCards c k ++ txCard (c (6 + k)) := rfl
    rw [e, List.append_assoc] at h
    obtain ⟨q, W1, st1, s1, w1, o1, r1⟩ := p_cards k (F + 1) st h0 (by omega) h txCard_stop
    obtain ⟨w, sw, q2, d, e2, m, r2, s2⟩ := p_card (W := W1) s1 hu (by omega)
    have lo := crd_lo (W := W1) (d := d) (e := e2) (m := m) (by omega)
    refine ⟨q2, crdU W1 d e2 m, st1 + 1, s2, by rw [lo.1, w1]; omega, fun x x1 x2 => by rw [lo.2 x x1 x2]; exact o1 x x1 x2, ?_⟩
    rw [show F + (k + 1) = F + 1 + k by omega, r1]
    exact sts_step sw r2
theorem txFr_sep : ∀ (k : Nat) {u : List Int}, Sep u → Sep (txFr c k ++ u)
  | 0, _, h => h
  | k + 1, u, h => by
    have e : txFr c (k + 1) = txFr c k ++ ([32] ++ dgs (c (13 + k) % 4)) := rfl
    rw [e, List.append_assoc]
    exact txFr_sep k (Or.inr (Or.inl rfl))
theorem txHy_sep {j : Nat} : ∀ (k : Nat) {u : List Int}, Sep u → Sep (txHy c j k ++ u)
  | 0, _, h => h
  | k + 1, u, h => by
    have e : txHy c j (k + 1) = txHy c j k ++ ([32] ++ dgs (hyN (c (27 + 4 * j + k)))) := rfl
    rw [e, List.append_assoc]
    exact txHy_sep k (Or.inr (Or.inl rfl))
def frU (c : Nat → Nat) : Nat → WT → WT
  | 0, W => W
  | k + 1, W => pu (frU c k W) ((51 + (11 * (0 : Int))) + (1 + (k : Int))).toNat ((c (13 + k) % 4 : Nat) : Int)
theorem frU_at : ∀ k x, frU c k W x = if 52 ≤ x ∧ x < 52 + k then ((c (13 + (x - 52)) % 4 : Nat) : Int) else W x
  | 0, x => by rw [if_neg (by omega)]; rfl
  | k + 1, x => by
    show pu (frU c k W) ((51 + (11 * (0 : Int))) + (1 + (k : Int))).toNat ((c (13 + k) % 4 : Nat) : Int) x = _
    by_cases e : x = 52 + k
    · rw [if_pos (by omega), show ((51 + (11 * (0 : Int))) + (1 + (k : Int))).toNat = x by omega, pu_at, show x - 52 = k by omega]
    · rw [pu_ne (by omega), frU_at k x]
      by_cases e2 : 52 ≤ x ∧ x < 52 + k
      · rw [if_pos e2, if_pos (by omega)]
      · rw [if_neg e2, if_neg (by omega)]
theorem p_dig : ∀ (k : Nat) {u : List Int} {p : Int} (F : Nat), Sf T n p (skl (txFr c k ++ u)) → Sep u → ∃ q, Sf T n q (skl u) ∧ pDig T n 0 (F + k) 0 p W = pDig T n 0 F (k : Int) q (frU c k W)
  | 0, u, p, F, h, hu => ⟨p, h, rfl⟩
  | k + 1, u, p, F, h, hu => by
    have e : txFr c (k + 1) = txFr c k ++ ([32] ++ dgs (c (13 + k) % 4)) := rfl
    rw [e, List.append_assoc, List.append_assoc] at h
    obtain ⟨q, s1, r1⟩ := p_dig k (F + 1) h (Or.inr (Or.inl rfl))
    rw [List.cons_append, List.nil_append, sp_skl, dgs_skl] at s1
    obtain ⟨z, v1, s2⟩ := nm_at (lo := 0) (hi := 20) (by omega) s1 hu ⟨by omega, by omega⟩
    refine ⟨_, s2, ?_⟩
    rw [show F + (k + 1) = F + 1 + k by omega, r1]
    have e2 : pDig T n 0 (F + 1) (k : Int) q (frU c k W) = if nmT T n 0 20 q ≠ 0 then .inl (nmT T n 0 20 q, q) else pDig T n 0 F ((k : Int) + 1) (nxT T n q) (pu (frU c k W) ((51 + (11 * (0 : Int))) + (1 + (k : Int))).toNat (vlT T n q)) := rfl
    rw [e2, if_neg (fun w => w z), v1]
    rfl
theorem p_fri (h : Sf T n p (cT 13 ++ (dgs (1 + c 12 % 3) ++ (txFr c 10 ++ u)))) (hu : Stop u) (w4 : W 4 = 0) : ∃ w, Sf T n p (59 :: w) ∧ ∃ q W2, pStmt T n (nxT T n p) W = .inr (q, W2) ∧ Sf T n q u ∧ W2 4 = 1 ∧ (∀ x, x < 51 → x ≠ 4 → W2 x = W x) ∧ ∀ d : Nat, d < 10 → W2 (52 + d) = ((c (13 + d) % 4 : Nat) : Int) := by
  rw [cT_13] at h
  simp only [List.cons_append, List.append_assoc, List.nil_append] at h
  refine ⟨_, h, ?_⟩
  have h3 := h.nx3
  rw [cT_skl 5 (by decide)] at h3
  obtain ⟨w1, l1, h4⟩ := wd_at (by decide) h3 (Or.inr (Or.inl rfl))
  rw [sp_skl, dgs_skl] at h4
  obtain ⟨z, v1, h5⟩ := nm_at (lo := 1) (hi := 9) (by omega) h4 (txFr_sep 10 hu.sep) ⟨by omega, by omega⟩
  obtain ⟨q, s1, r1⟩ := p_dig (W := pu W ((51 + (11 * (0 : Int))) + 0).toNat ((1 + c 12 % 3 : Nat) : Int)) 10 0 h5 hu.sep
  rw [hu.skl] at s1
  unfold pStmt pFri pFri0
  rw [if_neg (fun x => by have e := x.2.1; rw [l1] at e; exact absurd e (by decide)), if_pos w1, w4, if_neg (by decide), if_neg (fun x => x z), v1]
  rw [show (0 + 10 : Nat) = 10 from rfl] at r1
  rw [r1]
  refine ⟨q, _, rfl, s1, pu_at, fun x x1 x2 => ?_, fun d hd => ?_⟩
  · rw [pu_ne x2, frU_at, if_neg (by omega), pu_ne (by omega)]
  · rw [pu_ne (by omega), frU_at, if_pos (by omega), show 52 + d - 52 = d by omega]
theorem hyU_at {s v : Int} (hs : 0 ≤ s) (h0 : 0 ≤ servW W s 0) : servW (hyU W s v) s 0 = servW W s 0 + 1 ∧ ∀ x, x < 132 → hyU W s v x = W x := by
  refine ⟨pu_at, fun x hx => ?_⟩
  unfold hyU
  rw [pu_ne (by omega), pu_ne (by omega)]
theorem p_hy {s due : Int} {B : WT} {F m : Nat} (hm : 1 ≤ m ∧ m < 1000) (h : Sf T n p (dgs m ++ u)) (hs : Sep u) (h8 : servW W s 0 ≠ 8) : pSvc T n s (F + 1) p 0 due B W = pSvc T n s F (nxT T n p) 0 0 B (hyU W s (m : Int)) ∧ Sf T n (nxT T n p) (skl u) := by
  obtain ⟨k2, _, _⟩ := dg_at hm.2 h hs
  obtain ⟨z, v1, s2⟩ := nm_at (lo := 1) (hi := 999) hm.2 h hs ⟨by omega, by omega⟩
  refine ⟨?_, s2⟩
  have l := kd_of2 k2
  rw [pSvc, if_neg (by omega), if_neg (by omega), if_pos (Or.inl k2), if_neg (fun x => x z), if_neg h8, v1]
theorem p_hys {s : Int} {B : WT} {j : Nat} (hs0 : 0 ≤ s) : ∀ (i : Nat) {u : List Int} {p : Int} {W : WT} (F m : Nat), i ≤ 6 → 1 ≤ m ∧ m < 1000 → Sf T n p (dgs m ++ (txHy c j i ++ u)) → Sep u → servW W s 0 = 0 → ∃ q W2, Sf T n q (skl u) ∧ servW W2 s 0 = i + 1 ∧ (∀ x, x < 132 → W2 x = W x) ∧ pSvc T n s (F + (i + 1)) p 0 1 B W = pSvc T n s F q 0 0 B W2
  | 0, u, p, W, F, m, _, hm, h, hu, h0 => by
    obtain ⟨r, s2⟩ := p_hy (s := s) (due := 1) (B := B) (W := W) (F := F) hm h hu (by omega)
    have a := hyU_at (W := W) (v := (m : Int)) hs0 (by omega)
    exact ⟨_, _, s2, by rw [a.1, h0]; rfl, a.2, r⟩
  | i + 1, u, p, W, F, m, hi, hm, h, hu, h0 => by
    have e : txHy c j (i + 1) = txHy c j i ++ ([32] ++ dgs (hyN (c (27 + 4 * j + i)))) := rfl
    rw [e, List.append_assoc, List.append_assoc] at h
    obtain ⟨q, W1, s1, a1, o1, r1⟩ := p_hys hs0 i (F + 1) m (by omega) hm h (Or.inr (Or.inl rfl)) h0
    rw [List.cons_append, List.nil_append, sp_skl, dgs_skl] at s1
    have hh := hyN_rng (c (27 + 4 * j + i))
    obtain ⟨r, s2⟩ := p_hy (s := s) (due := 0) (B := B) (W := W1) (F := F) hh s1 hu (by omega)
    have a := hyU_at (W := W1) (v := ((hyN (c (27 + 4 * j + i)) : Nat) : Int)) hs0 (by omega)
    refine ⟨_, _, s2, by rw [a.1, a1]; omega, fun x hx => by rw [a.2 x hx]; exact o1 x hx, ?_⟩
    rw [show F + (i + 1 + 1) = F + 1 + (i + 1) by omega, r1]
    exact r
theorem p_sv {k : Nat} (h : Sf T n p (txSv c k ++ u)) (hn : 10 ≤ n) (hu : Stop u) (w5 : 0 ≤ W 5 ∧ W 5 < 16) : ∃ w, Sf T n p (59 :: w) ∧ ∃ q W2, pStmt T n (nxT T n p) W = .inr (q, W2) ∧ Sf T n q u ∧ W2 5 = W 5 + 1 ∧ ∀ x, x < 132 → x ≠ 5 → W2 x = W x := by
  unfold txSv at h
  have hh := hyN_rng (c (23 + k))
  have hi : c (25 + k) % 5 ≤ 4 := by omega
  generalize c (25 + k) % 5 = i at h hi
  generalize hyN (c (23 + k)) = m at h hh
  rw [cT_14] at h
  simp only [List.cons_append, List.append_assoc, List.nil_append] at h
  refine ⟨_, h, ?_⟩
  have h3 := h.nx3
  rw [cT_skl 6 (by decide)] at h3
  obtain ⟨w1, l1, h4⟩ := wd_at (by decide) h3 (Or.inr (Or.inl rfl))
  rw [sp_skl, dgs_skl] at h4
  unfold pStmt pServ
  rw [if_neg (fun x => by have e := x.2.1; rw [l1] at e; exact absurd e (by decide)), if_neg (fun x => by have e := x.2.1; rw [l1] at e; exact absurd e (by decide)), if_pos w1, if_neg (by omega)]
  obtain ⟨F, hF⟩ : ∃ F, (n + 1).toNat = F + 1 + (i + 1) := ⟨(n + 1).toNat - i - 2, by omega⟩
  rw [hF]
  obtain ⟨q, W1, s1, a1, o1, r1⟩ := p_hys (s := W 5) (B := fun _ => 0) (W := pu W ((132 + (9 * W 5)) + 0).toNat 0) w5.1 i (F + 1) m (by omega) hh h4 hu.sep pu_at
  rw [hu.skl] at s1
  rw [r1]
  have kk := hu.kd s1
  rw [pSvc, if_neg kk.2, if_neg (by omega), if_neg (by omega)]
  refine ⟨q, _, rfl, s1, pu_at, fun x x1 x2 => ?_⟩
  rw [pu_ne x2, o1 x x1, pu_ne (by omega)]
theorem p_spl {Y : List Int} (hY : Y = [] ∨ Y = cT 10) (h : Sf T n p (skl (Y ++ u))) (hu : Stop u) : (¬ isWd T n 1 p ∧ kdT T n p ≠ 2) ∧ ∃ q W2, pSpl T n p W = .inr (q, W2) ∧ Sf T n q u ∧ ∀ x, 3 ≤ x → W2 x = W x := by
  rcases hY with rfl | rfl
  · rw [List.nil_append, hu.skl] at h
    have kk := (hu.kd h).1
    refine ⟨⟨fun x => by have := x.1; omega, by omega⟩, ?_⟩
    unfold pSpl
    rw [if_neg (fun x => by have := x.1; omega)]
    exact ⟨_, _, rfl, h, fun x hx => pu_ne (by omega)⟩
  · rw [cT_10, List.cons_append, sp_skl, cT_skl 2 (by decide)] at h
    obtain ⟨w1, l1, h4⟩ := wd_at (by decide) h hu.sep
    refine ⟨⟨fun x => by have e := x.2.1; rw [l1] at e; exact absurd e (by decide), by have := w1.1; omega⟩, ?_⟩
    unfold pSpl
    rw [if_pos w1]
    rw [hu.skl] at h4
    exact ⟨_, _, rfl, h4, fun x hx => pu_ne (by omega)⟩
theorem p_trn {X Y : List Int} (hX : X = [] ∨ X = cT 8) (hY : Y = [] ∨ Y = cT 10) (h : Sf T n p (skl (X ++ (Y ++ u)))) (hu : Stop u) : kdT T n p ≠ 2 ∧ ∃ q W2, pTrn T n p W = .inr (q, W2) ∧ Sf T n q u ∧ ∀ x, 3 ≤ x → W2 x = W x := by
  unfold pTrn
  rcases hX with rfl | rfl
  · rw [List.nil_append] at h
    obtain ⟨⟨n1, k2⟩, q, W2, r, s, o⟩ := p_spl (W := pu W 1 0) hY h hu
    rw [if_neg n1]
    exact ⟨k2, q, W2, r, s, fun x hx => by rw [o x hx]; exact pu_ne (by omega)⟩
  · rw [cT_8, List.cons_append, sp_skl, cT_skl 1 (by decide)] at h
    have hs : Sep (Y ++ u) := by
      rcases hY with rfl | rfl
      · exact hu.sep
      · rw [cT_10]; exact Or.inr (Or.inl rfl)
    obtain ⟨w1, l1, h4⟩ := wd_at (by decide) h hs
    obtain ⟨⟨n1, k2⟩, q, W2, r, s, o⟩ := p_spl (W := pu W 1 1) hY h4 hu
    rw [if_pos w1]
    exact ⟨by have := w1.1; omega, q, W2, r, s, fun x hx => by rw [o x hx]; exact pu_ne (by omega)⟩
theorem brd_at {v : Int} (h0 : 0 ≤ W 0) : brdU W v 0 = W 0 + 1 ∧ ∀ x, 3 ≤ x → x < 12 → brdU W v x = W x := by
  refine ⟨pu_at, fun x x1 x2 => ?_⟩
  unfold brdU
  rw [pu_ne (by omega), pu_ne (by omega)]
theorem p_head (h : Sf T n 0 (txHead c ++ u)) (hu : Stop u) (w0 : W 0 = 0) : ∃ q W2, pBoard T n (skT T n 0) W = .inr (q, W2) ∧ Sf T n q u ∧ ∀ x, 3 ≤ x → x < 12 → W2 x = W x := by
  unfold txHead at h
  generalize hX : (if c 3 % 2 = 0 then cT 8 else []) = X at h
  have hX : X = [] ∨ X = cT 8 := by rw [← hX]; split <;> simp
  generalize hY : (if c 4 % 2 = 0 then cT 10 else []) = Y at h
  have hY : Y = [] ∨ Y = cT 10 := by rw [← hY]; split <;> simp
  have sepXY : Sep (X ++ (Y ++ u)) := by
    rcases hX with rfl | rfl
    · rcases hY with rfl | rfl
      · exact hu.sep
      · rw [cT_10]; exact Or.inr (Or.inl rfl)
    · rw [cT_8]; exact Or.inr (Or.inl rfl)
  rw [cT_7] at h
  simp only [List.cons_append, List.append_assoc, List.nil_append] at h
  have h1 := sk_at h
  rw [cT_skl 0 (by decide)] at h1
  obtain ⟨w1, l1, h4⟩ := wd_at (by decide) h1 (Or.inr (Or.inl rfl))
  rw [sp_skl, dgs_skl] at h4
  unfold pBoard
  rw [if_pos w1]
  have b1 := brd_at (W := W) (v := ((1 + c 0 % 4 : Nat) : Int)) (by omega)
  by_cases c1 : c 1 % 3 = 0
  · rw [if_pos c1, List.nil_append] at h4
    obtain ⟨z, v1, h5⟩ := nm_at (lo := 1) (hi := 6) (by omega) h4 sepXY ⟨by omega, by omega⟩
    obtain ⟨k2, q, W2, r, s, o⟩ := p_trn (W := brdU W ((1 + c 0 % 4 : Nat) : Int)) hX hY h5 hu
    rw [pBrdL, if_neg (fun x => x z), if_neg (by omega), if_neg k2, v1]
    exact ⟨q, W2, r, s, fun x x1 x2 => by rw [o x x1]; exact b1.2 x x1 x2⟩
  · rw [if_neg c1] at h4
    simp only [List.cons_append, List.append_assoc, List.nil_append] at h4
    obtain ⟨z, v1, h5⟩ := nm_at (lo := 1) (hi := 6) (by omega) h4 (Or.inr (Or.inl rfl)) ⟨by omega, by omega⟩
    rw [sp_skl, dgs_skl] at h5
    have k2 := (dg_at (by omega) h5 sepXY).1
    obtain ⟨z2, v2, h6⟩ := nm_at (lo := 1) (hi := 6) (by omega) h5 sepXY ⟨by omega, by omega⟩
    have b2 := brd_at (W := brdU W ((1 + c 0 % 4 : Nat) : Int)) (v := ((1 + c 2 % 3 : Nat) : Int)) (by rw [b1.1]; omega)
    obtain ⟨k3, q, W2, r, s, o⟩ := p_trn (W := brdU (brdU W ((1 + c 0 % 4 : Nat) : Int)) ((1 + c 2 % 3 : Nat) : Int)) hX hY h6 hu
    rw [pBrdL, if_neg (fun x => x z), if_neg (by omega), if_pos k2, v1]
    rw [pBrdL, if_neg (fun x => x z2), if_neg (by rw [b1.1]; omega), if_neg k3, v2]
    exact ⟨q, W2, r, s, fun x x1 x2 => by rw [o x x1, b2.2 x x1 x2]; exact b1.2 x x1 x2⟩
theorem txCards_stop : ∀ (k : Nat) {u : List Int}, Stop u → Stop (txCards c k ++ u)
  | 0, _, hu => hu
  | k + 1, u, hu => by
    have e : txCards c (k + 1) = txCards c k ++ txCard (c (6 + k)) := rfl
    rw [e, List.append_assoc]
    exact txCards_stop k txCard_stop
theorem p_all {V : WT} (h : Sf T n 0 (txAll c)) : ∃ W', pLoad T n V = .inr W' ∧ W' 7 = -1 ∧ W' 6 = 0 ∧ W' 5 = 2 ∧ W' 4 = 1 ∧ W' 3 = 1 + ((c 5 % 6 : Nat) : Int) ∧ ∀ d : Nat, d < 10 → W' (52 + d) = ((c (13 + d) % 4 : Nat) : Int) := by
  have hn : 17 ≤ n := by
    have := h.2.1
    unfold txAll txSv at this
    simp only [List.length_append, cT_len 13 (by decide), cT_len 14 (by decide)] at this
    have l13 : strL.getD 13 0 = 8 := rfl
    have l14 : strL.getD 14 0 = 9 := rfl
    omega
  unfold txAll at h
  have s1 : Stop (txSv c 1 ++ []) := Or.inr (by unfold txSv; rw [cT_14]; exact ⟨_, rfl⟩)
  have s0 : Stop (txSv c 0 ++ (txSv c 1 ++ [])) := Or.inr (by unfold txSv; rw [cT_14]; exact ⟨_, rfl⟩)
  have sf : Stop (cT 13 ++ (dgs (1 + c 12 % 3) ++ (txFr c 10 ++ (txSv c 0 ++ (txSv c 1 ++ []))))) := Or.inr (by rw [cT_13]; exact ⟨_, rfl⟩)
  rw [show txSv c 1 = txSv c 1 ++ [] from (List.append_nil _).symm] at h
  obtain ⟨q1, W1, r1, h1, o1⟩ := p_head (W := beW V) h (txCards_stop _ sf) rfl
  have e3 : W1 3 = 0 := o1 3 (by omega) (by omega)
  obtain ⟨F, hF⟩ : ∃ F, (n + 1).toNat = F + 1 + 1 + 1 + 1 + (1 + c 5 % 6) := ⟨(n + 1).toNat - 4 - (1 + c 5 % 6), by omega⟩
  unfold pLoad
  rw [r1]
  show ∃ W', pSts T n (n + 1).toNat 0 q1 W1 = .inr W' ∧ _
  rw [hF]
  obtain ⟨q2, W2, st2, h2, a2, o2, r2⟩ := p_cards (W := W1) (1 + c 5 % 6) (F + 1 + 1 + 1 + 1) 0 (by omega) (by omega) h1 sf
  rw [r2]
  obtain ⟨w3, g3, q3, W3, r3, h3, a3, o3, d3⟩ := p_fri (W := W2) h2 s0 (by rw [o2 4 (by omega) (by omega)]; exact o1 4 (by omega) (by omega))
  rw [sts_step g3 r3]
  have e53 : W3 5 = 0 := by rw [o3 5 (by omega) (by omega), o2 5 (by omega) (by omega)]; exact o1 5 (by omega) (by omega)
  obtain ⟨w4, g4, q4, W4, r4, h4, a4, o4⟩ := p_sv (W := W3) h3 (by omega) s1 (by omega)
  rw [sts_step g4 r4]
  obtain ⟨w5, g5, q5, W5, r5, h5, a5, o5⟩ := p_sv (W := W4) h4 (by omega) (Or.inl rfl) (by omega)
  rw [sts_step g5 r5]
  have e9 : pSts T n (F + 1) (st2 + 1 + 1 + 1) q5 W5 = .inr W5 := if_pos (by have := h5.nil; omega)
  refine ⟨W5, e9, ?_, ?_, by rw [a5, a4, e53]; rfl, ?_, ?_, fun d hd => ?_⟩
  · rw [o5 7 (by omega) (by omega), o4 7 (by omega) (by omega), o3 7 (by omega) (by omega), o2 7 (by omega) (by omega)]; exact o1 7 (by omega) (by omega)
  · rw [o5 6 (by omega) (by omega), o4 6 (by omega) (by omega), o3 6 (by omega) (by omega), o2 6 (by omega) (by omega)]; exact o1 6 (by omega) (by omega)
  · rw [o5 4 (by omega) (by omega), o4 4 (by omega) (by omega)]; exact a3
  · rw [o5 3 (by omega) (by omega), o4 3 (by omega) (by omega), o3 3 (by omega) (by omega), a2, e3]; omega
  · rw [o5 (52 + d) (by omega) (by omega), o4 (52 + d) (by omega) (by omega)]; exact d3 d hd
end QC
