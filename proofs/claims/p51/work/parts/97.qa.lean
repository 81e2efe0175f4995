-- ===== p51, PURE LAYER: the law's load: the text in words of eight letters =====
theorem byB_bv {b : Int} : ∀ k : Nat, k < 8 → byB b (k : Int) = (((zL b).toBitVec >>> (8 * k)) &&& 255#64).toInt := by
  have h : ∀ y : Int, ∀ m : Nat, ((zI y).toInt64.toUInt64 &&& Int64.toUInt64 63).toBitVec % 64 = BitVec.ofNat 64 m → m < 64 → lAnd (lUshr b y) 255 = (((zL b).toBitVec >>> m) &&& 255#64).toInt := by
    intro y m e hm
    unfold lAnd lUshr
    rw [zL_of]
    show (((zL b).toBitVec >>> (((zI y).toInt64.toUInt64 &&& Int64.toUInt64 63).toBitVec % 64)) &&& (zL 255).toBitVec).toInt = _
    rw [e]
    have e2 : (BitVec.ofNat 64 m).toNat = m := by rw [BitVec.toNat_ofNat]; omega
    show (((zL b).toBitVec >>> (BitVec.ofNat 64 m).toNat) &&& 255#64).toInt = _
    rw [e2]
  intro k hk
  unfold byB
  have e : k = 0 ∨ k = 1 ∨ k = 2 ∨ k = 3 ∨ k = 4 ∨ k = 5 ∨ k = 6 ∨ k = 7 := by omega
  rcases e with rfl | rfl | rfl | rfl | rfl | rfl | rfl | rfl
  · exact h 0 0 (by decide) (by decide)
  · exact h 8 8 (by decide) (by decide)
  · exact h 16 16 (by decide) (by decide)
  · exact h 24 24 (by decide) (by decide)
  · exact h 32 32 (by decide) (by decide)
  · exact h 40 40 (by decide) (by decide)
  · exact h 48 48 (by decide) (by decide)
  · exact h 56 56 (by decide) (by decide)
theorem push_bv {x c : Int} : (zL (lOr (lShl x 8) c)).toBitVec = ((zL x).toBitVec <<< 8) ||| (zL c).toBitVec := by
  unfold lOr lShl
  rw [zL_of, zL_of]
  have e2 : ((zI 8).toInt64 &&& 63).toBitVec.smod 64 = 8#64 := by decide
  show ((zL x).toBitVec <<< (((zI 8).toInt64 &&& 63).toBitVec.smod 64)) ||| (zL c).toBitVec = _
  rw [e2]
  rfl
theorem bv_lo {X : BitVec 64} {c : Nat} (hc : c < 256) : (((X <<< 8) ||| BitVec.ofNat 64 c) >>> 0) &&& 255#64 = BitVec.ofNat 64 c := by
  refine BitVec.eq_of_getLsbD_eq (fun i hi => ?_)
  rw [BitVec.getLsbD_and, BitVec.getLsbD_ushiftRight, BitVec.getLsbD_or, BitVec.getLsbD_shiftLeft, BitVec.getLsbD_ofNat, BitVec.getLsbD_ofNat]
  by_cases h : i < 8
  · have e : Nat.testBit 255 i = true := by
      have q : i = 0 ∨ i = 1 ∨ i = 2 ∨ i = 3 ∨ i = 4 ∨ i = 5 ∨ i = 6 ∨ i = 7 := by omega
      rcases q with rfl | rfl | rfl | rfl | rfl | rfl | rfl | rfl <;> rfl
    rw [e, Nat.zero_add, BitVec.getLsbD_ofNat]
    simp [h, hi]
  · have z : Nat.testBit c i = false := Nat.testBit_lt_two_pow (Nat.lt_of_lt_of_le (show c < 2 ^ 8 by omega) (Nat.pow_le_pow_right (by omega) (by omega)))
    have z2 : Nat.testBit 255 i = false := Nat.testBit_lt_two_pow (Nat.lt_of_lt_of_le (show 255 < 2 ^ 8 by decide) (Nat.pow_le_pow_right (by omega) (by omega)))
    rw [z2, BitVec.getLsbD_ofNat, z]
    simp
theorem bv_hi {X : BitVec 64} {c k : Nat} (hc : c < 256) (hk : k < 7) : (((X <<< 8) ||| BitVec.ofNat 64 c) >>> (8 * (k + 1))) &&& 255#64 = (X >>> (8 * k)) &&& 255#64 := by
  refine BitVec.eq_of_getLsbD_eq (fun i hi => ?_)
  rw [BitVec.getLsbD_and, BitVec.getLsbD_and, BitVec.getLsbD_ushiftRight, BitVec.getLsbD_ushiftRight, BitVec.getLsbD_or, BitVec.getLsbD_shiftLeft, BitVec.getLsbD_ofNat, BitVec.getLsbD_ofNat]
  by_cases h : i < 8
  · have z : Nat.testBit c (8 * (k + 1) + i) = false := Nat.testBit_lt_two_pow (Nat.lt_of_lt_of_le (show c < 2 ^ 8 by omega) (Nat.pow_le_pow_right (by omega) (by omega)))
    have e1 : decide (8 * (k + 1) + i < 64) = true := decide_eq_true (by omega)
    have e2 : decide (8 * (k + 1) + i < 8) = false := decide_eq_false (by omega)
    rw [z, e1, e2, show 8 * (k + 1) + i - 8 = 8 * k + i by omega]
    simp
  · have z2 : Nat.testBit 255 i = false := Nat.testBit_lt_two_pow (Nat.lt_of_lt_of_le (show 255 < 2 ^ 8 by decide) (Nat.pow_le_pow_right (by omega) (by omega)))
    simp [z2]
/-- the word x holds the letters l -/
def Wd (x : Int) (l : List Int) : Prop := l.length ≤ 8 ∧ ∀ e : Nat, e < 8 → byB x (e : Int) = if e < l.length then l.getD (l.length - 1 - e) 0 else 0
theorem Wd_nil : Wd 0 [] := ⟨by decide, fun e he => by
  rw [byB_bv e he, if_neg (by show ¬ e < 0; omega)]
  have e0 : (zL 0).toBitVec = 0#64 := rfl
  rw [e0]
  simp⟩
theorem zL_nat {n : Nat} : (zL (n : Int)).toBitVec = BitVec.ofNat 64 n := by
  show BitVec.ofInt 64 (n : Int) = _
  exact BitVec.ofInt_natCast 64 n
theorem Wd_push {x c : Int} {l : List Int} (h : Wd x l) (hl : l.length ≤ 7) (hc : 0 ≤ c ∧ c < 128) : Wd (lOr (lShl x 8) c) (l ++ [c]) := by
  obtain ⟨n, rfl⟩ := Int.eq_ofNat_of_zero_le hc.1
  have hn : n < 128 := by have := hc.2; omega
  refine ⟨by rw [List.length_append]; show _ + 1 ≤ 8; omega, fun e he => ?_⟩
  rw [byB_bv e he, push_bv, zL_nat, List.length_append]
  show _ = if e < l.length + 1 then (l ++ [(n : Int)]).getD (l.length + 1 - 1 - e) 0 else 0
  match e, he with
  | 0, _ =>
    rw [Nat.mul_zero, bv_lo (by omega), if_pos (by omega), getD_app2 (by omega), show l.length + 1 - 1 - 0 - l.length = 0 by omega]
    show (BitVec.ofNat 64 n).toInt = (n : Int)
    rw [BitVec.toInt_eq_toNat_of_lt (by rw [BitVec.toNat_ofNat]; omega), BitVec.toNat_ofNat]
    omega
  | e + 1, he =>
    rw [bv_hi (by omega) (by omega), ← byB_bv e (by omega), h.2 e (by omega)]
    by_cases c : e < l.length
    · rw [if_pos c, if_pos (by omega), getD_app1 (by omega), show l.length + 1 - 1 - (e + 1) = l.length - 1 - e by omega]
    · rw [if_neg c, if_neg (by omega)]
/-- the text t holds the letters u -/
def TxH (t : OTx) (u : List Int) : Prop := t.1 = u.length ∧ ∀ i, i < u.length → t.2 i = u.getD i 0
theorem apT_is {b : Int} {t : OTx} {u l : List Int} (hb : Wd b l) (hz : ∀ x ∈ l, x ≠ 0) (ht : TxH t u) : ∀ j : Nat, j ≤ 8 → TxH (apT b t j) (u ++ l.take (j - (8 - l.length)))
  | 0, _ => by
    rw [show 0 - (8 - l.length) = 0 by omega, List.take_zero, List.append_nil]; exact ht
  | j + 1, hj => by
    have ih := apT_is hb hz ht j (by omega)
    have e := apT_s (b := b) (t := t) (j := (j : Int)) (by omega)
    rw [show ((j : Int) + 1).toNat = j + 1 by omega, Int.toNat_natCast] at e
    have hv := hb.2 (7 - j) (by omega)
    rw [show ((7 - j : Nat) : Int) = 7 - (j : Int) by omega] at hv
    have h8 := hb.1
    rw [e, hv]
    by_cases c : 7 - j < l.length
    · rw [if_pos c]
      have hlt : l.length - 1 - (7 - j) < l.length := by omega
      have hm : l.getD (l.length - 1 - (7 - j)) 0 ∈ l := by
        rw [List.getD_eq_getElem?_getD, List.getElem?_eq_getElem hlt]
        exact List.getElem_mem _
      rw [if_pos (hz _ hm)]
      have et : l.take (j + 1 - (8 - l.length)) = l.take (j - (8 - l.length)) ++ [l.getD (l.length - 1 - (7 - j)) 0] := by
        rw [show j + 1 - (8 - l.length) = (j - (8 - l.length)) + 1 by omega, List.take_add_one, show l.length - 1 - (7 - j) = j - (8 - l.length) by omega]
        rw [show l.length - 1 - (7 - j) = j - (8 - l.length) by omega] at hlt
        rw [List.getD_eq_getElem?_getD, List.getElem?_eq_getElem hlt]
        rfl
      rw [et, ← List.append_assoc]
      refine ⟨?_, fun i hi => ?_⟩
      · show (apT b t j).1 + 1 = _
        rw [ih.1, List.length_append (bs := [_])]
        rfl
      · rw [List.length_append (bs := [_])] at hi
        have hi : i < (u ++ l.take (j - (8 - l.length))).length + 1 := hi
        show (if i = (apT b t j).1 then _ else (apT b t j).2 i) = _
        rw [ih.1]
        by_cases c2 : i = (u ++ l.take (j - (8 - l.length))).length
        · rw [if_pos c2, getD_app2 (by omega), c2, Nat.sub_self]
          rfl
        · rw [if_neg c2, getD_app1 (by omega)]
          exact ih.2 i (by omega)
    · rw [if_neg c, if_neg (fun w => w rfl), show j + 1 - (8 - l.length) = j - (8 - l.length) by omega]; exact ih
theorem apT_8 {b : Int} {t : OTx} {u l : List Int} (hb : Wd b l) (hz : ∀ x ∈ l, x ≠ 0) (ht : TxH t u) : TxH (apT b t 8) (u ++ l) := by
  have := apT_is hb hz ht 8 (Nat.le_refl _)
  have h8 := hb.1
  rwa [show 8 - (8 - l.length) = l.length by omega, List.take_length] at this
section QA
variable {G : GH} {m : Nat} {tx : List Int}
/-- letters from a on, up to b -/
def sl (tx : List Int) (a b : Nat) : List Int := (tx.drop a).take (b - a)
theorem sl_len {a b : Nat} (h : a ≤ b) (hb : b ≤ tx.length) : (sl tx a b).length = b - a := by
  unfold sl
  rw [List.length_take, List.length_drop]; omega
theorem sl_s {a b : Nat} (h : a ≤ b) (hb : b < tx.length) : sl tx a (b + 1) = sl tx a b ++ [tx.getD b 0] := by
  unfold sl
  rw [show b + 1 - a = (b - a) + 1 by omega, List.take_add_one, List.getElem?_drop, show a + (b - a) = b by omega, List.getD_eq_getElem?_getD, List.getElem?_eq_getElem hb]
  rfl
theorem sl_self {a : Nat} : sl tx a a = [] := by unfold sl; rw [Nat.sub_self]; rfl
theorem take_sl {a b : Nat} (h : a ≤ b) : tx.take a ++ sl tx a b = tx.take b := by
  unfold sl
  have e : b = a + (b - a) := by omega
  rw [e, List.take_add, show a + (b - a) - a = b - a by omega]
theorem mem_sl {a b : Nat} {x : Int} (h : x ∈ sl tx a b) : x ∈ tx := List.mem_of_mem_drop (List.mem_of_mem_take h)
/-- the text as the class has it -/
def TxG (G : GH) (u : List Int) : Prop := G 41 1 = (u.length : Int) ∧ ∀ i, i < u.length → G 42 i = u.getD i 0
theorem load_words {Q : Int → GH → Prop} (hm : tx.length ≤ 297) (hx : ∀ x ∈ tx, 1 ≤ x ∧ x < 128) (h0 : G 272 1 = 0) (ht : ∀ i, i < tx.length → G 273 i = tx.getD i 0) (hs : G 41 1 = 0) (h : ∀ G1, (∀ x, x ≠ 41 → x ≠ 42 → G1 x = G x) → TxG G1 tx → f_X9_load G1 Q) : f_L_load (1000 + tx.length) G Q := by
  have tl : tLen (1000 + tx.length) = (tx.length : Int) := by unfold tLen; rw [Nat.add_sub_cancel_left]
  unfold f_L_load
  rw [tl]
  have gd : ∀ i, i < tx.length → 1 ≤ tx.getD i 0 ∧ tx.getD i 0 < 128 := fun i hi => by
    refine hx _ ?_
    rw [List.getD_eq_getElem?_getD, List.getElem?_eq_getElem hi]
    exact List.getElem_mem _
  refine loopI3 (I := fun x2 x4 G1 => ∃ i : Nat, x4 = (i : Int) ∧ i ≤ tx.length ∧ (∀ x, x ≠ 41 → x ≠ 42 → G1 x = G x) ∧ (i = tx.length → TxG G1 tx) ∧ (i < tx.length → TxG G1 (tx.take (8 * (i / 8))) ∧ Wd x2 (sl tx (8 * (i / 8)) i))) (μ := fun _ x4 _ => ((tx.length : Int) - x4).toNat) (fun k x2 x4 G1 hI ih => ?_) 0 0 G ⟨0, rfl, Nat.zero_le _, fun _ _ _ => rfl, fun q => ⟨by rw [hs]; omega, fun i hi => by omega⟩, fun _ => ⟨⟨hs, fun i hi => by rw [List.length_take] at hi; omega⟩, by rw [show 8 * (0 / 8) = 0 from rfl, sl_self]; exact Wd_nil⟩⟩
  obtain ⟨i, rfl, hi, o1, hend, hin⟩ := hI
  have g0 : G1 272 1 = 0 := by rw [o1 272 (by omega) (by omega)]; exact h0
  refine ⟨⟨⟨by omega, by omega⟩, g0⟩, fun c => h G1 o1 (hend (by omega)), fun c => ?_⟩
  have hlt : i < tx.length := by omega
  obtain ⟨tg, wd⟩ := hin hlt
  have gi := gd i hlt
  have gt : G1 273 ((i : Int)).toNat = tx.getD i 0 := by rw [o1 273 (by omega) (by omega), Int.toNat_natCast]; exact ht i hlt
  rw [gt]
  have hsl := sl_len (tx := tx) (a := 8 * (i / 8)) (b := i) (by omega) (by omega)
  have wd2 : Wd (lOr (lShl x2 8) (tx.getD i 0)) (sl tx (8 * (i / 8)) (i + 1)) := by
    rw [sl_s (by omega) hlt]
    exact Wd_push wd (by omega) (by omega)
  -- an append
  have app : (i % 8 = 7 ∨ i + 1 = tx.length) → f_X9_append (lOr (lShl x2 8) (tx.getD i 0)) G1 (fun _ G3 => k 0 ((i : Int) + 1) G3) := fun cc => by
    obtain ⟨t, htt⟩ : ∃ t : OTx, t = ((tx.take (8 * (i / 8))).length, G1 42) := ⟨_, rfl⟩
    have hT : TxH t (tx.take (8 * (i / 8))) := by rw [htt]; exact ⟨rfl, tg.2⟩
    have h8 := apT_8 wd2 (fun x q => by have := hx x (mem_sl q); omega) hT
    rw [take_sl (by omega)] at h8
    have len := apT_len (b := lOr (lShl x2 8) (tx.getD i 0)) (t := t) 8
    have l8 : (apT (lOr (lShl x2 8) (tx.getD i 0)) t 8).1 = i + 1 := by rw [h8.1, List.length_take]; omega
    rw [l8] at len
    have len : ((i + 1 : Nat) : Int) = (t.1 : Int) + apC (lOr (lShl x2 8) (tx.getD i 0)) 8 := len
    have t1 : t.1 ≤ 297 := by rw [hT.1, List.length_take]; omega
    refine c_append (t := t) (by rw [tg.1, hT.1]) (by omega) (fun z hz => by rw [htt]) (fun q => by omega) (fun _ G' o' p' l' v' => ?_)
    have tg' : TxG G' (tx.take (i + 1)) := by
      refine ⟨by rw [l', l8, List.length_take]; omega, fun z hz => ?_⟩
      rw [List.length_take] at hz
      rw [v' z (by rw [l8]; omega)]
      exact h8.2 z (by rw [List.length_take]; omega)
    refine ih _ _ _ ⟨i + 1, by omega, by omega, fun x x1 x2 => by rw [o' x x1 x2]; exact o1 x x1 x2, fun q => ?_, fun q => ?_⟩ (by omega)
    · rw [q, List.take_length] at tg'; exact tg'
    · have c7 : i % 8 = 7 := by omega
      have e8 : 8 * ((i + 1) / 8) = i + 1 := by omega
      rw [e8]
      exact ⟨tg', by rw [sl_self]; exact Wd_nil⟩
  refine ⟨⟨⟨by omega, c⟩, by omega⟩, by omega, fun c7 => app (Or.inl (by omega)), fun c7 => ⟨fun cl => app (Or.inr (by omega)), fun cl => ?_⟩⟩
  refine ih _ _ _ ⟨i + 1, by omega, by omega, o1, fun q => by omega, fun q => ?_⟩ (by omega)
  have e8 : 8 * ((i + 1) / 8) = 8 * (i / 8) := by omega
  rw [e8]
  exact ⟨tg, wd2⟩
end QA
