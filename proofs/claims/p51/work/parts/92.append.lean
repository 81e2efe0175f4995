-- ===== PURE LAYER: append =====
theorem bvsh (X : BitVec 64) (n : Nat) (hn : n ≤ 56) : (X >>> n) &&& 255#64 = (X.sshiftRight n) &&& 255#64 := by
  refine BitVec.eq_of_getLsbD_eq (fun i hi => ?_)
  rw [BitVec.getLsbD_and, BitVec.getLsbD_and, BitVec.getLsbD_ushiftRight, BitVec.getLsbD_sshiftRight]
  by_cases c : i < 8
  · rw [if_pos (by omega)]
    have e : (decide (64 ≤ i)) = false := decide_eq_false (by omega)
    rw [e]; rfl
  · have e : (255#64).getLsbD i = false := by
      rw [BitVec.getLsbD_ofNat]
      have z : Nat.testBit 255 i = false := Nat.testBit_lt_two_pow (Nat.lt_of_lt_of_le (show 255 < 2 ^ 8 by decide) (Nat.pow_le_pow_right (by omega) (by omega)))
      rw [z, Bool.and_false]
    rw [e, Bool.and_false, Bool.and_false]
def byB (b k : Int) : Int := lAnd (lUshr b (8 * k)) 255
theorem byte_eq0 {b : Int} : lAnd (lUshr b 0) 255 = lAnd (lShr b 0) 255 := by
  unfold lAnd lUshr lShr
  rw [zL_of, zL_of]
  refine congrArg Int64.toInt (Int64.toBitVec.inj ?_)
  have e1 : ((zI 0).toInt64.toUInt64 &&& Int64.toUInt64 63).toBitVec % 64 = 0#64 := by decide
  have e2 : ((zI 0).toInt64 &&& 63).toBitVec.smod 64 = 0#64 := by decide
  show ((zL b).toBitVec >>> (((zI 0).toInt64.toUInt64 &&& Int64.toUInt64 63).toBitVec % 64)) &&& (zL 255).toBitVec = ((zL b).toBitVec.sshiftRight' (((zI 0).toInt64 &&& 63).toBitVec.smod 64)) &&& (zL 255).toBitVec
  rw [e1, e2]
  exact bvsh (zL b).toBitVec 0 (by decide)
theorem byte_eq1 {b : Int} : lAnd (lUshr b 8) 255 = lAnd (lShr b 8) 255 := by
  unfold lAnd lUshr lShr
  rw [zL_of, zL_of]
  refine congrArg Int64.toInt (Int64.toBitVec.inj ?_)
  have e1 : ((zI 8).toInt64.toUInt64 &&& Int64.toUInt64 63).toBitVec % 64 = 8#64 := by decide
  have e2 : ((zI 8).toInt64 &&& 63).toBitVec.smod 64 = 8#64 := by decide
  show ((zL b).toBitVec >>> (((zI 8).toInt64.toUInt64 &&& Int64.toUInt64 63).toBitVec % 64)) &&& (zL 255).toBitVec = ((zL b).toBitVec.sshiftRight' (((zI 8).toInt64 &&& 63).toBitVec.smod 64)) &&& (zL 255).toBitVec
  rw [e1, e2]
  exact bvsh (zL b).toBitVec 8 (by decide)
theorem byte_eq2 {b : Int} : lAnd (lUshr b 16) 255 = lAnd (lShr b 16) 255 := by
  unfold lAnd lUshr lShr
  rw [zL_of, zL_of]
  refine congrArg Int64.toInt (Int64.toBitVec.inj ?_)
  have e1 : ((zI 16).toInt64.toUInt64 &&& Int64.toUInt64 63).toBitVec % 64 = 16#64 := by decide
  have e2 : ((zI 16).toInt64 &&& 63).toBitVec.smod 64 = 16#64 := by decide
  show ((zL b).toBitVec >>> (((zI 16).toInt64.toUInt64 &&& Int64.toUInt64 63).toBitVec % 64)) &&& (zL 255).toBitVec = ((zL b).toBitVec.sshiftRight' (((zI 16).toInt64 &&& 63).toBitVec.smod 64)) &&& (zL 255).toBitVec
  rw [e1, e2]
  exact bvsh (zL b).toBitVec 16 (by decide)
theorem byte_eq3 {b : Int} : lAnd (lUshr b 24) 255 = lAnd (lShr b 24) 255 := by
  unfold lAnd lUshr lShr
  rw [zL_of, zL_of]
  refine congrArg Int64.toInt (Int64.toBitVec.inj ?_)
  have e1 : ((zI 24).toInt64.toUInt64 &&& Int64.toUInt64 63).toBitVec % 64 = 24#64 := by decide
  have e2 : ((zI 24).toInt64 &&& 63).toBitVec.smod 64 = 24#64 := by decide
  show ((zL b).toBitVec >>> (((zI 24).toInt64.toUInt64 &&& Int64.toUInt64 63).toBitVec % 64)) &&& (zL 255).toBitVec = ((zL b).toBitVec.sshiftRight' (((zI 24).toInt64 &&& 63).toBitVec.smod 64)) &&& (zL 255).toBitVec
  rw [e1, e2]
  exact bvsh (zL b).toBitVec 24 (by decide)
theorem byte_eq4 {b : Int} : lAnd (lUshr b 32) 255 = lAnd (lShr b 32) 255 := by
  unfold lAnd lUshr lShr
  rw [zL_of, zL_of]
  refine congrArg Int64.toInt (Int64.toBitVec.inj ?_)
  have e1 : ((zI 32).toInt64.toUInt64 &&& Int64.toUInt64 63).toBitVec % 64 = 32#64 := by decide
  have e2 : ((zI 32).toInt64 &&& 63).toBitVec.smod 64 = 32#64 := by decide
  show ((zL b).toBitVec >>> (((zI 32).toInt64.toUInt64 &&& Int64.toUInt64 63).toBitVec % 64)) &&& (zL 255).toBitVec = ((zL b).toBitVec.sshiftRight' (((zI 32).toInt64 &&& 63).toBitVec.smod 64)) &&& (zL 255).toBitVec
  rw [e1, e2]
  exact bvsh (zL b).toBitVec 32 (by decide)
theorem byte_eq5 {b : Int} : lAnd (lUshr b 40) 255 = lAnd (lShr b 40) 255 := by
  unfold lAnd lUshr lShr
  rw [zL_of, zL_of]
  refine congrArg Int64.toInt (Int64.toBitVec.inj ?_)
  have e1 : ((zI 40).toInt64.toUInt64 &&& Int64.toUInt64 63).toBitVec % 64 = 40#64 := by decide
  have e2 : ((zI 40).toInt64 &&& 63).toBitVec.smod 64 = 40#64 := by decide
  show ((zL b).toBitVec >>> (((zI 40).toInt64.toUInt64 &&& Int64.toUInt64 63).toBitVec % 64)) &&& (zL 255).toBitVec = ((zL b).toBitVec.sshiftRight' (((zI 40).toInt64 &&& 63).toBitVec.smod 64)) &&& (zL 255).toBitVec
  rw [e1, e2]
  exact bvsh (zL b).toBitVec 40 (by decide)
theorem byte_eq6 {b : Int} : lAnd (lUshr b 48) 255 = lAnd (lShr b 48) 255 := by
  unfold lAnd lUshr lShr
  rw [zL_of, zL_of]
  refine congrArg Int64.toInt (Int64.toBitVec.inj ?_)
  have e1 : ((zI 48).toInt64.toUInt64 &&& Int64.toUInt64 63).toBitVec % 64 = 48#64 := by decide
  have e2 : ((zI 48).toInt64 &&& 63).toBitVec.smod 64 = 48#64 := by decide
  show ((zL b).toBitVec >>> (((zI 48).toInt64.toUInt64 &&& Int64.toUInt64 63).toBitVec % 64)) &&& (zL 255).toBitVec = ((zL b).toBitVec.sshiftRight' (((zI 48).toInt64 &&& 63).toBitVec.smod 64)) &&& (zL 255).toBitVec
  rw [e1, e2]
  exact bvsh (zL b).toBitVec 48 (by decide)
theorem byte_eq7 {b : Int} : lAnd (lUshr b 56) 255 = lAnd (lShr b 56) 255 := by
  unfold lAnd lUshr lShr
  rw [zL_of, zL_of]
  refine congrArg Int64.toInt (Int64.toBitVec.inj ?_)
  have e1 : ((zI 56).toInt64.toUInt64 &&& Int64.toUInt64 63).toBitVec % 64 = 56#64 := by decide
  have e2 : ((zI 56).toInt64 &&& 63).toBitVec.smod 64 = 56#64 := by decide
  show ((zL b).toBitVec >>> (((zI 56).toInt64.toUInt64 &&& Int64.toUInt64 63).toBitVec % 64)) &&& (zL 255).toBitVec = ((zL b).toBitVec.sshiftRight' (((zI 56).toInt64 &&& 63).toBitVec.smod 64)) &&& (zL 255).toBitVec
  rw [e1, e2]
  exact bvsh (zL b).toBitVec 56 (by decide)
theorem byte_eq {b k : Int} (hk : 0 ≤ k ∧ k < 8) : lAnd (lShr b (8 * k)) 255 = byB b k := by
  unfold byB
  have e : k = 0 ∨ k = 1 ∨ k = 2 ∨ k = 3 ∨ k = 4 ∨ k = 5 ∨ k = 6 ∨ k = 7 := by omega
  rcases e with rfl | rfl | rfl | rfl | rfl | rfl | rfl | rfl
  · exact byte_eq0.symm
  · exact byte_eq1.symm
  · exact byte_eq2.symm
  · exact byte_eq3.symm
  · exact byte_eq4.symm
  · exact byte_eq5.symm
  · exact byte_eq6.symm
  · exact byte_eq7.symm
theorem lAnd_rng {x : Int} : 0 ≤ lAnd x 255 ∧ lAnd x 255 ≤ 255 := by
  unfold lAnd
  have e : (zL x &&& zL 255).toInt = ((zL x).toBitVec &&& 255#64).toInt := rfl
  have n : ((zL x).toBitVec &&& 255#64).toNat ≤ 255 := by
    rw [BitVec.toNat_and]
    exact Nat.and_le_right
  have t : ((zL x).toBitVec &&& 255#64).toInt = (((zL x).toBitVec &&& 255#64).toNat : Int) := BitVec.toInt_eq_toNat_of_lt (by omega)
  rw [e, t]; omega
def sgB (v : Int) : Int := if v < 128 then v else v - 256
theorem zByte_is {v : Int} (h : 0 ≤ v ∧ v ≤ 255) : zByte v = sgB v := by
  unfold zByte sgB
  rw [Int8.toInt_toInt32, Int32.toInt_toInt8, zI_toInt ⟨by omega, by omega⟩]
  show Int.bmod v 256 = _
  unfold Int.bmod
  have e : v % ((256 : Nat) : Int) = v := by omega
  rw [e]
  by_cases c : v < 128
  · rw [if_pos c]
    exact if_pos (by omega)
  · rw [if_neg c]
    exact if_neg (by omega)
/-- the text behind j bytes of b -/
def apT (b : Int) (t : OTx) : Nat → OTx
  | 0 => t
  | j + 1 => if byB b (7 - (j : Int)) ≠ 0 then psh (apT b t j) (byB b (7 - (j : Int))) else apT b t j
def apC (b x : Int) : Int := sumZ (fun i => b2 (byB b (7 - i) ≠ 0)) x
theorem apT_s {b j : Int} {t : OTx} (h : 0 ≤ j) : apT b t (j + 1).toNat = if byB b (7 - j) ≠ 0 then psh (apT b t j.toNat) (byB b (7 - j)) else apT b t j.toNat := by
  have e : apT b t (j.toNat + 1) = if byB b (7 - ((j.toNat : Nat) : Int)) ≠ 0 then psh (apT b t j.toNat) (byB b (7 - ((j.toNat : Nat) : Int))) else apT b t j.toNat := rfl
  rw [show (j + 1).toNat = j.toNat + 1 by omega, e, show ((j.toNat : Nat) : Int) = j by omega]
theorem apT_len {b : Int} {t : OTx} : ∀ j : Nat, ((apT b t j).1 : Int) = (t.1 : Int) + apC b j
  | 0 => by show (t.1 : Int) = (t.1 : Int) + 0; omega
  | j + 1 => by
    have ih := apT_len (b := b) (t := t) j
    have s : apC b ((j : Int) + 1) = apC b j + b2 (byB b (7 - (j : Int)) ≠ 0) := sumZ_s (by omega)
    rw [show ((j + 1 : Nat) : Int) = (j : Int) + 1 by omega, s]
    show ((if byB b (7 - (j : Int)) ≠ 0 then psh (apT b t j) (byB b (7 - (j : Int))) else apT b t j).1 : Int) = _
    by_cases c : byB b (7 - (j : Int)) ≠ 0
    · rw [if_pos c, b2_t c]
      show (((apT b t j).1 + 1 : Nat) : Int) = _
      omega
    · rw [if_neg c, b2_f c]; omega
theorem apT_rng {b : Int} {t : OTx} (ht : ∀ i, i < t.1 → 1 ≤ t.2 i ∧ t.2 i ≤ 255) : ∀ j : Nat, ∀ i, i < (apT b t j).1 → 1 ≤ (apT b t j).2 i ∧ (apT b t j).2 i ≤ 255
  | 0 => ht
  | j + 1 => by
    have ih := apT_rng (b := b) ht j
    have br := lAnd_rng (x := lUshr b (8 * (7 - (j : Int))))
    have bb : byB b (7 - (j : Int)) = lAnd (lUshr b (8 * (7 - (j : Int)))) 255 := rfl
    have e : apT b t (j + 1) = if byB b (7 - (j : Int)) ≠ 0 then psh (apT b t j) (byB b (7 - (j : Int))) else apT b t j := rfl
    rw [e]
    by_cases c : byB b (7 - (j : Int)) ≠ 0
    · rw [if_pos c]
      intro i hi
      have hi : i < (apT b t j).1 + 1 := hi
      show 1 ≤ (if i = (apT b t j).1 then byB b (7 - (j : Int)) else (apT b t j).2 i) ∧ (if i = (apT b t j).1 then byB b (7 - (j : Int)) else (apT b t j).2 i) ≤ 255
      by_cases c2 : i = (apT b t j).1
      · rw [if_pos c2]; omega
      · rw [if_neg c2]; exact ih i (by omega)
    · rw [if_neg c]; exact ih
theorem apC_rng {b x : Int} (h : 0 ≤ x) : 0 ≤ apC b x ∧ apC b x ≤ x := by
  refine ⟨sumZ_ge (fun _ _ _ => b2_ge), ?_⟩
  have := sumZ_le (f := fun i => b2 (byB b (7 - i) ≠ 0)) (c := 1) h (fun _ _ _ => b2_le)
  unfold apC
  omega
theorem apC_le {b x y : Int} (h : 0 ≤ x) (hxy : x ≤ y) : apC b x ≤ apC b y := sumZ_le2 h hxy (fun _ _ => b2_ge)
theorem apC_up {b : Int} : sumZ (fun k => b2 (byB b k ≠ 0)) 8 = apC b 8 := by
  unfold apC
  have f : ∀ g : Int → Int, sumZ g 8 = g 0 + g 1 + g 2 + g 3 + g 4 + g 5 + g 6 + g 7 := fun g => by
    show 0 + g 0 + g 1 + g 2 + g 3 + g 4 + g 5 + g 6 + g 7 = _
    omega
  rw [f, f]
  show b2 (byB b 0 ≠ 0) + b2 (byB b 1 ≠ 0) + b2 (byB b 2 ≠ 0) + b2 (byB b 3 ≠ 0) + b2 (byB b 4 ≠ 0) + b2 (byB b 5 ≠ 0) + b2 (byB b 6 ≠ 0) + b2 (byB b 7 ≠ 0) = b2 (byB b 7 ≠ 0) + b2 (byB b 6 ≠ 0) + b2 (byB b 5 ≠ 0) + b2 (byB b 4 ≠ 0) + b2 (byB b 3 ≠ 0) + b2 (byB b 2 ≠ 0) + b2 (byB b 1 ≠ 0) + b2 (byB b 0 ≠ 0)
  omega
section AP
variable {j : Nat} {G : GH} {K : GH → Prop} {L : Nat} {xs : Nat → Int32} {i4 : Int}
theorem c_append {Q : Int → GH → Prop} {b : Int} {t : OTx} (h1 : G 41 1 = (t.1 : Int)) (h2 : t.1 ≤ 500) (h3 : ∀ i, i < t.1 → G 42 i = t.2 i) (hbad : 500 < (t.1 : Int) + apC b 8 → Q (-2) G) (hgood : (t.1 : Int) + apC b 8 ≤ 500 → ∀ G' : GH, (∀ x, x ≠ 41 → x ≠ 42 → G' x = G x) → (∀ k, k ≠ 1 → G' 41 k = G 41 k) → G' 41 1 = ((apT b t 8).1 : Int) → (∀ i, i < (apT b t 8).1 → G' 42 i = (apT b t 8).2 i) → Q ((apT b t 8).1 : Int) G') : f_X9_append b G Q := by
  unfold f_X9_append f_X5_takeBytes
  refine loopI2 (I := fun acc x => ∃ m : Int, (0 ≤ m ∧ m ≤ 8) ∧ x = 56 - 8 * m ∧ acc = apC b m) (μ := fun _ x => (x + 8).toNat) (fun k acc x hI ih => ?_) 0 56 ⟨0, by omega, by omega, rfl⟩
  obtain ⟨m, hm, rfl, rfl⟩ := hI
  have ar := apC_rng (b := b) hm.1
  rw [h1]
  refine ⟨fun c => ?_, fun c => ?_⟩
  · have e8 : m = 8 := by omega
    rw [e8] at ar ⊢
    refine ⟨⟨by omega, by omega⟩, fun c2 => ?_, fun c2 => hbad c2⟩
    refine loopI2 (I := fun (x : Int) (G1 : GH) => ∃ m : Int, (0 ≤ m ∧ m ≤ 8) ∧ x = 56 - 8 * m ∧ (∀ y, y ≠ 41 → y ≠ 42 → G1 y = G y) ∧ (∀ k, k ≠ 1 → G1 41 k = G 41 k) ∧ G1 41 1 = ((apT b t m.toNat).1 : Int) ∧ (∀ i, i < (apT b t m.toNat).1 → G1 42 i = (apT b t m.toNat).2 i)) (μ := fun (x : Int) (_ : GH) => (x + 8).toNat) (fun k2 x G1 hI ih2 => ?_) 56 G ⟨0, by omega, by omega, fun _ _ _ => rfl, fun _ _ => rfl, h1, h3⟩
    obtain ⟨m, hm, rfl, o1, p1, l1, v1⟩ := hI
    refine ⟨fun c3 => ?_, fun c3 => ?_⟩
    · rw [show m = 8 by omega] at l1 v1
      rw [l1]; exact hgood c2 G1 o1 p1 l1 v1
    · have es := apT_s (b := b) (t := t) hm.1
      have bb : lAnd (lUshr b (56 - 8 * m)) 255 = byB b (7 - m) := by
        unfold byB
        rw [show 8 * (7 - m) = 56 - 8 * m by omega]
      have br := lAnd_rng (x := lUshr b (56 - 8 * m))
      have ln := apT_len (b := b) (t := t) m.toNat
      have ln2 := apT_len (b := b) (t := t) (m + 1).toNat
      rw [show ((m.toNat : Nat) : Int) = m by omega] at ln
      rw [show (((m + 1).toNat : Nat) : Int) = m + 1 by omega] at ln2
      have le := apC_le (b := b) (x := m + 1) (y := 8) (by omega) (by omega)
      rw [bb] at br ⊢
      refine ⟨⟨by omega, by omega⟩, fun c4 => ih2 _ _ ⟨m + 1, by omega, by omega, o1, p1, ?_, ?_⟩ (by omega), fun c4 => ?_⟩
      · rw [es, if_neg (fun w => w c4)]; exact l1
      · rw [es, if_neg (fun w => w c4)]; exact v1
      · rw [if_pos c4] at es
        have l2 : ((apT b t (m + 1).toNat).1 : Int) = ((apT b t m.toNat).1 : Int) + 1 := by
          rw [es]
          show (((apT b t m.toNat).1 + 1 : Nat) : Int) = _
          omega
        rw [l1]
        refine ⟨⟨by omega, by omega⟩, fun G2 e2 => ?_⟩
        have l12 : G2 41 1 = ((apT b t m.toNat).1 : Int) := by rw [e2, up_na (by omega)]; exact l1
        rw [l12]
        refine ⟨⟨by omega, by omega⟩, fun G3 e3 => ih2 _ _ ⟨m + 1, by omega, by omega, fun y y0 y1 => by rw [e3, up_na y0, e2, up_na y1]; exact o1 y y0 y1, fun k hk => by rw [e3, upG_nk hk, e2, up_na (by omega)]; exact p1 k hk, by rw [e3, upG_same]; exact l2.symm, fun i hi => ?_⟩ (by omega)⟩
        rw [es]
        have hi : i < (apT b t m.toNat).1 + 1 := by
          rw [es] at hi; exact hi
        show G3 42 i = if i = (apT b t m.toNat).1 then byB b (7 - m) else (apT b t m.toNat).2 i
        rw [e3, up_na (by omega), e2]
        by_cases c5 : i = (apT b t m.toNat).1
        · rw [if_pos c5, c5, Int.toNat_natCast, upG_same]
        · rw [if_neg c5, upG_nk (by rw [Int.toNat_natCast]; exact c5)]
          exact v1 i (by omega)
  · have as := sumZ_s (f := fun i => b2 (byB b (7 - i) ≠ 0)) hm.1
    have as2 : apC b (m + 1) = apC b m + b2 (byB b (7 - m) ≠ 0) := as
    have bb : lAnd (lUshr b (56 - 8 * m)) 255 = byB b (7 - m) := by
      unfold byB
      rw [show 8 * (7 - m) = 56 - 8 * m by omega]
    rw [bb]
    refine ⟨fun c2 => ih _ _ ⟨m + 1, by omega, by omega, ?_⟩ (by omega), fun c2 => ⟨⟨by omega, by omega⟩, ih _ _ ⟨m + 1, by omega, by omega, ?_⟩ (by omega)⟩⟩
    · rw [as2, b2_f (fun w => w c2)]; omega
    · rw [as2, b2_t c2]
end AP
