theorem inR_0 : inR 0 := ⟨by decide, by decide⟩
theorem cat1_of {ρ : Nat → Nat} {v : AV} (h : cat2 (some v) = false) : (cv ρ v).category = 1 := by
  rw [cat2_spec (ρ := ρ)] at h
  rcases lv_cat (cv ρ v) with q | q
  · exact q
  · rw [q] at h; cases h
theorem zc_eq_t {x y : Int} (hx : inR x) (hy : inR y) (h : zI x = zI y) : x = y := (zI_eq hx hy).mp h
theorem zc_eq_f {x y : Int} (hx : inR x) (hy : inR y) (h : ¬ zI x = zI y) : x ≠ y := fun q => h ((zI_eq hx hy).mpr q)
theorem zc_ne_t {x y : Int} (hx : inR x) (hy : inR y) (h : zI x ≠ zI y) : x ≠ y := fun q => h ((zI_eq hx hy).mpr q)
theorem zc_ne_f {x y : Int} (hx : inR x) (hy : inR y) (h : zI x = zI y) : x = y := (zI_eq hx hy).mp h
theorem zc_lt_t {x y : Int} (hx : inR x) (hy : inR y) (h : zI x < zI y) : x < y := (zI_lt hx hy).mp h
theorem zc_lt_f {x y : Int} (hx : inR x) (hy : inR y) (h : ¬ zI x < zI y) : y ≤ x := Int.not_lt.mp fun q => h ((zI_lt hx hy).mpr q)
theorem zc_ge_t {x y : Int} (hx : inR x) (hy : inR y) (h : zI y ≤ zI x) : y ≤ x := (zI_le hy hx).mp h
theorem zc_ge_f {x y : Int} (hx : inR x) (hy : inR y) (h : ¬ zI y ≤ zI x) : x < y := Int.not_le.mp fun q => h ((zI_le hy hx).mpr q)
theorem zc_gt_t {x y : Int} (hx : inR x) (hy : inR y) (h : zI y < zI x) : y < x := (zI_lt hy hx).mp h
theorem zc_gt_f {x y : Int} (hx : inR x) (hy : inR y) (h : ¬ zI y < zI x) : x ≤ y := Int.not_lt.mp fun q => h ((zI_lt hy hx).mpr q)
theorem zc_le_t {x y : Int} (hx : inR x) (hy : inR y) (h : zI x ≤ zI y) : x ≤ y := (zI_le hx hy).mp h
theorem zc_le_f {x y : Int} (hx : inR x) (hy : inR y) (h : ¬ zI x ≤ zI y) : y < x := Int.not_le.mp fun q => h ((zI_le hx hy).mpr q)
theorem zI_nI (n : Nat) : zI (n : Int) = nI n := rfl
theorem zI_div {x y : Int} (hx : 0 ≤ x ∧ x ≤ 2147483647) (hy : 0 < y ∧ y ≤ 2147483647) : zI (x / y) = zI x / zI y := by
  obtain ⟨a, rfl⟩ := Int.eq_ofNat_of_zero_le hx.1
  obtain ⟨d, rfl⟩ := Int.eq_ofNat_of_zero_le (Int.le_of_lt hy.1)
  show zI (((a / d : Nat)) : Int) = _
  rw [zI_nI, zI_nI, zI_nI, pk_div (by omega) (by omega) (by omega)]
theorem zI_rem {x y : Int} (hx : 0 ≤ x ∧ x ≤ 2147483647) (hy : 0 < y ∧ y ≤ 2147483647) : zI (x % y) = zI x - zI x / zI y * zI y := by
  obtain ⟨a, rfl⟩ := Int.eq_ofNat_of_zero_le hx.1
  obtain ⟨d, rfl⟩ := Int.eq_ofNat_of_zero_le (Int.le_of_lt hy.1)
  show zI (((a % d : Nat)) : Int) = _
  rw [zI_nI, zI_nI, zI_nI, pk_rem (by omega) (by omega) (by omega)]
theorem zI_bv (x : Int) : (zI x).toBitVec = BitVec.ofInt 32 x := rfl
theorem zI_tb (n : Nat) : (zI (n : Int)).toBitVec = BitVec.ofNat 32 n := by rw [zI_bv]; exact BitVec.ofInt_natCast 32 n
theorem zI_and (x y : Nat) : zI (x : Int) &&& zI (y : Int) = zI ((x &&& y : Nat) : Int) := by
  apply Int32.toBitVec_inj.mp
  rw [Int32.toBitVec_and, zI_tb, zI_tb, zI_tb, BitVec.ofNat_and]
theorem zI_or (x y : Nat) : zI (x : Int) ||| zI (y : Int) = zI ((x ||| y : Nat) : Int) := by
  apply Int32.toBitVec_inj.mp
  rw [Int32.toBitVec_or, zI_tb, zI_tb, zI_tb, BitVec.ofNat_or]
theorem zI_s31 : ∀ n, n < 32 → ((nI n &&& 31).toBitVec.smod 32).toNat = n := by decide +kernel
theorem zI_shl (x : Nat) {y : Nat} (hy : y < 32) : zI (x : Int) <<< (zI (y : Int) &&& 31) = zI ((x * 2 ^ y : Nat) : Int) := by
  apply Int32.toBitVec_inj.mp
  apply BitVec.eq_of_toNat_eq
  rw [zI_nI y, pk_shl _ _ y (zI_s31 y hy), zI_tb, zI_tb, BitVec.toNat_ofNat, BitVec.toNat_ofNat]
  exact (Nat.mod_mul_mod _ _ _)
theorem zI_shr {x y : Nat} (hx : x < 2147483648) (hy : y < 32) : zI (x : Int) >>> (zI (y : Int) &&& 31) = zI ((x / 2 ^ y : Nat) : Int) := by
  rw [zI_nI, zI_nI, zI_nI]
  exact pk_shrN hx _ y (zI_s31 y hy)
theorem zI_i2l {x : Int} (hx : inR x) : (zI x).toInt64 = zL x := by
  apply Int64.toInt_inj.mp
  rw [Int32.toInt_toInt64, zI_toInt hx, zL_toInt (inR_inL hx)]
theorem zL_l2i {x : Int} (hx : inR x) : (zL x).toInt32 = zI x := by
  rw [← zI_i2l hx]
  exact Int32.toInt32_toInt64 _
theorem zL_cmp {x y : Int} (hx : inL x) (hy : inL y) : zI (if y < x then 1 else if x = y then 0 else -1) = lg_cmp (zL x) (zL y) := by
  unfold lg_cmp
  by_cases h1 : y < x
  · rw [if_pos h1, if_pos (show zL x > zL y from (zL_lt hy hx).mpr h1)]; rfl
  · rw [if_neg h1, if_neg (show ¬ zL x > zL y from fun q => h1 ((zL_lt hy hx).mp q))]
    by_cases h2 : x = y
    · rw [if_pos h2, if_pos ((zL_eq hx hy).mpr h2)]; rfl
    · rw [if_neg h2, if_neg (fun q => h2 ((zL_eq hx hy).mp q))]; rfl
section ROWS1
variable {κ : Cx} {δ : Dx} {own : String} {b : ByteArray} {nL : Nat} {ret : Option FieldType} {ρ0 : Nat → Nat} {n0 cb sb pc : Nat} {l : AL} {st : List AV} {S : ASt} {G : GH}
theorem a_iconst (X : CX κ δ own b nL ret) {n : Int} (hd : decode b pc = .ok (.iconst n, 1)) (k : AW κ δ ρ0 n0 nL cb sb (pc + 1) l (vi n :: st) S G) : AW κ δ ρ0 n0 nL cb sb pc l st S G := by
  obtain ⟨p, lc, e, R, s, m, args, below, meth, c, Q⟩ := κ
  obtain ⟨hx, hb, hml, hown, hts, hret, hlk, hK, hN, hA, htr⟩ := X
  intro ρ H locs ls h1 h2 h3 h4
  exact lv_iconst hx hb hd rfl (k ρ H locs ls h1 h2 h3 h4)
theorem a_bipush (X : CX κ δ own b nL ret) {n : Int} (hd : decode b pc = .ok (.bipush n, 2)) (hv : (Int8.ofInt n).toInt32 = zI n) (k : AW κ δ ρ0 n0 nL cb sb (pc + 2) l (vi n :: st) S G) : AW κ δ ρ0 n0 nL cb sb pc l st S G := by
  obtain ⟨p, lc, e, R, s, m, args, below, meth, c, Q⟩ := κ
  obtain ⟨hx, hb, hml, hown, hts, hret, hlk, hK, hN, hA, htr⟩ := X
  intro ρ H locs ls h1 h2 h3 h4
  exact lv_bipush hx hb hd hv (k ρ H locs ls h1 h2 h3 h4)
theorem a_sipush (X : CX κ δ own b nL ret) {n : Int} (hd : decode b pc = .ok (.sipush n, 3)) (hv : (Int16.ofInt n).toInt32 = zI n) (k : AW κ δ ρ0 n0 nL cb sb (pc + 3) l (vi n :: st) S G) : AW κ δ ρ0 n0 nL cb sb pc l st S G := by
  obtain ⟨p, lc, e, R, s, m, args, below, meth, c, Q⟩ := κ
  obtain ⟨hx, hb, hml, hown, hts, hret, hlk, hK, hN, hA, htr⟩ := X
  intro ρ H locs ls h1 h2 h3 h4
  exact lv_sipush hx hb hd hv (k ρ H locs ls h1 h2 h3 h4)
theorem a_ldc (X : CX κ δ own b nL ret) {ix : Nat} {v : Int32} (n : Int) (hw : Cond.constant own ix v ∈ allW) (hd : decode b pc = .ok (.ldc ix, 2)) (hv : v = zI n) (k : AW κ δ ρ0 n0 nL cb sb (pc + 2) l (vi n :: st) S G) : AW κ δ ρ0 n0 nL cb sb pc l st S G := by
  obtain ⟨p, lc, e, R, s, m, args, below, meth, c, Q⟩ := κ
  obtain ⟨hx, hb, hml, hown, hts, hret, hlk, hK, hN, hA, htr⟩ := X
  intro ρ H locs ls h1 h2 h3 h4
  subst hv
  exact lv_ldc hx hb hown (hts _ hw) hd (k ρ H locs ls h1 h2 h3 h4)
theorem a_ldc2 (X : CX κ δ own b nL ret) {ix : Nat} {v : Int64} (n : Int) (hw : Cond.constantLong own ix v ∈ allW) (hd : decode b pc = .ok (.ldc2_w ix, 3)) (hv : v = zL n) (k : AW κ δ ρ0 n0 nL cb sb (pc + 3) l (vl n :: st) S G) : AW κ δ ρ0 n0 nL cb sb pc l st S G := by
  obtain ⟨p, lc, e, R, s, m, args, below, meth, c, Q⟩ := κ
  obtain ⟨hx, hb, hml, hown, hts, hret, hlk, hK, hN, hA, htr⟩ := X
  intro ρ H locs ls h1 h2 h3 h4
  subst hv
  exact lv_ldc2 hx hb hown (hts _ hw) hd (k ρ H locs ls h1 h2 h3 h4)
theorem a_lconst (X : CX κ δ own b nL ret) {n : Fin 2} (v : Int) (hd : decode b pc = .ok (.lconst n, 1)) (hv : Int64.ofNat (n : Nat) = zL v) (k : AW κ δ ρ0 n0 nL cb sb (pc + 1) l (vl v :: st) S G) : AW κ δ ρ0 n0 nL cb sb pc l st S G := by
  obtain ⟨p, lc, e, R, s, m, args, below, meth, c, Q⟩ := κ
  obtain ⟨hx, hb, hml, hown, hts, hret, hlk, hK, hN, hA, htr⟩ := X
  intro ρ H locs ls h1 h2 h3 h4
  exact lv_lconst hx hb hd hv (k ρ H locs ls h1 h2 h3 h4)
theorem a_fconst0 (X : CX κ δ own b nL ret) (hd : decode b pc = .ok (.fconst 0, 1)) (k : AW κ δ ρ0 n0 nL cb sb (pc + 1) l (vf FP.fconst0 :: st) S G) : AW κ δ ρ0 n0 nL cb sb pc l st S G := by
  obtain ⟨p, lc, e, R, s, m, args, below, meth, c, Q⟩ := κ
  obtain ⟨hx, hb, hml, hown, hts, hret, hlk, hK, hN, hA, htr⟩ := X
  intro ρ H locs ls h1 h2 h3 h4
  exact lv_fconst0 hx hb hd (k ρ H locs ls h1 h2 h3 h4)
theorem a_dconst0 (X : CX κ δ own b nL ret) (hd : decode b pc = .ok (.dconst 0, 1)) (k : AW κ δ ρ0 n0 nL cb sb (pc + 1) l (vd FP.dconst0 :: st) S G) : AW κ δ ρ0 n0 nL cb sb pc l st S G := by
  obtain ⟨p, lc, e, R, s, m, args, below, meth, c, Q⟩ := κ
  obtain ⟨hx, hb, hml, hown, hts, hret, hlk, hK, hN, hA, htr⟩ := X
  intro ρ H locs ls h1 h2 h3 h4
  exact lv_dconst0 hx hb hd (k ρ H locs ls h1 h2 h3 h4)
theorem a_iload_n (X : CX κ δ own b nL ret) {kf : Fin 4} {i : Nat} {x : Int} (hd : decode b pc = .ok (.iload_n kf, 1)) (hi : (kf : Nat) = i) (hl : l[i]? = some (some (vi x))) (k : AW κ δ ρ0 n0 nL cb sb (pc + 1) l (vi x :: st) S G) : AW κ δ ρ0 n0 nL cb sb pc l st S G := by
  obtain ⟨p, lc, e, R, s, m, args, below, meth, c, Q⟩ := κ
  obtain ⟨hx, hb, hml, hown, hts, hret, hlk, hK, hN, hA, htr⟩ := X
  intro ρ H locs ls h1 h2 h3 h4
  exact lv_iload_n hx hb hd hi (h4.2.2.2 _ _ hl) (k ρ H locs ls h1 h2 h3 h4)
theorem a_iload (X : CX κ δ own b nL ret) {i : Nat} {x : Int} (hd : decode b pc = .ok (.iload i, 2)) (hl : l[i]? = some (some (vi x))) (k : AW κ δ ρ0 n0 nL cb sb (pc + 2) l (vi x :: st) S G) : AW κ δ ρ0 n0 nL cb sb pc l st S G := by
  obtain ⟨p, lc, e, R, s, m, args, below, meth, c, Q⟩ := κ
  obtain ⟨hx, hb, hml, hown, hts, hret, hlk, hK, hN, hA, htr⟩ := X
  intro ρ H locs ls h1 h2 h3 h4
  exact lv_iload hx hb hd (h4.2.2.2 _ _ hl) (k ρ H locs ls h1 h2 h3 h4)
theorem a_lload_n (X : CX κ δ own b nL ret) {kf : Fin 4} {i : Nat} {x : Int} (hd : decode b pc = .ok (.lload_n kf, 1)) (hi : (kf : Nat) = i) (hl : l[i]? = some (some (vl x))) (k : AW κ δ ρ0 n0 nL cb sb (pc + 1) l (vl x :: st) S G) : AW κ δ ρ0 n0 nL cb sb pc l st S G := by
  obtain ⟨p, lc, e, R, s, m, args, below, meth, c, Q⟩ := κ
  obtain ⟨hx, hb, hml, hown, hts, hret, hlk, hK, hN, hA, htr⟩ := X
  intro ρ H locs ls h1 h2 h3 h4
  exact lv_lload_n hx hb hd hi (h4.2.2.2 _ _ hl) (k ρ H locs ls h1 h2 h3 h4)
theorem a_lload (X : CX κ δ own b nL ret) {i : Nat} {x : Int} (hd : decode b pc = .ok (.lload i, 2)) (hl : l[i]? = some (some (vl x))) (k : AW κ δ ρ0 n0 nL cb sb (pc + 2) l (vl x :: st) S G) : AW κ δ ρ0 n0 nL cb sb pc l st S G := by
  obtain ⟨p, lc, e, R, s, m, args, below, meth, c, Q⟩ := κ
  obtain ⟨hx, hb, hml, hown, hts, hret, hlk, hK, hN, hA, htr⟩ := X
  intro ρ H locs ls h1 h2 h3 h4
  exact lv_lload hx hb hd (h4.2.2.2 _ _ hl) (k ρ H locs ls h1 h2 h3 h4)
theorem a_aload_n (X : CX κ δ own b nL ret) {kf : Fin 4} {i : Nat} {x : Nat} (hd : decode b pc = .ok (.aload_n kf, 1)) (hi : (kf : Nat) = i) (hl : l[i]? = some (some (vr x))) (k : AW κ δ ρ0 n0 nL cb sb (pc + 1) l (vr x :: st) S G) : AW κ δ ρ0 n0 nL cb sb pc l st S G := by
  obtain ⟨p, lc, e, R, s, m, args, below, meth, c, Q⟩ := κ
  obtain ⟨hx, hb, hml, hown, hts, hret, hlk, hK, hN, hA, htr⟩ := X
  intro ρ H locs ls h1 h2 h3 h4
  exact lv_aload_n hx hb hd hi (h4.2.2.2 _ _ hl) (k ρ H locs ls h1 h2 h3 h4)
theorem a_aload (X : CX κ δ own b nL ret) {i : Nat} {x : Nat} (hd : decode b pc = .ok (.aload i, 2)) (hl : l[i]? = some (some (vr x))) (k : AW κ δ ρ0 n0 nL cb sb (pc + 2) l (vr x :: st) S G) : AW κ δ ρ0 n0 nL cb sb pc l st S G := by
  obtain ⟨p, lc, e, R, s, m, args, below, meth, c, Q⟩ := κ
  obtain ⟨hx, hb, hml, hown, hts, hret, hlk, hK, hN, hA, htr⟩ := X
  intro ρ H locs ls h1 h2 h3 h4
  exact lv_aload hx hb hd (h4.2.2.2 _ _ hl) (k ρ H locs ls h1 h2 h3 h4)
theorem a_dload_n (X : CX κ δ own b nL ret) {kf : Fin 4} {i : Nat} {x : UInt64} (hd : decode b pc = .ok (.dload_n kf, 1)) (hi : (kf : Nat) = i) (hl : l[i]? = some (some (vd x))) (k : AW κ δ ρ0 n0 nL cb sb (pc + 1) l (vd x :: st) S G) : AW κ δ ρ0 n0 nL cb sb pc l st S G := by
  obtain ⟨p, lc, e, R, s, m, args, below, meth, c, Q⟩ := κ
  obtain ⟨hx, hb, hml, hown, hts, hret, hlk, hK, hN, hA, htr⟩ := X
  intro ρ H locs ls h1 h2 h3 h4
  exact lv_dload_n hx hb hd hi (h4.2.2.2 _ _ hl) (k ρ H locs ls h1 h2 h3 h4)
theorem a_dload (X : CX κ δ own b nL ret) {i : Nat} {x : UInt64} (hd : decode b pc = .ok (.dload i, 2)) (hl : l[i]? = some (some (vd x))) (k : AW κ δ ρ0 n0 nL cb sb (pc + 2) l (vd x :: st) S G) : AW κ δ ρ0 n0 nL cb sb pc l st S G := by
  obtain ⟨p, lc, e, R, s, m, args, below, meth, c, Q⟩ := κ
  obtain ⟨hx, hb, hml, hown, hts, hret, hlk, hK, hN, hA, htr⟩ := X
  intro ρ H locs ls h1 h2 h3 h4
  exact lv_dload hx hb hd (h4.2.2.2 _ _ hl) (k ρ H locs ls h1 h2 h3 h4)
theorem a_istore_n (X : CX κ δ own b nL ret) {kf : Fin 4} {i : Nat} {x : Int} {l' : AL} (hd : decode b pc = .ok (.istore_n kf, 1)) (hi : (kf : Nat) = i) (hn : i < nL) (ho : okP l i = true) (hl : l.set i (some (vi x)) = l') (k : AW κ δ ρ0 n0 nL cb sb (pc + 1) l' st S G) : AW κ δ ρ0 n0 nL cb sb pc l (vi x :: st) S G := by
  obtain ⟨p, lc, e, R, s, m, args, below, meth, c, Q⟩ := κ
  obtain ⟨hx, hb, hml, hown, hts, hret, hlk, hK, hN, hA, htr⟩ := X
  intro ρ H locs ls h1 h2 h3 h4
  subst hl
  exact lv_istore_n hx hb hd hi h4.has hn rfl (fun ls' h' => k ρ H locs ls' h1 h2 h3 (h4.set1 hn ho h'))
theorem a_istore (X : CX κ δ own b nL ret) {i : Nat} {x : Int} {l' : AL} (hd : decode b pc = .ok (.istore i, 2)) (hn : i < nL) (ho : okP l i = true) (hl : l.set i (some (vi x)) = l') (k : AW κ δ ρ0 n0 nL cb sb (pc + 2) l' st S G) : AW κ δ ρ0 n0 nL cb sb pc l (vi x :: st) S G := by
  obtain ⟨p, lc, e, R, s, m, args, below, meth, c, Q⟩ := κ
  obtain ⟨hx, hb, hml, hown, hts, hret, hlk, hK, hN, hA, htr⟩ := X
  intro ρ H locs ls h1 h2 h3 h4
  subst hl
  exact lv_istore hx hb hd h4.has hn rfl (fun ls' h' => k ρ H locs ls' h1 h2 h3 (h4.set1 hn ho h'))
theorem a_lstore_n (X : CX κ δ own b nL ret) {kf : Fin 4} {i : Nat} {x : Int} {l' : AL} (hd : decode b pc = .ok (.lstore_n kf, 1)) (hi : (kf : Nat) = i) (hn : i + 1 < nL) (ho : okP l i = true) (hl : (l.set i (some (vl x))).set (i + 1) none = l') (k : AW κ δ ρ0 n0 nL cb sb (pc + 1) l' st S G) : AW κ δ ρ0 n0 nL cb sb pc l (vl x :: st) S G := by
  obtain ⟨p, lc, e, R, s, m, args, below, meth, c, Q⟩ := κ
  obtain ⟨hx, hb, hml, hown, hts, hret, hlk, hK, hN, hA, htr⟩ := X
  intro ρ H locs ls h1 h2 h3 h4
  subst hl
  exact lv_lstore_n hx hb hd hi h4.has hn rfl (fun ls' h' => k ρ H locs ls' h1 h2 h3 (h4.set2 hn ho h'))
theorem a_lstore (X : CX κ δ own b nL ret) {i : Nat} {x : Int} {l' : AL} (hd : decode b pc = .ok (.lstore i, 2)) (hn : i + 1 < nL) (ho : okP l i = true) (hl : (l.set i (some (vl x))).set (i + 1) none = l') (k : AW κ δ ρ0 n0 nL cb sb (pc + 2) l' st S G) : AW κ δ ρ0 n0 nL cb sb pc l (vl x :: st) S G := by
  obtain ⟨p, lc, e, R, s, m, args, below, meth, c, Q⟩ := κ
  obtain ⟨hx, hb, hml, hown, hts, hret, hlk, hK, hN, hA, htr⟩ := X
  intro ρ H locs ls h1 h2 h3 h4
  subst hl
  exact lv_lstore hx hb hd h4.has hn rfl (fun ls' h' => k ρ H locs ls' h1 h2 h3 (h4.set2 hn ho h'))
theorem a_astore_n (X : CX κ δ own b nL ret) {kf : Fin 4} {i : Nat} {x : Nat} {l' : AL} (hd : decode b pc = .ok (.astore_n kf, 1)) (hi : (kf : Nat) = i) (hn : i < nL) (ho : okP l i = true) (hl : l.set i (some (vr x)) = l') (k : AW κ δ ρ0 n0 nL cb sb (pc + 1) l' st S G) : AW κ δ ρ0 n0 nL cb sb pc l (vr x :: st) S G := by
  obtain ⟨p, lc, e, R, s, m, args, below, meth, c, Q⟩ := κ
  obtain ⟨hx, hb, hml, hown, hts, hret, hlk, hK, hN, hA, htr⟩ := X
  intro ρ H locs ls h1 h2 h3 h4
  subst hl
  exact lv_astore_n hx hb hd hi h4.has hn rfl (fun ls' h' => k ρ H locs ls' h1 h2 h3 (h4.set1 hn ho h'))
theorem a_astore (X : CX κ δ own b nL ret) {i : Nat} {x : Nat} {l' : AL} (hd : decode b pc = .ok (.astore i, 2)) (hn : i < nL) (ho : okP l i = true) (hl : l.set i (some (vr x)) = l') (k : AW κ δ ρ0 n0 nL cb sb (pc + 2) l' st S G) : AW κ δ ρ0 n0 nL cb sb pc l (vr x :: st) S G := by
  obtain ⟨p, lc, e, R, s, m, args, below, meth, c, Q⟩ := κ
  obtain ⟨hx, hb, hml, hown, hts, hret, hlk, hK, hN, hA, htr⟩ := X
  intro ρ H locs ls h1 h2 h3 h4
  subst hl
  exact lv_astore hx hb hd h4.has hn rfl (fun ls' h' => k ρ H locs ls' h1 h2 h3 (h4.set1 hn ho h'))
theorem a_dstore_n (X : CX κ δ own b nL ret) {kf : Fin 4} {i : Nat} {x : UInt64} {l' : AL} (hd : decode b pc = .ok (.dstore_n kf, 1)) (hi : (kf : Nat) = i) (hn : i + 1 < nL) (ho : okP l i = true) (hl : (l.set i (some (vd x))).set (i + 1) none = l') (k : AW κ δ ρ0 n0 nL cb sb (pc + 1) l' st S G) : AW κ δ ρ0 n0 nL cb sb pc l (vd x :: st) S G := by
  obtain ⟨p, lc, e, R, s, m, args, below, meth, c, Q⟩ := κ
  obtain ⟨hx, hb, hml, hown, hts, hret, hlk, hK, hN, hA, htr⟩ := X
  intro ρ H locs ls h1 h2 h3 h4
  subst hl
  exact lv_dstore_n hx hb hd hi h4.has hn rfl (fun ls' h' => k ρ H locs ls' h1 h2 h3 (h4.set2 hn ho h'))
theorem a_dstore (X : CX κ δ own b nL ret) {i : Nat} {x : UInt64} {l' : AL} (hd : decode b pc = .ok (.dstore i, 2)) (hn : i + 1 < nL) (ho : okP l i = true) (hl : (l.set i (some (vd x))).set (i + 1) none = l') (k : AW κ δ ρ0 n0 nL cb sb (pc + 2) l' st S G) : AW κ δ ρ0 n0 nL cb sb pc l (vd x :: st) S G := by
  obtain ⟨p, lc, e, R, s, m, args, below, meth, c, Q⟩ := κ
  obtain ⟨hx, hb, hml, hown, hts, hret, hlk, hK, hN, hA, htr⟩ := X
  intro ρ H locs ls h1 h2 h3 h4
  subst hl
  exact lv_dstore hx hb hd h4.has hn rfl (fun ls' h' => k ρ H locs ls' h1 h2 h3 (h4.set2 hn ho h'))
theorem a_iinc (X : CX κ δ own b nL ret) {i : Nat} {n x : Int} {l' : AL} (hd : decode b pc = .ok (.iinc i n, 3)) (hx0 : l[i]? = some (some (vi x))) (hn : i < nL) (ho : okP l i = true) (hl : l.set i (some (vi (x + n))) = l') (k : AW κ δ ρ0 n0 nL cb sb (pc + 3) l' st S G) : AW κ δ ρ0 n0 nL cb sb pc l st S G := by
  obtain ⟨p, lc, e, R, s, m, args, below, meth, c, Q⟩ := κ
  obtain ⟨hx, hb, hml, hown, hts, hret, hlk, hK, hN, hA, htr⟩ := X
  intro ρ H locs ls h1 h2 h3 h4
  subst hl
  have hm : (i, cv ρ (vi x)) ∈ prs ρ l := prs_mem.mpr ⟨vi x, hx0, rfl⟩
  obtain ⟨j, hj⟩ := List.getElem?_of_mem hm
  exact lv_iinc (v := zI (x + n)) hx hb hd h4.has hj (by rw [zI_add]; rfl) hn rfl (fun ls' h' => k ρ H locs ls' h1 h2 h3 (h4.set1 (v := vi (x + n)) hn ho h'))
theorem a_iadd (X : CX κ δ own b nL ret) {x y : Int} (hd : decode b pc = .ok (.iadd, 1)) (k : AW κ δ ρ0 n0 nL cb sb (pc + 1) l (vi (x + y) :: st) S G) : AW κ δ ρ0 n0 nL cb sb pc l (vi y :: vi x :: st) S G := by
  obtain ⟨p, lc, e, R, s, m, args, below, meth, c, Q⟩ := κ
  obtain ⟨hx, hb, hml, hown, hts, hret, hlk, hK, hN, hA, htr⟩ := X
  intro ρ H locs ls h1 h2 h3 h4
  refine lv_iadd hx hb hd ?_
  rw [← zI_add]
  exact k ρ H locs ls h1 h2 h3 h4
theorem a_isub (X : CX κ δ own b nL ret) {x y : Int} (hd : decode b pc = .ok (.isub, 1)) (k : AW κ δ ρ0 n0 nL cb sb (pc + 1) l (vi (x - y) :: st) S G) : AW κ δ ρ0 n0 nL cb sb pc l (vi y :: vi x :: st) S G := by
  obtain ⟨p, lc, e, R, s, m, args, below, meth, c, Q⟩ := κ
  obtain ⟨hx, hb, hml, hown, hts, hret, hlk, hK, hN, hA, htr⟩ := X
  intro ρ H locs ls h1 h2 h3 h4
  refine lv_isub hx hb hd ?_
  rw [← zI_sub]
  exact k ρ H locs ls h1 h2 h3 h4
theorem a_imul (X : CX κ δ own b nL ret) {x y : Int} (hd : decode b pc = .ok (.imul, 1)) (k : AW κ δ ρ0 n0 nL cb sb (pc + 1) l (vi (x * y) :: st) S G) : AW κ δ ρ0 n0 nL cb sb pc l (vi y :: vi x :: st) S G := by
  obtain ⟨p, lc, e, R, s, m, args, below, meth, c, Q⟩ := κ
  obtain ⟨hx, hb, hml, hown, hts, hret, hlk, hK, hN, hA, htr⟩ := X
  intro ρ H locs ls h1 h2 h3 h4
  refine lv_imul hx hb hd ?_
  rw [← zI_mul]
  exact k ρ H locs ls h1 h2 h3 h4
theorem a_ladd (X : CX κ δ own b nL ret) {x y : Int} (hd : decode b pc = .ok (.ladd, 1)) (k : AW κ δ ρ0 n0 nL cb sb (pc + 1) l (vl (x + y) :: st) S G) : AW κ δ ρ0 n0 nL cb sb pc l (vl y :: vl x :: st) S G := by
  obtain ⟨p, lc, e, R, s, m, args, below, meth, c, Q⟩ := κ
  obtain ⟨hx, hb, hml, hown, hts, hret, hlk, hK, hN, hA, htr⟩ := X
  intro ρ H locs ls h1 h2 h3 h4
  refine lv_ladd hx hb hd ?_
  rw [← zL_add]
  exact k ρ H locs ls h1 h2 h3 h4
theorem a_lsub (X : CX κ δ own b nL ret) {x y : Int} (hd : decode b pc = .ok (.lsub, 1)) (k : AW κ δ ρ0 n0 nL cb sb (pc + 1) l (vl (x - y) :: st) S G) : AW κ δ ρ0 n0 nL cb sb pc l (vl y :: vl x :: st) S G := by
  obtain ⟨p, lc, e, R, s, m, args, below, meth, c, Q⟩ := κ
  obtain ⟨hx, hb, hml, hown, hts, hret, hlk, hK, hN, hA, htr⟩ := X
  intro ρ H locs ls h1 h2 h3 h4
  refine lv_lsub hx hb hd ?_
  rw [← zL_sub]
  exact k ρ H locs ls h1 h2 h3 h4
theorem a_lmul (X : CX κ δ own b nL ret) {x y : Int} (hd : decode b pc = .ok (.lmul, 1)) (k : AW κ δ ρ0 n0 nL cb sb (pc + 1) l (vl (x * y) :: st) S G) : AW κ δ ρ0 n0 nL cb sb pc l (vl y :: vl x :: st) S G := by
  obtain ⟨p, lc, e, R, s, m, args, below, meth, c, Q⟩ := κ
  obtain ⟨hx, hb, hml, hown, hts, hret, hlk, hK, hN, hA, htr⟩ := X
  intro ρ H locs ls h1 h2 h3 h4
  refine lv_lmul hx hb hd ?_
  rw [← zL_mul]
  exact k ρ H locs ls h1 h2 h3 h4
theorem a_idiv (X : CX κ δ own b nL ret) {x y : Int} (hd : decode b pc = .ok (.idiv, 1)) (hx0 : 0 ≤ x ∧ x ≤ 2147483647) (hy0 : 0 < y ∧ y ≤ 2147483647) (k : AW κ δ ρ0 n0 nL cb sb (pc + 1) l (vi (x / y) :: st) S G) : AW κ δ ρ0 n0 nL cb sb pc l (vi y :: vi x :: st) S G := by
  obtain ⟨p, lc, e, R, s, m, args, below, meth, c, Q⟩ := κ
  obtain ⟨hx, hb, hml, hown, hts, hret, hlk, hK, hN, hA, htr⟩ := X
  intro ρ H locs ls h1 h2 h3 h4
  refine lv_idiv hx hb hd (fun h => ?_) ?_
  · rw [← zI_0, zI_eq ⟨by omega, by omega⟩ ⟨by omega, by omega⟩] at h; omega
  · rw [← zI_div hx0 hy0]; exact k ρ H locs ls h1 h2 h3 h4
theorem a_irem (X : CX κ δ own b nL ret) {x y : Int} (hd : decode b pc = .ok (.irem, 1)) (hx0 : 0 ≤ x ∧ x ≤ 2147483647) (hy0 : 0 < y ∧ y ≤ 2147483647) (k : AW κ δ ρ0 n0 nL cb sb (pc + 1) l (vi (x % y) :: st) S G) : AW κ δ ρ0 n0 nL cb sb pc l (vi y :: vi x :: st) S G := by
  obtain ⟨p, lc, e, R, s, m, args, below, meth, c, Q⟩ := κ
  obtain ⟨hx, hb, hml, hown, hts, hret, hlk, hK, hN, hA, htr⟩ := X
  intro ρ H locs ls h1 h2 h3 h4
  refine lv_irem hx hb hd (fun h => ?_) ?_
  · rw [← zI_0, zI_eq ⟨by omega, by omega⟩ ⟨by omega, by omega⟩] at h; omega
  · rw [← zI_rem hx0 hy0]; exact k ρ H locs ls h1 h2 h3 h4
theorem a_iand (X : CX κ δ own b nL ret) {x y : Nat} (hd : decode b pc = .ok (.iand, 1)) (k : AW κ δ ρ0 n0 nL cb sb (pc + 1) l (vi ((x &&& y : Nat) : Int) :: st) S G) : AW κ δ ρ0 n0 nL cb sb pc l (vi (y : Int) :: vi (x : Int) :: st) S G := by
  obtain ⟨p, lc, e, R, s, m, args, below, meth, c, Q⟩ := κ
  obtain ⟨hx, hb, hml, hown, hts, hret, hlk, hK, hN, hA, htr⟩ := X
  intro ρ H locs ls h1 h2 h3 h4
  refine lv_iand hx hb hd ?_
  have e : zI (x : Int) &&& zI (y : Int) = zI ((x &&& y : Nat) : Int) := zI_and x y
  show W _ _ _ _ _ _ _ _ _ _ _ _ _ _ _ (F0 _ _ _ (.int (zI (x : Int) &&& zI (y : Int)) :: _))
  rw [e]
  exact k ρ H locs ls h1 h2 h3 h4
theorem a_ior (X : CX κ δ own b nL ret) {x y : Nat} (hd : decode b pc = .ok (.ior, 1)) (k : AW κ δ ρ0 n0 nL cb sb (pc + 1) l (vi ((x ||| y : Nat) : Int) :: st) S G) : AW κ δ ρ0 n0 nL cb sb pc l (vi (y : Int) :: vi (x : Int) :: st) S G := by
  obtain ⟨p, lc, e, R, s, m, args, below, meth, c, Q⟩ := κ
  obtain ⟨hx, hb, hml, hown, hts, hret, hlk, hK, hN, hA, htr⟩ := X
  intro ρ H locs ls h1 h2 h3 h4
  refine lv_ior hx hb hd ?_
  show W _ _ _ _ _ _ _ _ _ _ _ _ _ _ _ (F0 _ _ _ (.int (zI (x : Int) ||| zI (y : Int)) :: _))
  rw [zI_or x y]
  exact k ρ H locs ls h1 h2 h3 h4
theorem a_ishl (X : CX κ δ own b nL ret) {x y : Nat} (hd : decode b pc = .ok (.ishl, 1)) (hy : y < 32) (k : AW κ δ ρ0 n0 nL cb sb (pc + 1) l (vi ((x * 2 ^ y : Nat) : Int) :: st) S G) : AW κ δ ρ0 n0 nL cb sb pc l (vi (y : Int) :: vi (x : Int) :: st) S G := by
  obtain ⟨p, lc, e, R, s, m, args, below, meth, c, Q⟩ := κ
  obtain ⟨hx, hb, hml, hown, hts, hret, hlk, hK, hN, hA, htr⟩ := X
  intro ρ H locs ls h1 h2 h3 h4
  refine lv_ishl hx hb hd ?_
  show W _ _ _ _ _ _ _ _ _ _ _ _ _ _ _ (F0 _ _ _ (.int (zI (x : Int) <<< (zI (y : Int) &&& 31)) :: _))
  rw [zI_shl x hy]
  exact k ρ H locs ls h1 h2 h3 h4
theorem a_ishr (X : CX κ δ own b nL ret) {x y : Nat} (hd : decode b pc = .ok (.ishr, 1)) (hx0 : x < 2147483648) (hy : y < 32) (k : AW κ δ ρ0 n0 nL cb sb (pc + 1) l (vi ((x / 2 ^ y : Nat) : Int) :: st) S G) : AW κ δ ρ0 n0 nL cb sb pc l (vi (y : Int) :: vi (x : Int) :: st) S G := by
  obtain ⟨p, lc, e, R, s, m, args, below, meth, c, Q⟩ := κ
  obtain ⟨hx, hb, hml, hown, hts, hret, hlk, hK, hN, hA, htr⟩ := X
  intro ρ H locs ls h1 h2 h3 h4
  refine lv_ishr hx hb hd ?_
  show W _ _ _ _ _ _ _ _ _ _ _ _ _ _ _ (F0 _ _ _ (.int (zI (x : Int) >>> (zI (y : Int) &&& 31)) :: _))
  rw [zI_shr hx0 hy]
  exact k ρ H locs ls h1 h2 h3 h4
theorem a_i2l (X : CX κ δ own b nL ret) {x : Int} (hd : decode b pc = .ok (.i2l, 1)) (hx0 : inR x) (k : AW κ δ ρ0 n0 nL cb sb (pc + 1) l (vl x :: st) S G) : AW κ δ ρ0 n0 nL cb sb pc l (vi x :: st) S G := by
  obtain ⟨p, lc, e, R, s, m, args, below, meth, c, Q⟩ := κ
  obtain ⟨hx, hb, hml, hown, hts, hret, hlk, hK, hN, hA, htr⟩ := X
  intro ρ H locs ls h1 h2 h3 h4
  exact lv_i2l hx hb hd (zI_i2l hx0) (k ρ H locs ls h1 h2 h3 h4)
theorem a_l2i (X : CX κ δ own b nL ret) {x : Int} (hd : decode b pc = .ok (.l2i, 1)) (hx0 : inR x) (k : AW κ δ ρ0 n0 nL cb sb (pc + 1) l (vi x :: st) S G) : AW κ δ ρ0 n0 nL cb sb pc l (vl x :: st) S G := by
  obtain ⟨p, lc, e, R, s, m, args, below, meth, c, Q⟩ := κ
  obtain ⟨hx, hb, hml, hown, hts, hret, hlk, hK, hN, hA, htr⟩ := X
  intro ρ H locs ls h1 h2 h3 h4
  exact lv_l2i hx hb hd (zL_l2i hx0) (k ρ H locs ls h1 h2 h3 h4)
theorem a_i2b (X : CX κ δ own b nL ret) {x : Int} (y : Int) (hd : decode b pc = .ok (.i2b, 1)) (hy : (zI x).toInt8.toInt32 = zI y) (k : AW κ δ ρ0 n0 nL cb sb (pc + 1) l (vi y :: st) S G) : AW κ δ ρ0 n0 nL cb sb pc l (vi x :: st) S G := by
  obtain ⟨p, lc, e, R, s, m, args, below, meth, c, Q⟩ := κ
  obtain ⟨hx, hb, hml, hown, hts, hret, hlk, hK, hN, hA, htr⟩ := X
  intro ρ H locs ls h1 h2 h3 h4
  exact lv_i2b hx hb hd hy (k ρ H locs ls h1 h2 h3 h4)
theorem a_lcmp (X : CX κ δ own b nL ret) {x y : Int} (hd : decode b pc = .ok (.lcmp, 1)) (hx0 : inL x) (hy0 : inL y) (k : AW κ δ ρ0 n0 nL cb sb (pc + 1) l (vi (if y < x then 1 else if x = y then 0 else -1) :: st) S G) : AW κ δ ρ0 n0 nL cb sb pc l (vl y :: vl x :: st) S G := by
  obtain ⟨p, lc, e, R, s, m, args, below, meth, c, Q⟩ := κ
  obtain ⟨hx, hb, hml, hown, hts, hret, hlk, hK, hN, hA, htr⟩ := X
  intro ρ H locs ls h1 h2 h3 h4
  refine W.lcmp hx hb hd ?_
  rw [← zL_cmp hx0 hy0]
  exact k ρ H locs ls h1 h2 h3 h4
theorem a_land (X : CX κ δ own b nL ret) {x y : Int} (z : Int) (hd : decode b pc = .ok (.land, 1)) (hz : zL x &&& zL y = zL z) (k : AW κ δ ρ0 n0 nL cb sb (pc + 1) l (vl z :: st) S G) : AW κ δ ρ0 n0 nL cb sb pc l (vl y :: vl x :: st) S G := by
  obtain ⟨p, lc, e, R, s, m, args, below, meth, c, Q⟩ := κ
  obtain ⟨hx, hb, hml, hown, hts, hret, hlk, hK, hN, hA, htr⟩ := X
  intro ρ H locs ls h1 h2 h3 h4
  refine lv_land hx hb hd ?_
  rw [hz]
  exact k ρ H locs ls h1 h2 h3 h4
theorem a_lor (X : CX κ δ own b nL ret) {x y : Int} (z : Int) (hd : decode b pc = .ok (.lor, 1)) (hz : zL x ||| zL y = zL z) (k : AW κ δ ρ0 n0 nL cb sb (pc + 1) l (vl z :: st) S G) : AW κ δ ρ0 n0 nL cb sb pc l (vl y :: vl x :: st) S G := by
  obtain ⟨p, lc, e, R, s, m, args, below, meth, c, Q⟩ := κ
  obtain ⟨hx, hb, hml, hown, hts, hret, hlk, hK, hN, hA, htr⟩ := X
  intro ρ H locs ls h1 h2 h3 h4
  refine lv_lor hx hb hd ?_
  rw [hz]
  exact k ρ H locs ls h1 h2 h3 h4
theorem a_lshr (X : CX κ δ own b nL ret) {x y : Int} (z : Int) (hd : decode b pc = .ok (.lshr, 1)) (hz : zL x >>> ((zI y).toInt64 &&& 63) = zL z) (k : AW κ δ ρ0 n0 nL cb sb (pc + 1) l (vl z :: st) S G) : AW κ δ ρ0 n0 nL cb sb pc l (vi y :: vl x :: st) S G := by
  obtain ⟨p, lc, e, R, s, m, args, below, meth, c, Q⟩ := κ
  obtain ⟨hx, hb, hml, hown, hts, hret, hlk, hK, hN, hA, htr⟩ := X
  intro ρ H locs ls h1 h2 h3 h4
  exact lv_lshr hx hb hd hz (k ρ H locs ls h1 h2 h3 h4)
theorem a_lushr (X : CX κ δ own b nL ret) {x y : Int} (z : Int) (hd : decode b pc = .ok (.lushr, 1)) (hz : ((zL x).toUInt64 >>> ((zI y).toInt64.toUInt64 &&& Int64.toUInt64 63)).toInt64 = zL z) (k : AW κ δ ρ0 n0 nL cb sb (pc + 1) l (vl z :: st) S G) : AW κ δ ρ0 n0 nL cb sb pc l (vi y :: vl x :: st) S G := by
  obtain ⟨p, lc, e, R, s, m, args, below, meth, c, Q⟩ := κ
  obtain ⟨hx, hb, hml, hown, hts, hret, hlk, hK, hN, hA, htr⟩ := X
  intro ρ H locs ls h1 h2 h3 h4
  exact lv_lushr hx hb hd hz (k ρ H locs ls h1 h2 h3 h4)
theorem a_lshl (X : CX κ δ own b nL ret) {x y : Int} (z : Int) (hd : decode b pc = .ok (.lshl, 1)) (hz : zL x <<< ((zI y).toInt64 &&& 63) = zL z) (k : AW κ δ ρ0 n0 nL cb sb (pc + 1) l (vl z :: st) S G) : AW κ δ ρ0 n0 nL cb sb pc l (vi y :: vl x :: st) S G := by
  obtain ⟨p, lc, e, R, s, m, args, below, meth, c, Q⟩ := κ
  obtain ⟨hx, hb, hml, hown, hts, hret, hlk, hK, hN, hA, htr⟩ := X
  intro ρ H locs ls h1 h2 h3 h4
  exact lv_lshl hx hb hd hz (k ρ H locs ls h1 h2 h3 h4)
theorem a_i2f (X : CX κ δ own b nL ret) {x : Int} (hd : decode b pc = .ok (.i2f, 1)) (k : AW κ δ ρ0 n0 nL cb sb (pc + 1) l (vf (FP.i2f (zI x)) :: st) S G) : AW κ δ ρ0 n0 nL cb sb pc l (vi x :: st) S G := by
  obtain ⟨p, lc, e, R, s, m, args, below, meth, c, Q⟩ := κ
  obtain ⟨hx, hb, hml, hown, hts, hret, hlk, hK, hN, hA, htr⟩ := X
  intro ρ H locs ls h1 h2 h3 h4
  exact lv_i2f hx hb hd (k ρ H locs ls h1 h2 h3 h4)
theorem a_i2d (X : CX κ δ own b nL ret) {x : Int} (hd : decode b pc = .ok (.i2d, 1)) (k : AW κ δ ρ0 n0 nL cb sb (pc + 1) l (vd (FP.i2d (zI x)) :: st) S G) : AW κ δ ρ0 n0 nL cb sb pc l (vi x :: st) S G := by
  obtain ⟨p, lc, e, R, s, m, args, below, meth, c, Q⟩ := κ
  obtain ⟨hx, hb, hml, hown, hts, hret, hlk, hK, hN, hA, htr⟩ := X
  intro ρ H locs ls h1 h2 h3 h4
  exact lv_i2d hx hb hd (k ρ H locs ls h1 h2 h3 h4)
theorem a_fdiv (X : CX κ δ own b nL ret) {x y : UInt32} (hd : decode b pc = .ok (.fdiv, 1)) (hne : vf_n32 (FP.fdiv x y)) (k : AW κ δ ρ0 n0 nL cb sb (pc + 1) l (vf (FP.fdiv x y) :: st) S G) : AW κ δ ρ0 n0 nL cb sb pc l (vf y :: vf x :: st) S G := by
  obtain ⟨p, lc, e, R, s, m, args, below, meth, c, Q⟩ := κ
  obtain ⟨hx, hb, hml, hown, hts, hret, hlk, hK, hN, hA, htr⟩ := X
  intro ρ H locs ls h1 h2 h3 h4
  exact lv_fdiv hx hb hd hne (k ρ H locs ls h1 h2 h3 h4)
theorem a_ddiv (X : CX κ δ own b nL ret) {x y : UInt64} (hd : decode b pc = .ok (.ddiv, 1)) (hne : vf_n64 (FP.ddiv x y)) (k : AW κ δ ρ0 n0 nL cb sb (pc + 1) l (vd (FP.ddiv x y) :: st) S G) : AW κ δ ρ0 n0 nL cb sb pc l (vd y :: vd x :: st) S G := by
  obtain ⟨p, lc, e, R, s, m, args, below, meth, c, Q⟩ := κ
  obtain ⟨hx, hb, hml, hown, hts, hret, hlk, hK, hN, hA, htr⟩ := X
  intro ρ H locs ls h1 h2 h3 h4
  exact lv_ddiv hx hb hd hne (k ρ H locs ls h1 h2 h3 h4)
theorem a_f2d (X : CX κ δ own b nL ret) {x : UInt32} (hd : decode b pc = .ok (.f2d, 1)) (hne : vf_n64 (FP.f2d x)) (k : AW κ δ ρ0 n0 nL cb sb (pc + 1) l (vd (FP.f2d x) :: st) S G) : AW κ δ ρ0 n0 nL cb sb pc l (vf x :: st) S G := by
  obtain ⟨p, lc, e, R, s, m, args, below, meth, c, Q⟩ := κ
  obtain ⟨hx, hb, hml, hown, hts, hret, hlk, hK, hN, hA, htr⟩ := X
  intro ρ H locs ls h1 h2 h3 h4
  exact lv_f2d hx hb hd hne (k ρ H locs ls h1 h2 h3 h4)
theorem a_dcmp (X : CX κ δ own b nL ret) {x y : UInt64} {op : CmpOp} (z : Int) (hd : decode b pc = .ok (.dcmp op, 1)) (hz : Op.cmpValue (FP.dcmp x y) op = zI z) (k : AW κ δ ρ0 n0 nL cb sb (pc + 1) l (vi z :: st) S G) : AW κ δ ρ0 n0 nL cb sb pc l (vd y :: vd x :: st) S G := by
  obtain ⟨p, lc, e, R, s, m, args, below, meth, c, Q⟩ := κ
  obtain ⟨hx, hb, hml, hown, hts, hret, hlk, hK, hN, hA, htr⟩ := X
  intro ρ H locs ls h1 h2 h3 h4
  refine lv_dcmp hx hb hd ?_
  rw [hz]
  exact k ρ H locs ls h1 h2 h3 h4
theorem a_dup (X : CX κ δ own b nL ret) {v : AV} (hd : decode b pc = .ok (.dup, 1)) (hv : cat2 (some v) = false) (k : AW κ δ ρ0 n0 nL cb sb (pc + 1) l (v :: v :: st) S G) : AW κ δ ρ0 n0 nL cb sb pc l (v :: st) S G := by
  obtain ⟨p, lc, e, R, s, m, args, below, meth, c, Q⟩ := κ
  obtain ⟨hx, hb, hml, hown, hts, hret, hlk, hK, hN, hA, htr⟩ := X
  intro ρ H locs ls h1 h2 h3 h4
  exact lv_dup hx hb hd (cat1_of hv) (k ρ H locs ls h1 h2 h3 h4)
theorem a_pop (X : CX κ δ own b nL ret) {v : AV} (hd : decode b pc = .ok (.pop, 1)) (hv : cat2 (some v) = false) (k : AW κ δ ρ0 n0 nL cb sb (pc + 1) l st S G) : AW κ δ ρ0 n0 nL cb sb pc l (v :: st) S G := by
  obtain ⟨p, lc, e, R, s, m, args, below, meth, c, Q⟩ := κ
  obtain ⟨hx, hb, hml, hown, hts, hret, hlk, hK, hN, hA, htr⟩ := X
  intro ρ H locs ls h1 h2 h3 h4
  exact lv_pop hx hb hd (cat1_of hv) (k ρ H locs ls h1 h2 h3 h4)
theorem a_dup2 (X : CX κ δ own b nL ret) {v w : AV} (hd : decode b pc = .ok (.dup2, 1)) (hv : cat2 (some v) = false) (hw : cat2 (some w) = false) (k : AW κ δ ρ0 n0 nL cb sb (pc + 1) l (v :: w :: v :: w :: st) S G) : AW κ δ ρ0 n0 nL cb sb pc l (v :: w :: st) S G := by
  obtain ⟨p, lc, e, R, s, m, args, below, meth, c, Q⟩ := κ
  obtain ⟨hx, hb, hml, hown, hts, hret, hlk, hK, hN, hA, htr⟩ := X
  intro ρ H locs ls h1 h2 h3 h4
  exact lv_dup2_11 hx hb hd (cat1_of hv) (cat1_of hw) (k ρ H locs ls h1 h2 h3 h4)
theorem a_icmp_eq (X : CX κ δ own b nL ret) {x y off : Int} {tgt : Nat} (hd : decode b pc = .ok (.if_icmp .eq off, 3)) (ht : (pc : Int) + off = (tgt : Int)) (hx0 : inR x) (hy0 : inR y) (kt : x = y → AW κ δ ρ0 n0 nL cb sb tgt l st S G) (kf : x ≠ y → AW κ δ ρ0 n0 nL cb sb (pc + 3) l st S G) : AW κ δ ρ0 n0 nL cb sb pc l (vi y :: vi x :: st) S G := by
  obtain ⟨p, lc, e, R, s, m, args, below, meth, c, Q⟩ := κ
  obtain ⟨hx, hb, hml, hown, hts, hret, hlk, hK, hN, hA, htr⟩ := X
  intro ρ H locs ls h1 h2 h3 h4
  refine lv_icmp_eq hx hb hd ht (fun h => kt (zc_eq_t hx0 hy0 h) ρ H locs ls h1 h2 h3 h4) (fun h => kf (zc_eq_f hx0 hy0 h) ρ H locs ls h1 h2 h3 h4)
theorem a_if_eq (X : CX κ δ own b nL ret) {x off : Int} {tgt : Nat} (hd : decode b pc = .ok (.ifCond .eq off, 3)) (ht : (pc : Int) + off = (tgt : Int)) (hx0 : inR x) (kt : x = 0 → AW κ δ ρ0 n0 nL cb sb tgt l st S G) (kf : x ≠ 0 → AW κ δ ρ0 n0 nL cb sb (pc + 3) l st S G) : AW κ δ ρ0 n0 nL cb sb pc l (vi x :: st) S G := by
  obtain ⟨p, lc, e, R, s, m, args, below, meth, c, Q⟩ := κ
  obtain ⟨hx, hb, hml, hown, hts, hret, hlk, hK, hN, hA, htr⟩ := X
  intro ρ H locs ls h1 h2 h3 h4
  refine lv_if_eq hx hb hd ht (fun h => kt (zc_eq_t hx0 inR_0 h) ρ H locs ls h1 h2 h3 h4) (fun h => kf (zc_eq_f hx0 inR_0 h) ρ H locs ls h1 h2 h3 h4)
theorem a_icmp_ne (X : CX κ δ own b nL ret) {x y off : Int} {tgt : Nat} (hd : decode b pc = .ok (.if_icmp .ne off, 3)) (ht : (pc : Int) + off = (tgt : Int)) (hx0 : inR x) (hy0 : inR y) (kt : x ≠ y → AW κ δ ρ0 n0 nL cb sb tgt l st S G) (kf : x = y → AW κ δ ρ0 n0 nL cb sb (pc + 3) l st S G) : AW κ δ ρ0 n0 nL cb sb pc l (vi y :: vi x :: st) S G := by
  obtain ⟨p, lc, e, R, s, m, args, below, meth, c, Q⟩ := κ
  obtain ⟨hx, hb, hml, hown, hts, hret, hlk, hK, hN, hA, htr⟩ := X
  intro ρ H locs ls h1 h2 h3 h4
  refine lv_icmp_ne hx hb hd ht (fun h => kt (zc_ne_t hx0 hy0 h) ρ H locs ls h1 h2 h3 h4) (fun h => kf (zc_ne_f hx0 hy0 h) ρ H locs ls h1 h2 h3 h4)
theorem a_if_ne (X : CX κ δ own b nL ret) {x off : Int} {tgt : Nat} (hd : decode b pc = .ok (.ifCond .ne off, 3)) (ht : (pc : Int) + off = (tgt : Int)) (hx0 : inR x) (kt : x ≠ 0 → AW κ δ ρ0 n0 nL cb sb tgt l st S G) (kf : x = 0 → AW κ δ ρ0 n0 nL cb sb (pc + 3) l st S G) : AW κ δ ρ0 n0 nL cb sb pc l (vi x :: st) S G := by
  obtain ⟨p, lc, e, R, s, m, args, below, meth, c, Q⟩ := κ
  obtain ⟨hx, hb, hml, hown, hts, hret, hlk, hK, hN, hA, htr⟩ := X
  intro ρ H locs ls h1 h2 h3 h4
  refine lv_if_ne hx hb hd ht (fun h => kt (zc_ne_t hx0 inR_0 h) ρ H locs ls h1 h2 h3 h4) (fun h => kf (zc_ne_f hx0 inR_0 h) ρ H locs ls h1 h2 h3 h4)
theorem a_icmp_lt (X : CX κ δ own b nL ret) {x y off : Int} {tgt : Nat} (hd : decode b pc = .ok (.if_icmp .lt off, 3)) (ht : (pc : Int) + off = (tgt : Int)) (hx0 : inR x) (hy0 : inR y) (kt : x < y → AW κ δ ρ0 n0 nL cb sb tgt l st S G) (kf : y ≤ x → AW κ δ ρ0 n0 nL cb sb (pc + 3) l st S G) : AW κ δ ρ0 n0 nL cb sb pc l (vi y :: vi x :: st) S G := by
  obtain ⟨p, lc, e, R, s, m, args, below, meth, c, Q⟩ := κ
  obtain ⟨hx, hb, hml, hown, hts, hret, hlk, hK, hN, hA, htr⟩ := X
  intro ρ H locs ls h1 h2 h3 h4
  refine lv_icmp_lt hx hb hd ht (fun h => kt (zc_lt_t hx0 hy0 h) ρ H locs ls h1 h2 h3 h4) (fun h => kf (zc_lt_f hx0 hy0 h) ρ H locs ls h1 h2 h3 h4)
theorem a_if_lt (X : CX κ δ own b nL ret) {x off : Int} {tgt : Nat} (hd : decode b pc = .ok (.ifCond .lt off, 3)) (ht : (pc : Int) + off = (tgt : Int)) (hx0 : inR x) (kt : x < 0 → AW κ δ ρ0 n0 nL cb sb tgt l st S G) (kf : 0 ≤ x → AW κ δ ρ0 n0 nL cb sb (pc + 3) l st S G) : AW κ δ ρ0 n0 nL cb sb pc l (vi x :: st) S G := by
  obtain ⟨p, lc, e, R, s, m, args, below, meth, c, Q⟩ := κ
  obtain ⟨hx, hb, hml, hown, hts, hret, hlk, hK, hN, hA, htr⟩ := X
  intro ρ H locs ls h1 h2 h3 h4
  refine lv_if_lt hx hb hd ht (fun h => kt (zc_lt_t hx0 inR_0 h) ρ H locs ls h1 h2 h3 h4) (fun h => kf (zc_lt_f hx0 inR_0 h) ρ H locs ls h1 h2 h3 h4)
theorem a_icmp_ge (X : CX κ δ own b nL ret) {x y off : Int} {tgt : Nat} (hd : decode b pc = .ok (.if_icmp .ge off, 3)) (ht : (pc : Int) + off = (tgt : Int)) (hx0 : inR x) (hy0 : inR y) (kt : y ≤ x → AW κ δ ρ0 n0 nL cb sb tgt l st S G) (kf : x < y → AW κ δ ρ0 n0 nL cb sb (pc + 3) l st S G) : AW κ δ ρ0 n0 nL cb sb pc l (vi y :: vi x :: st) S G := by
  obtain ⟨p, lc, e, R, s, m, args, below, meth, c, Q⟩ := κ
  obtain ⟨hx, hb, hml, hown, hts, hret, hlk, hK, hN, hA, htr⟩ := X
  intro ρ H locs ls h1 h2 h3 h4
  refine lv_icmp_ge hx hb hd ht (fun h => kt (zc_ge_t hx0 hy0 h) ρ H locs ls h1 h2 h3 h4) (fun h => kf (zc_ge_f hx0 hy0 h) ρ H locs ls h1 h2 h3 h4)
theorem a_if_ge (X : CX κ δ own b nL ret) {x off : Int} {tgt : Nat} (hd : decode b pc = .ok (.ifCond .ge off, 3)) (ht : (pc : Int) + off = (tgt : Int)) (hx0 : inR x) (kt : 0 ≤ x → AW κ δ ρ0 n0 nL cb sb tgt l st S G) (kf : x < 0 → AW κ δ ρ0 n0 nL cb sb (pc + 3) l st S G) : AW κ δ ρ0 n0 nL cb sb pc l (vi x :: st) S G := by
  obtain ⟨p, lc, e, R, s, m, args, below, meth, c, Q⟩ := κ
  obtain ⟨hx, hb, hml, hown, hts, hret, hlk, hK, hN, hA, htr⟩ := X
  intro ρ H locs ls h1 h2 h3 h4
  refine lv_if_ge hx hb hd ht (fun h => kt (zc_ge_t hx0 inR_0 h) ρ H locs ls h1 h2 h3 h4) (fun h => kf (zc_ge_f hx0 inR_0 h) ρ H locs ls h1 h2 h3 h4)
theorem a_icmp_gt (X : CX κ δ own b nL ret) {x y off : Int} {tgt : Nat} (hd : decode b pc = .ok (.if_icmp .gt off, 3)) (ht : (pc : Int) + off = (tgt : Int)) (hx0 : inR x) (hy0 : inR y) (kt : y < x → AW κ δ ρ0 n0 nL cb sb tgt l st S G) (kf : x ≤ y → AW κ δ ρ0 n0 nL cb sb (pc + 3) l st S G) : AW κ δ ρ0 n0 nL cb sb pc l (vi y :: vi x :: st) S G := by
  obtain ⟨p, lc, e, R, s, m, args, below, meth, c, Q⟩ := κ
  obtain ⟨hx, hb, hml, hown, hts, hret, hlk, hK, hN, hA, htr⟩ := X
  intro ρ H locs ls h1 h2 h3 h4
  refine lv_icmp_gt hx hb hd ht (fun h => kt (zc_gt_t hx0 hy0 h) ρ H locs ls h1 h2 h3 h4) (fun h => kf (zc_gt_f hx0 hy0 h) ρ H locs ls h1 h2 h3 h4)
theorem a_if_gt (X : CX κ δ own b nL ret) {x off : Int} {tgt : Nat} (hd : decode b pc = .ok (.ifCond .gt off, 3)) (ht : (pc : Int) + off = (tgt : Int)) (hx0 : inR x) (kt : 0 < x → AW κ δ ρ0 n0 nL cb sb tgt l st S G) (kf : x ≤ 0 → AW κ δ ρ0 n0 nL cb sb (pc + 3) l st S G) : AW κ δ ρ0 n0 nL cb sb pc l (vi x :: st) S G := by
  obtain ⟨p, lc, e, R, s, m, args, below, meth, c, Q⟩ := κ
  obtain ⟨hx, hb, hml, hown, hts, hret, hlk, hK, hN, hA, htr⟩ := X
  intro ρ H locs ls h1 h2 h3 h4
  refine lv_if_gt hx hb hd ht (fun h => kt (zc_gt_t hx0 inR_0 h) ρ H locs ls h1 h2 h3 h4) (fun h => kf (zc_gt_f hx0 inR_0 h) ρ H locs ls h1 h2 h3 h4)
theorem a_icmp_le (X : CX κ δ own b nL ret) {x y off : Int} {tgt : Nat} (hd : decode b pc = .ok (.if_icmp .le off, 3)) (ht : (pc : Int) + off = (tgt : Int)) (hx0 : inR x) (hy0 : inR y) (kt : x ≤ y → AW κ δ ρ0 n0 nL cb sb tgt l st S G) (kf : y < x → AW κ δ ρ0 n0 nL cb sb (pc + 3) l st S G) : AW κ δ ρ0 n0 nL cb sb pc l (vi y :: vi x :: st) S G := by
  obtain ⟨p, lc, e, R, s, m, args, below, meth, c, Q⟩ := κ
  obtain ⟨hx, hb, hml, hown, hts, hret, hlk, hK, hN, hA, htr⟩ := X
  intro ρ H locs ls h1 h2 h3 h4
  refine lv_icmp_le hx hb hd ht (fun h => kt (zc_le_t hx0 hy0 h) ρ H locs ls h1 h2 h3 h4) (fun h => kf (zc_le_f hx0 hy0 h) ρ H locs ls h1 h2 h3 h4)
theorem a_if_le (X : CX κ δ own b nL ret) {x off : Int} {tgt : Nat} (hd : decode b pc = .ok (.ifCond .le off, 3)) (ht : (pc : Int) + off = (tgt : Int)) (hx0 : inR x) (kt : x ≤ 0 → AW κ δ ρ0 n0 nL cb sb tgt l st S G) (kf : 0 < x → AW κ δ ρ0 n0 nL cb sb (pc + 3) l st S G) : AW κ δ ρ0 n0 nL cb sb pc l (vi x :: st) S G := by
  obtain ⟨p, lc, e, R, s, m, args, below, meth, c, Q⟩ := κ
  obtain ⟨hx, hb, hml, hown, hts, hret, hlk, hK, hN, hA, htr⟩ := X
  intro ρ H locs ls h1 h2 h3 h4
  refine lv_if_le hx hb hd ht (fun h => kt (zc_le_t hx0 inR_0 h) ρ H locs ls h1 h2 h3 h4) (fun h => kf (zc_le_f hx0 inR_0 h) ρ H locs ls h1 h2 h3 h4)
theorem a_goto (X : CX κ δ own b nL ret) {off : Int} {tgt : Nat} (hd : decode b pc = .ok (.goto off, 3)) (ht : (pc : Int) + off = (tgt : Int)) (k : AW κ δ ρ0 n0 nL cb sb tgt l st S G) : AW κ δ ρ0 n0 nL cb sb pc l st S G := by
  obtain ⟨p, lc, e, R, s, m, args, below, meth, c, Q⟩ := κ
  obtain ⟨hx, hb, hml, hown, hts, hret, hlk, hK, hN, hA, htr⟩ := X
  intro ρ H locs ls h1 h2 h3 h4
  exact lv_goto hx hb hd ht (k ρ H locs ls h1 h2 h3 h4)
theorem a_tableIn (X : CX κ δ own b nL ret) {x dflt lo hi off : Int} {offs : Array Int} {len tgt : Nat} (hd : decode b pc = .ok (.tableswitch dflt lo hi offs, len)) (hx0 : inR x) (h1 : lo ≤ x) (h2 : x ≤ hi) (ho : offs[(x - lo).toNat]? = some off) (ht : (pc : Int) + off = (tgt : Int)) (k : AW κ δ ρ0 n0 nL cb sb tgt l st S G) : AW κ δ ρ0 n0 nL cb sb pc l (vi x :: st) S G := by
  obtain ⟨p, lc, e, R, s, m, args, below, meth, c, Q⟩ := κ
  obtain ⟨hx, hb, hml, hown, hts, hret, hlk, hK, hN, hA, htr⟩ := X
  intro ρ H locs ls q1 q2 q3 q4
  exact lv_tableIn hx hb hd (by rw [zI_toInt hx0]; omega) (by rw [zI_toInt hx0]; omega) (by rw [zI_toInt hx0]; exact ho) ht (k ρ H locs ls q1 q2 q3 q4)
theorem a_tableOut (X : CX κ δ own b nL ret) {x dflt lo hi : Int} {offs : Array Int} {len tgt : Nat} (hd : decode b pc = .ok (.tableswitch dflt lo hi offs, len)) (hx0 : inR x) (h1 : x < lo ∨ hi < x) (ht : (pc : Int) + dflt = (tgt : Int)) (k : AW κ δ ρ0 n0 nL cb sb tgt l st S G) : AW κ δ ρ0 n0 nL cb sb pc l (vi x :: st) S G := by
  obtain ⟨p, lc, e, R, s, m, args, below, meth, c, Q⟩ := κ
  obtain ⟨hx, hb, hml, hown, hts, hret, hlk, hK, hN, hA, htr⟩ := X
  intro ρ H locs ls q1 q2 q3 q4
  exact lv_tableOut hx hb hd (by rw [zI_toInt hx0]; exact h1) ht (k ρ H locs ls q1 q2 q3 q4)
theorem a_lookup (X : CX κ δ own b nL ret) {x dflt off : Int} {ps : Array (Int × Int)} {len tgt : Nat} (hd : decode b pc = .ok (.lookupswitch dflt ps, len)) (hx0 : inR x) (hp : (ps.toList.zip (ps.toList.drop 1)).all (fun (a, next) => a.1 < next.1) = true) (ho : Op.lookupswitch.offset ps.toList dflt x = off) (ht : (pc : Int) + off = (tgt : Int)) (k : AW κ δ ρ0 n0 nL cb sb tgt l st S G) : AW κ δ ρ0 n0 nL cb sb pc l (vi x :: st) S G := by
  obtain ⟨p, lc, e, R, s, m, args, below, meth, c, Q⟩ := κ
  obtain ⟨hx, hb, hml, hown, hts, hret, hlk, hK, hN, hA, htr⟩ := X
  intro ρ H locs ls h1 h2 h3 h4
  exact lv_lookup hx hb hd hp (by rw [zI_toInt hx0]; exact ho) ht (k ρ H locs ls h1 h2 h3 h4)
end ROWS1
