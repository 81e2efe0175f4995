-- ===== more rows: a local is forgotten, bits of any ints, results of calls, loops, joins =====
def zAnd (x y : Int) : Int := (zI x &&& zI y).toInt
def zOr (x y : Int) : Int := (zI x ||| zI y).toInt
def zShl (x y : Int) : Int := (zI x <<< (zI y &&& 31)).toInt
def zShr (x y : Int) : Int := (zI x >>> (zI y &&& 31)).toInt
def zByte (x : Int) : Int := (zI x).toInt8.toInt32.toInt
def lAnd (x y : Int) : Int := (zL x &&& zL y).toInt
def lOr (x y : Int) : Int := (zL x ||| zL y).toInt
def lShl (x y : Int) : Int := (zL x <<< ((zI y).toInt64 &&& 63)).toInt
def lShr (x y : Int) : Int := (zL x >>> ((zI y).toInt64 &&& 63)).toInt
def lUshr (x y : Int) : Int := (((zL x).toUInt64 >>> ((zI y).toInt64.toUInt64 &&& Int64.toUInt64 63)).toInt64).toInt
theorem inR_zAnd {x y : Int} : inR (zAnd x y) := inR_toInt _
theorem inR_zOr {x y : Int} : inR (zOr x y) := inR_toInt _
theorem inR_zShl {x y : Int} : inR (zShl x y) := inR_toInt _
theorem inR_zShr {x y : Int} : inR (zShr x y) := inR_toInt _
theorem inR_zByte {x : Int} : inR (zByte x) := inR_toInt _
theorem inL_lAnd {x y : Int} : inL (lAnd x y) := inL_toInt _
theorem inL_lOr {x y : Int} : inL (lOr x y) := inL_toInt _
theorem inL_lShl {x y : Int} : inL (lShl x y) := inL_toInt _
theorem inL_lShr {x y : Int} : inL (lShr x y) := inL_toInt _
theorem inL_lUshr {x y : Int} : inL (lUshr x y) := inL_toInt _
theorem zByte_nar {x : Int} : vp_nar .byte (zI (zByte x)) = zI (zByte x) := by
  have e : zI (zByte x) = (zI x).toInt8.toInt32 := zI_of _
  rw [e, vp_nar_byte]
  simp
theorem bool_nar {v : Int} (h : v = 0 ∨ v = 1) : vp_nar .boolean (zI v) = zI v := by rcases h with rfl | rfl <;> rfl
theorem bool_inR {v : Int} (h : v = 0 ∨ v = 1) : inR v := by rcases h with rfl | rfl <;> decide
theorem inR_max {x y : Int} (hx : inR x) (hy : inR y) : inR (max x y) := ⟨by have := hx.1; have := hy.1; omega, by have := hx.2; have := hy.2; omega⟩
theorem inR_min {x y : Int} (hx : inR x) (hy : inR y) : inR (min x y) := ⟨by have := hx.1; have := hy.1; omega, by have := hx.2; have := hy.2; omega⟩
theorem inR_div {x y : Int} (hx : inR x) (h0 : 0 ≤ x) (hy : 0 < y) : inR (x / y) := ⟨by have := Int.ediv_nonneg h0 (Int.le_of_lt hy); omega, by have := Int.ediv_le_self y h0; have := hx.2; omega⟩
theorem inR_mod {x y : Int} (h0 : 0 ≤ x) (hy : 0 < y) (hy2 : inR y) : inR (x % y) := ⟨by have := Int.emod_nonneg x (Int.ne_of_gt hy); omega, by have := Int.emod_lt_of_pos x hy; have := hy2.2; omega⟩
def lcv (x y : Int) : Int := if y < x then 1 else if x = y then 0 else -1
theorem lcv_inR {x y : Int} : inR (lcv x y) := by unfold lcv; split; decide; split <;> decide
theorem lcv_eq {x y : Int} : lcv x y = 0 ↔ x = y := by unfold lcv; split; omega; split <;> omega
theorem lcv_gt {x y : Int} : 0 < lcv x y ↔ y < x := by unfold lcv; split; omega; split <;> omega
theorem lcv_lt {x y : Int} : lcv x y < 0 ↔ x < y := by unfold lcv; split; omega; split <;> omega
theorem lcv_ge {x y : Int} : 0 ≤ lcv x y ↔ y ≤ x := by unfold lcv; split; omega; split <;> omega
theorem lcv_le {x y : Int} : lcv x y ≤ 0 ↔ x ≤ y := by unfold lcv; split; omega; split <;> omega
theorem HL.drop {ρ : Nat → Nat} {n : Nat} {l : AL} {ls : Array Slot} (i : Nat) (h : HL ρ n l ls) : HL ρ n (l.set i none) ls := by
  refine ⟨by simp [h.1], h.2.1, h.2.2.1, fun j v hj => ?_⟩
  rw [List.getElem?_set] at hj
  split at hj
  · split at hj <;> cases hj
  · exact h.2.2.2 j v hj
def qI (Q : Int → GH → Prop) : Option AV → ASt → GH → Prop := fun v _ G' => ∃ r, v = some (vi r) ∧ inR r ∧ Q r G'
def qZ (Q : Int → GH → Prop) : Option AV → ASt → GH → Prop := fun v _ G' => ∃ r, v = some (vi r) ∧ (r = 0 ∨ r = 1) ∧ Q r G'
def qV (Q : GH → Prop) : Option AV → ASt → GH → Prop := fun v _ G' => v = none ∧ Q G'
def qD (Q : UInt64 → GH → Prop) : Option AV → ASt → GH → Prop := fun v _ G' => ∃ r, v = some (vd r) ∧ Q r G'
def qF (Q : UInt32 → GH → Prop) : Option AV → ASt → GH → Prop := fun v _ G' => ∃ r, v = some (vf r) ∧ Q r G'
section ROWS3
variable {κ : Cx} {δ : Dx} {own : String} {b : ByteArray} {nL : Nat} {ret : Option FieldType} {ρ0 : Nat → Nat} {n0 cb sb pc fr lo mc ms : Nat} {l : AL} {st : List AV} {S : ASt} {G : GH} {Qr : Option AV → ASt → GH → Prop} {Qx : String → ASt → GH → Prop}
theorem AW.drop (i : Nat) {l' : AL} (hl : l.set i none = l') (k : AW κ δ ρ0 n0 nL cb sb pc l' st S G) : AW κ δ ρ0 n0 nL cb sb pc l st S G := by
  obtain ⟨p, lc, e, R, s, m, args, below, meth, c, Q⟩ := κ
  subst hl
  intro ρ H locs ls h1 h2 h3 h4
  exact k ρ H locs ls h1 h2 h3 (h4.drop i)

theorem b_iand (X : CX κ δ own b nL ret) {x y : Int} (hd : decode b pc = .ok (.iand, 1)) (k : AW κ δ ρ0 n0 nL cb sb (pc + 1) l (vi (zAnd x y) :: st) S G) : AW κ δ ρ0 n0 nL cb sb pc l (vi y :: vi x :: st) S G := by
  obtain ⟨p, lc, e, R, s, m, args, below, meth, c, Q⟩ := κ
  obtain ⟨hx, hb, hml, hown, hts, hret, hlk, hK, hN, hA, htr⟩ := X
  intro ρ H locs ls h1 h2 h3 h4
  refine lv_iand hx hb hd ?_
  have e9 : zI x &&& zI y = zI (zAnd x y) := (zI_of _).symm
  show W _ _ _ _ _ _ _ _ _ _ _ _ _ _ _ (F0 _ _ _ (.int (zI x &&& zI y) :: _))
  rw [e9]
  exact k ρ H locs ls h1 h2 h3 h4
theorem b_ior (X : CX κ δ own b nL ret) {x y : Int} (hd : decode b pc = .ok (.ior, 1)) (k : AW κ δ ρ0 n0 nL cb sb (pc + 1) l (vi (zOr x y) :: st) S G) : AW κ δ ρ0 n0 nL cb sb pc l (vi y :: vi x :: st) S G := by
  obtain ⟨p, lc, e, R, s, m, args, below, meth, c, Q⟩ := κ
  obtain ⟨hx, hb, hml, hown, hts, hret, hlk, hK, hN, hA, htr⟩ := X
  intro ρ H locs ls h1 h2 h3 h4
  refine lv_ior hx hb hd ?_
  have e9 : zI x ||| zI y = zI (zOr x y) := (zI_of _).symm
  show W _ _ _ _ _ _ _ _ _ _ _ _ _ _ _ (F0 _ _ _ (.int (zI x ||| zI y) :: _))
  rw [e9]
  exact k ρ H locs ls h1 h2 h3 h4
theorem b_ishl (X : CX κ δ own b nL ret) {x y : Int} (hd : decode b pc = .ok (.ishl, 1)) (k : AW κ δ ρ0 n0 nL cb sb (pc + 1) l (vi (zShl x y) :: st) S G) : AW κ δ ρ0 n0 nL cb sb pc l (vi y :: vi x :: st) S G := by
  obtain ⟨p, lc, e, R, s, m, args, below, meth, c, Q⟩ := κ
  obtain ⟨hx, hb, hml, hown, hts, hret, hlk, hK, hN, hA, htr⟩ := X
  intro ρ H locs ls h1 h2 h3 h4
  refine lv_ishl hx hb hd ?_
  have e9 : zI x <<< (zI y &&& 31) = zI (zShl x y) := (zI_of _).symm
  show W _ _ _ _ _ _ _ _ _ _ _ _ _ _ _ (F0 _ _ _ (.int (zI x <<< (zI y &&& 31)) :: _))
  rw [e9]
  exact k ρ H locs ls h1 h2 h3 h4
theorem b_ishr (X : CX κ δ own b nL ret) {x y : Int} (hd : decode b pc = .ok (.ishr, 1)) (k : AW κ δ ρ0 n0 nL cb sb (pc + 1) l (vi (zShr x y) :: st) S G) : AW κ δ ρ0 n0 nL cb sb pc l (vi y :: vi x :: st) S G := by
  obtain ⟨p, lc, e, R, s, m, args, below, meth, c, Q⟩ := κ
  obtain ⟨hx, hb, hml, hown, hts, hret, hlk, hK, hN, hA, htr⟩ := X
  intro ρ H locs ls h1 h2 h3 h4
  refine lv_ishr hx hb hd ?_
  have e9 : zI x >>> (zI y &&& 31) = zI (zShr x y) := (zI_of _).symm
  show W _ _ _ _ _ _ _ _ _ _ _ _ _ _ _ (F0 _ _ _ (.int (zI x >>> (zI y &&& 31)) :: _))
  rw [e9]
  exact k ρ H locs ls h1 h2 h3 h4
theorem b_land (X : CX κ δ own b nL ret) {x y : Int} (hd : decode b pc = .ok (.land, 1)) (k : AW κ δ ρ0 n0 nL cb sb (pc + 1) l (vl (lAnd x y) :: st) S G) : AW κ δ ρ0 n0 nL cb sb pc l (vl y :: vl x :: st) S G := a_land X (lAnd x y) hd (zL_of _).symm k
theorem b_lor (X : CX κ δ own b nL ret) {x y : Int} (hd : decode b pc = .ok (.lor, 1)) (k : AW κ δ ρ0 n0 nL cb sb (pc + 1) l (vl (lOr x y) :: st) S G) : AW κ δ ρ0 n0 nL cb sb pc l (vl y :: vl x :: st) S G := a_lor X (lOr x y) hd (zL_of _).symm k
theorem b_lshr (X : CX κ δ own b nL ret) {x y : Int} (hd : decode b pc = .ok (.lshr, 1)) (k : AW κ δ ρ0 n0 nL cb sb (pc + 1) l (vl (lShr x y) :: st) S G) : AW κ δ ρ0 n0 nL cb sb pc l (vi y :: vl x :: st) S G := a_lshr X (lShr x y) hd (zL_of _).symm k
theorem b_lushr (X : CX κ δ own b nL ret) {x y : Int} (hd : decode b pc = .ok (.lushr, 1)) (k : AW κ δ ρ0 n0 nL cb sb (pc + 1) l (vl (lUshr x y) :: st) S G) : AW κ δ ρ0 n0 nL cb sb pc l (vi y :: vl x :: st) S G := a_lushr X (lUshr x y) hd (zL_of _).symm k
theorem b_lshl (X : CX κ δ own b nL ret) {x y : Int} (hd : decode b pc = .ok (.lshl, 1)) (k : AW κ δ ρ0 n0 nL cb sb (pc + 1) l (vl (lShl x y) :: st) S G) : AW κ δ ρ0 n0 nL cb sb pc l (vi y :: vl x :: st) S G := a_lshl X (lShl x y) hd (zL_of _).symm k
theorem b_i2b (X : CX κ δ own b nL ret) {x : Int} (hd : decode b pc = .ok (.i2b, 1)) (k : AW κ δ ρ0 n0 nL cb sb (pc + 1) l (vi (zByte x) :: st) S G) : AW κ δ ρ0 n0 nL cb sb pc l (vi x :: st) S G := a_i2b X (zByte x) hd (zI_of _).symm k
theorem b_iald (X : CX κ δ own b nL ret) {a n : Nat} {i : Int} (ha : isAt S a (.inl (0, n))) (hn : n < 2147483648) (hi : 0 ≤ i ∧ i < (n : Int)) (hd : decode b pc = .ok (.iaload, 1)) (kk : AW κ δ ρ0 n0 nL cb sb (pc + 1) l (vi (G a i.toNat) :: st) S G) : AW κ δ ρ0 n0 nL cb sb pc l (vi i :: vr a :: st) S G := a_iald X ha hn (Int.toNat_of_nonneg hi.1).symm (by omega) hd kk
theorem b_bald (X : CX κ δ own b nL ret) {a n : Nat} {i : Int} (ha : isAt S a (.inl (2, n))) (hn : n < 2147483648) (hi : 0 ≤ i ∧ i < (n : Int)) (hd : decode b pc = .ok (.baload, 1)) (kk : AW κ δ ρ0 n0 nL cb sb (pc + 1) l (vi (G a i.toNat) :: st) S G) : AW κ δ ρ0 n0 nL cb sb pc l (vi i :: vr a :: st) S G := a_bald X ha hn (Int.toNat_of_nonneg hi.1).symm (by omega) hd kk
theorem b_zald (X : CX κ δ own b nL ret) {a n : Nat} {i : Int} (ha : isAt S a (.inl (1, n))) (hn : n < 2147483648) (hi : 0 ≤ i ∧ i < (n : Int)) (hd : decode b pc = .ok (.baload, 1)) (kk : AW κ δ ρ0 n0 nL cb sb (pc + 1) l (vi (G a i.toNat) :: st) S G) : AW κ δ ρ0 n0 nL cb sb pc l (vi i :: vr a :: st) S G := a_zald X ha hn (Int.toNat_of_nonneg hi.1).symm (by omega) hd kk
theorem b_iast (X : CX κ δ own b nL ret) {a n : Nat} {i v : Int} (ha : isAt S a (.inl (0, n))) (hn : n < 2147483648) (hi : 0 ≤ i ∧ i < (n : Int)) (hv : inR v) (hd : decode b pc = .ok (.iastore, 1)) (kk : AW κ δ ρ0 n0 nL cb sb (pc + 1) l st S (upG G a i.toNat v)) : AW κ δ ρ0 n0 nL cb sb pc l (vi v :: vi i :: vr a :: st) S G := a_iast X ha hn (Int.toNat_of_nonneg hi.1).symm (by omega) hv hd (fun _ => kk)
theorem b_bast (X : CX κ δ own b nL ret) {a n : Nat} {i v : Int} (ha : isAt S a (.inl (2, n))) (hn : n < 2147483648) (hi : 0 ≤ i ∧ i < (n : Int)) (hv : inR v) (hb8 : vp_nar .byte (zI v) = zI v) (hd : decode b pc = .ok (.bastore, 1)) (kk : AW κ δ ρ0 n0 nL cb sb (pc + 1) l st S (upG G a i.toNat v)) : AW κ δ ρ0 n0 nL cb sb pc l (vi v :: vi i :: vr a :: st) S G := a_bast X ha hn (Int.toNat_of_nonneg hi.1).symm (by omega) hv hb8 hd (fun _ => kk)
theorem b_zast (X : CX κ δ own b nL ret) {a n : Nat} {i v : Int} (ha : isAt S a (.inl (1, n))) (hn : n < 2147483648) (hi : 0 ≤ i ∧ i < (n : Int)) (hv : v = 0 ∨ v = 1) (hd : decode b pc = .ok (.bastore, 1)) (kk : AW κ δ ρ0 n0 nL cb sb (pc + 1) l st S (upG G a i.toNat v)) : AW κ δ ρ0 n0 nL cb sb pc l (vi v :: vi i :: vr a :: st) S G := a_zast X ha hn (Int.toNat_of_nonneg hi.1).symm (by omega) (bool_inR hv) (bool_nar hv) hd (fun _ => kk)
theorem b_lcmp (X : CX κ δ own b nL ret) {x y : Int} (hd : decode b pc = .ok (.lcmp, 1)) (hx0 : inL x) (hy0 : inL y) (k : AW κ δ ρ0 n0 nL cb sb (pc + 1) l (vi (lcv x y) :: st) S G) : AW κ δ ρ0 n0 nL cb sb pc l (vl y :: vl x :: st) S G := a_lcmp X hd hx0 hy0 k
theorem b_max (X : CX κ δ own b nL ret) (E : EndR κ δ ρ0 n0 fr lo mc ms Qr Qx) {idx : Nat} {x y : Int} (hl : Cond.methodLink own idx Lib.Math.max.name ∈ allW) (hx0 : inR x) (hy0 : inR y) (hfr : 1 ≤ fr) (hlo : wsum st + 13 ≤ lo) (hm : cb ≤ mc ∧ sb ≤ ms) (hd : decode b pc = .ok (.invokestatic idx, 3)) (kk : AW κ δ ρ0 n0 nL cb sb (pc + 3) l (vi (max x y) :: st) S G) : AW κ δ ρ0 n0 nL cb sb pc l (vi y :: vi x :: st) S G := by
  refine a_max X E hl hx0 hy0 hfr hlo hm hd ?_
  have e9 : (if x < y then y else x) = max x y := by split <;> omega
  rw [e9]
  exact kk
theorem b_min (X : CX κ δ own b nL ret) (E : EndR κ δ ρ0 n0 fr lo mc ms Qr Qx) {idx : Nat} {x y : Int} (hl : Cond.methodLink own idx Lib.Math.min.name ∈ allW) (hx0 : inR x) (hy0 : inR y) (hfr : 1 ≤ fr) (hlo : wsum st + 13 ≤ lo) (hm : cb ≤ mc ∧ sb ≤ ms) (hd : decode b pc = .ok (.invokestatic idx, 3)) (kk : AW κ δ ρ0 n0 nL cb sb (pc + 3) l (vi (min x y) :: st) S G) : AW κ δ ρ0 n0 nL cb sb pc l (vi y :: vi x :: st) S G := by
  refine a_min X E hl hx0 hy0 hfr hlo hm hd ?_
  have e9 : (if y < x then y else x) = min x y := by split <;> omega
  rw [e9]
  exact kk
section KK
variable {cb' sb' pc' : Nat}
theorem kI {Q : Int → GH → Prop} (k : ∀ r G', inR r → Q r G' → GR G' → AW κ δ ρ0 n0 nL cb' sb' pc' l (vi r :: st) S G') : ∀ v G', qI Q v S G' → GR G' → AW κ δ ρ0 n0 nL cb' sb' pc' l (v.toList ++ st) S G' := by
  rintro _ G' ⟨r, rfl, hr, hq⟩ hG
  exact k r G' hr hq hG
theorem kIp {Q : Int → Prop} (k : ∀ r, inR r → Q r → AW κ δ ρ0 n0 nL cb' sb' pc' l (vi r :: st) S G) : ∀ v G', qI (fun r G' => G' = G ∧ Q r) v S G' → GR G' → AW κ δ ρ0 n0 nL cb' sb' pc' l (v.toList ++ st) S G' := by
  rintro _ _ ⟨r, rfl, hr, rfl, hq⟩ _
  exact k r hr hq
theorem kZ {Q : Int → GH → Prop} (k : ∀ r G', (r = 0 ∨ r = 1) → Q r G' → GR G' → AW κ δ ρ0 n0 nL cb' sb' pc' l (vi r :: st) S G') : ∀ v G', qZ Q v S G' → GR G' → AW κ δ ρ0 n0 nL cb' sb' pc' l (v.toList ++ st) S G' := by
  rintro _ G' ⟨r, rfl, hr, hq⟩ hG
  exact k r G' hr hq hG
theorem kZp {Q : Int → Prop} (k : ∀ r, (r = 0 ∨ r = 1) → Q r → AW κ δ ρ0 n0 nL cb' sb' pc' l (vi r :: st) S G) : ∀ v G', qZ (fun r G' => G' = G ∧ Q r) v S G' → GR G' → AW κ δ ρ0 n0 nL cb' sb' pc' l (v.toList ++ st) S G' := by
  rintro _ _ ⟨r, rfl, hr, rfl, hq⟩ _
  exact k r hr hq
theorem kV {Q : GH → Prop} (k : ∀ G', Q G' → GR G' → AW κ δ ρ0 n0 nL cb' sb' pc' l st S G') : ∀ v G', qV Q v S G' → GR G' → AW κ δ ρ0 n0 nL cb' sb' pc' l (v.toList ++ st) S G' := by
  rintro _ G' ⟨rfl, hq⟩ hG
  exact k G' hq hG
theorem kVp {Q : Prop} (k : Q → AW κ δ ρ0 n0 nL cb' sb' pc' l st S G) : ∀ v G', qV (fun G' => G' = G ∧ Q) v S G' → GR G' → AW κ δ ρ0 n0 nL cb' sb' pc' l (v.toList ++ st) S G' := by
  rintro _ _ ⟨rfl, rfl, hq⟩ _
  exact k hq
theorem kD {Q : UInt64 → GH → Prop} (k : ∀ r G', Q r G' → GR G' → AW κ δ ρ0 n0 nL cb' sb' pc' l (vd r :: st) S G') : ∀ v G', qD Q v S G' → GR G' → AW κ δ ρ0 n0 nL cb' sb' pc' l (v.toList ++ st) S G' := by
  rintro _ G' ⟨r, rfl, hq⟩ hG
  exact k r G' hq hG
theorem kF {Q : UInt32 → GH → Prop} (k : ∀ r G', Q r G' → GR G' → AW κ δ ρ0 n0 nL cb' sb' pc' l (vf r :: st) S G') : ∀ v G', qF Q v S G' → GR G' → AW κ δ ρ0 n0 nL cb' sb' pc' l (v.toList ++ st) S G' := by
  rintro _ G' ⟨r, rfl, hq⟩ hG
  exact k r G' hq hG
end KK
end ROWS3
def join0  (rest : Prop) (body : (Prop) → Prop) : Prop := body rest
theorem joinM0  {C : Prop} {rest : Prop} {body : (Prop) → Prop} {A : Prop} (h1 : rest  → A ) (h2 : ∀ j : Prop, (j  → A ) → body j → C) (h : join0 rest body) : C := h2 rest h1 h
theorem joinI0  {rest : Prop} {body : (Prop) → Prop} (P : Prop) (h1 : P  → rest ) (h2 : ∀ j : Prop, (P  → j ) → body j) : join0 rest body := h2 rest h1
def join1 {α0 : Type} (rest : α0 → Prop) (body : (α0 → Prop) → Prop) : Prop := body rest
theorem joinM1 {α0 : Type} {C : Prop} {rest : α0 → Prop} {body : (α0 → Prop) → Prop} {A : α0 → Prop} (h1 : ∀ x0, rest x0 → A x0) (h2 : ∀ j : α0 → Prop, (∀ x0, j x0 → A x0) → body j → C) (h : join1 rest body) : C := h2 rest h1 h
theorem joinI1 {α0 : Type} {rest : α0 → Prop} {body : (α0 → Prop) → Prop} (P : α0 → Prop) (h1 : ∀ x0, P x0 → rest x0) (h2 : ∀ j : α0 → Prop, (∀ x0, P x0 → j x0) → body j) : join1 rest body := h2 rest h1
def loopN1 {α0 : Type} (b : (α0 → Prop) → α0 → Prop) : Nat → α0 → Prop
  | 0 => fun _ => False
  | n + 1 => b (loopN1 b n)
def loop1 {α0 : Type} (b : (α0 → Prop) → α0 → Prop) (x0 : α0) : Prop := ∃ n, loopN1 b n x0
theorem loopM1 {α0 : Type} {b : (α0 → Prop) → α0 → Prop} {A : α0 → Prop} (hs : ∀ k : α0 → Prop, (∀ x0, k x0 → A x0) → ∀ x0, b k x0 → A x0) : ∀ x0, loop1 b x0 → A x0 := by
  rintro x0 ⟨n, h⟩
  induction n generalizing x0 with
  | zero => exact h.elim
  | succ n ih => exact hs _ ih _ h
theorem loopI1 {α0 : Type} {b : (α0 → Prop) → α0 → Prop} (I : α0 → Prop) (μ : α0 → Nat) (hs : ∀ (k : α0 → Prop) x0, I x0 → (∀ y0, I y0 → μ y0 < μ x0 → k y0) → b k x0) (x0 : α0) (h : I x0) : loop1 b x0 := by
  have key : ∀ n x0, μ x0 < n → I x0 → loopN1 b n x0 := by
    intro n
    induction n with
    | zero => intro x0 q; exact absurd q (Nat.not_lt_zero _)
    | succ n ih => intro x0 q hi; exact hs _ _ hi (fun y0 hy hm => ih y0 (by omega) hy)
  exact ⟨_, key _ _ (Nat.lt_succ_self _) h⟩
def join2 {α0 α1 : Type} (rest : α0 → α1 → Prop) (body : (α0 → α1 → Prop) → Prop) : Prop := body rest
theorem joinM2 {α0 α1 : Type} {C : Prop} {rest : α0 → α1 → Prop} {body : (α0 → α1 → Prop) → Prop} {A : α0 → α1 → Prop} (h1 : ∀ x0 x1, rest x0 x1 → A x0 x1) (h2 : ∀ j : α0 → α1 → Prop, (∀ x0 x1, j x0 x1 → A x0 x1) → body j → C) (h : join2 rest body) : C := h2 rest h1 h
theorem joinI2 {α0 α1 : Type} {rest : α0 → α1 → Prop} {body : (α0 → α1 → Prop) → Prop} (P : α0 → α1 → Prop) (h1 : ∀ x0 x1, P x0 x1 → rest x0 x1) (h2 : ∀ j : α0 → α1 → Prop, (∀ x0 x1, P x0 x1 → j x0 x1) → body j) : join2 rest body := h2 rest h1
def loopN2 {α0 α1 : Type} (b : (α0 → α1 → Prop) → α0 → α1 → Prop) : Nat → α0 → α1 → Prop
  | 0 => fun _ _ => False
  | n + 1 => b (loopN2 b n)
def loop2 {α0 α1 : Type} (b : (α0 → α1 → Prop) → α0 → α1 → Prop) (x0 : α0) (x1 : α1) : Prop := ∃ n, loopN2 b n x0 x1
theorem loopM2 {α0 α1 : Type} {b : (α0 → α1 → Prop) → α0 → α1 → Prop} {A : α0 → α1 → Prop} (hs : ∀ k : α0 → α1 → Prop, (∀ x0 x1, k x0 x1 → A x0 x1) → ∀ x0 x1, b k x0 x1 → A x0 x1) : ∀ x0 x1, loop2 b x0 x1 → A x0 x1 := by
  rintro x0 x1 ⟨n, h⟩
  induction n generalizing x0 x1 with
  | zero => exact h.elim
  | succ n ih => exact hs _ ih _ _ h
theorem loopI2 {α0 α1 : Type} {b : (α0 → α1 → Prop) → α0 → α1 → Prop} (I : α0 → α1 → Prop) (μ : α0 → α1 → Nat) (hs : ∀ (k : α0 → α1 → Prop) x0 x1, I x0 x1 → (∀ y0 y1, I y0 y1 → μ y0 y1 < μ x0 x1 → k y0 y1) → b k x0 x1) (x0 : α0) (x1 : α1) (h : I x0 x1) : loop2 b x0 x1 := by
  have key : ∀ n x0 x1, μ x0 x1 < n → I x0 x1 → loopN2 b n x0 x1 := by
    intro n
    induction n with
    | zero => intro x0 x1 q; exact absurd q (Nat.not_lt_zero _)
    | succ n ih => intro x0 x1 q hi; exact hs _ _ _ hi (fun y0 y1 hy hm => ih y0 y1 (by omega) hy)
  exact ⟨_, key _ _ _ (Nat.lt_succ_self _) h⟩
def join3 {α0 α1 α2 : Type} (rest : α0 → α1 → α2 → Prop) (body : (α0 → α1 → α2 → Prop) → Prop) : Prop := body rest
theorem joinM3 {α0 α1 α2 : Type} {C : Prop} {rest : α0 → α1 → α2 → Prop} {body : (α0 → α1 → α2 → Prop) → Prop} {A : α0 → α1 → α2 → Prop} (h1 : ∀ x0 x1 x2, rest x0 x1 x2 → A x0 x1 x2) (h2 : ∀ j : α0 → α1 → α2 → Prop, (∀ x0 x1 x2, j x0 x1 x2 → A x0 x1 x2) → body j → C) (h : join3 rest body) : C := h2 rest h1 h
theorem joinI3 {α0 α1 α2 : Type} {rest : α0 → α1 → α2 → Prop} {body : (α0 → α1 → α2 → Prop) → Prop} (P : α0 → α1 → α2 → Prop) (h1 : ∀ x0 x1 x2, P x0 x1 x2 → rest x0 x1 x2) (h2 : ∀ j : α0 → α1 → α2 → Prop, (∀ x0 x1 x2, P x0 x1 x2 → j x0 x1 x2) → body j) : join3 rest body := h2 rest h1
def loopN3 {α0 α1 α2 : Type} (b : (α0 → α1 → α2 → Prop) → α0 → α1 → α2 → Prop) : Nat → α0 → α1 → α2 → Prop
  | 0 => fun _ _ _ => False
  | n + 1 => b (loopN3 b n)
def loop3 {α0 α1 α2 : Type} (b : (α0 → α1 → α2 → Prop) → α0 → α1 → α2 → Prop) (x0 : α0) (x1 : α1) (x2 : α2) : Prop := ∃ n, loopN3 b n x0 x1 x2
theorem loopM3 {α0 α1 α2 : Type} {b : (α0 → α1 → α2 → Prop) → α0 → α1 → α2 → Prop} {A : α0 → α1 → α2 → Prop} (hs : ∀ k : α0 → α1 → α2 → Prop, (∀ x0 x1 x2, k x0 x1 x2 → A x0 x1 x2) → ∀ x0 x1 x2, b k x0 x1 x2 → A x0 x1 x2) : ∀ x0 x1 x2, loop3 b x0 x1 x2 → A x0 x1 x2 := by
  rintro x0 x1 x2 ⟨n, h⟩
  induction n generalizing x0 x1 x2 with
  | zero => exact h.elim
  | succ n ih => exact hs _ ih _ _ _ h
theorem loopI3 {α0 α1 α2 : Type} {b : (α0 → α1 → α2 → Prop) → α0 → α1 → α2 → Prop} (I : α0 → α1 → α2 → Prop) (μ : α0 → α1 → α2 → Nat) (hs : ∀ (k : α0 → α1 → α2 → Prop) x0 x1 x2, I x0 x1 x2 → (∀ y0 y1 y2, I y0 y1 y2 → μ y0 y1 y2 < μ x0 x1 x2 → k y0 y1 y2) → b k x0 x1 x2) (x0 : α0) (x1 : α1) (x2 : α2) (h : I x0 x1 x2) : loop3 b x0 x1 x2 := by
  have key : ∀ n x0 x1 x2, μ x0 x1 x2 < n → I x0 x1 x2 → loopN3 b n x0 x1 x2 := by
    intro n
    induction n with
    | zero => intro x0 x1 x2 q; exact absurd q (Nat.not_lt_zero _)
    | succ n ih => intro x0 x1 x2 q hi; exact hs _ _ _ _ hi (fun y0 y1 y2 hy hm => ih y0 y1 y2 (by omega) hy)
  exact ⟨_, key _ _ _ _ (Nat.lt_succ_self _) h⟩
def join4 {α0 α1 α2 α3 : Type} (rest : α0 → α1 → α2 → α3 → Prop) (body : (α0 → α1 → α2 → α3 → Prop) → Prop) : Prop := body rest
theorem joinM4 {α0 α1 α2 α3 : Type} {C : Prop} {rest : α0 → α1 → α2 → α3 → Prop} {body : (α0 → α1 → α2 → α3 → Prop) → Prop} {A : α0 → α1 → α2 → α3 → Prop} (h1 : ∀ x0 x1 x2 x3, rest x0 x1 x2 x3 → A x0 x1 x2 x3) (h2 : ∀ j : α0 → α1 → α2 → α3 → Prop, (∀ x0 x1 x2 x3, j x0 x1 x2 x3 → A x0 x1 x2 x3) → body j → C) (h : join4 rest body) : C := h2 rest h1 h
theorem joinI4 {α0 α1 α2 α3 : Type} {rest : α0 → α1 → α2 → α3 → Prop} {body : (α0 → α1 → α2 → α3 → Prop) → Prop} (P : α0 → α1 → α2 → α3 → Prop) (h1 : ∀ x0 x1 x2 x3, P x0 x1 x2 x3 → rest x0 x1 x2 x3) (h2 : ∀ j : α0 → α1 → α2 → α3 → Prop, (∀ x0 x1 x2 x3, P x0 x1 x2 x3 → j x0 x1 x2 x3) → body j) : join4 rest body := h2 rest h1
def loopN4 {α0 α1 α2 α3 : Type} (b : (α0 → α1 → α2 → α3 → Prop) → α0 → α1 → α2 → α3 → Prop) : Nat → α0 → α1 → α2 → α3 → Prop
  | 0 => fun _ _ _ _ => False
  | n + 1 => b (loopN4 b n)
def loop4 {α0 α1 α2 α3 : Type} (b : (α0 → α1 → α2 → α3 → Prop) → α0 → α1 → α2 → α3 → Prop) (x0 : α0) (x1 : α1) (x2 : α2) (x3 : α3) : Prop := ∃ n, loopN4 b n x0 x1 x2 x3
theorem loopM4 {α0 α1 α2 α3 : Type} {b : (α0 → α1 → α2 → α3 → Prop) → α0 → α1 → α2 → α3 → Prop} {A : α0 → α1 → α2 → α3 → Prop} (hs : ∀ k : α0 → α1 → α2 → α3 → Prop, (∀ x0 x1 x2 x3, k x0 x1 x2 x3 → A x0 x1 x2 x3) → ∀ x0 x1 x2 x3, b k x0 x1 x2 x3 → A x0 x1 x2 x3) : ∀ x0 x1 x2 x3, loop4 b x0 x1 x2 x3 → A x0 x1 x2 x3 := by
  rintro x0 x1 x2 x3 ⟨n, h⟩
  induction n generalizing x0 x1 x2 x3 with
  | zero => exact h.elim
  | succ n ih => exact hs _ ih _ _ _ _ h
theorem loopI4 {α0 α1 α2 α3 : Type} {b : (α0 → α1 → α2 → α3 → Prop) → α0 → α1 → α2 → α3 → Prop} (I : α0 → α1 → α2 → α3 → Prop) (μ : α0 → α1 → α2 → α3 → Nat) (hs : ∀ (k : α0 → α1 → α2 → α3 → Prop) x0 x1 x2 x3, I x0 x1 x2 x3 → (∀ y0 y1 y2 y3, I y0 y1 y2 y3 → μ y0 y1 y2 y3 < μ x0 x1 x2 x3 → k y0 y1 y2 y3) → b k x0 x1 x2 x3) (x0 : α0) (x1 : α1) (x2 : α2) (x3 : α3) (h : I x0 x1 x2 x3) : loop4 b x0 x1 x2 x3 := by
  have key : ∀ n x0 x1 x2 x3, μ x0 x1 x2 x3 < n → I x0 x1 x2 x3 → loopN4 b n x0 x1 x2 x3 := by
    intro n
    induction n with
    | zero => intro x0 x1 x2 x3 q; exact absurd q (Nat.not_lt_zero _)
    | succ n ih => intro x0 x1 x2 x3 q hi; exact hs _ _ _ _ _ hi (fun y0 y1 y2 y3 hy hm => ih y0 y1 y2 y3 (by omega) hy)
  exact ⟨_, key _ _ _ _ _ (Nat.lt_succ_self _) h⟩
def join5 {α0 α1 α2 α3 α4 : Type} (rest : α0 → α1 → α2 → α3 → α4 → Prop) (body : (α0 → α1 → α2 → α3 → α4 → Prop) → Prop) : Prop := body rest
theorem joinM5 {α0 α1 α2 α3 α4 : Type} {C : Prop} {rest : α0 → α1 → α2 → α3 → α4 → Prop} {body : (α0 → α1 → α2 → α3 → α4 → Prop) → Prop} {A : α0 → α1 → α2 → α3 → α4 → Prop} (h1 : ∀ x0 x1 x2 x3 x4, rest x0 x1 x2 x3 x4 → A x0 x1 x2 x3 x4) (h2 : ∀ j : α0 → α1 → α2 → α3 → α4 → Prop, (∀ x0 x1 x2 x3 x4, j x0 x1 x2 x3 x4 → A x0 x1 x2 x3 x4) → body j → C) (h : join5 rest body) : C := h2 rest h1 h
theorem joinI5 {α0 α1 α2 α3 α4 : Type} {rest : α0 → α1 → α2 → α3 → α4 → Prop} {body : (α0 → α1 → α2 → α3 → α4 → Prop) → Prop} (P : α0 → α1 → α2 → α3 → α4 → Prop) (h1 : ∀ x0 x1 x2 x3 x4, P x0 x1 x2 x3 x4 → rest x0 x1 x2 x3 x4) (h2 : ∀ j : α0 → α1 → α2 → α3 → α4 → Prop, (∀ x0 x1 x2 x3 x4, P x0 x1 x2 x3 x4 → j x0 x1 x2 x3 x4) → body j) : join5 rest body := h2 rest h1
def loopN5 {α0 α1 α2 α3 α4 : Type} (b : (α0 → α1 → α2 → α3 → α4 → Prop) → α0 → α1 → α2 → α3 → α4 → Prop) : Nat → α0 → α1 → α2 → α3 → α4 → Prop
  | 0 => fun _ _ _ _ _ => False
  | n + 1 => b (loopN5 b n)
def loop5 {α0 α1 α2 α3 α4 : Type} (b : (α0 → α1 → α2 → α3 → α4 → Prop) → α0 → α1 → α2 → α3 → α4 → Prop) (x0 : α0) (x1 : α1) (x2 : α2) (x3 : α3) (x4 : α4) : Prop := ∃ n, loopN5 b n x0 x1 x2 x3 x4
theorem loopM5 {α0 α1 α2 α3 α4 : Type} {b : (α0 → α1 → α2 → α3 → α4 → Prop) → α0 → α1 → α2 → α3 → α4 → Prop} {A : α0 → α1 → α2 → α3 → α4 → Prop} (hs : ∀ k : α0 → α1 → α2 → α3 → α4 → Prop, (∀ x0 x1 x2 x3 x4, k x0 x1 x2 x3 x4 → A x0 x1 x2 x3 x4) → ∀ x0 x1 x2 x3 x4, b k x0 x1 x2 x3 x4 → A x0 x1 x2 x3 x4) : ∀ x0 x1 x2 x3 x4, loop5 b x0 x1 x2 x3 x4 → A x0 x1 x2 x3 x4 := by
  rintro x0 x1 x2 x3 x4 ⟨n, h⟩
  induction n generalizing x0 x1 x2 x3 x4 with
  | zero => exact h.elim
  | succ n ih => exact hs _ ih _ _ _ _ _ h
theorem loopI5 {α0 α1 α2 α3 α4 : Type} {b : (α0 → α1 → α2 → α3 → α4 → Prop) → α0 → α1 → α2 → α3 → α4 → Prop} (I : α0 → α1 → α2 → α3 → α4 → Prop) (μ : α0 → α1 → α2 → α3 → α4 → Nat) (hs : ∀ (k : α0 → α1 → α2 → α3 → α4 → Prop) x0 x1 x2 x3 x4, I x0 x1 x2 x3 x4 → (∀ y0 y1 y2 y3 y4, I y0 y1 y2 y3 y4 → μ y0 y1 y2 y3 y4 < μ x0 x1 x2 x3 x4 → k y0 y1 y2 y3 y4) → b k x0 x1 x2 x3 x4) (x0 : α0) (x1 : α1) (x2 : α2) (x3 : α3) (x4 : α4) (h : I x0 x1 x2 x3 x4) : loop5 b x0 x1 x2 x3 x4 := by
  have key : ∀ n x0 x1 x2 x3 x4, μ x0 x1 x2 x3 x4 < n → I x0 x1 x2 x3 x4 → loopN5 b n x0 x1 x2 x3 x4 := by
    intro n
    induction n with
    | zero => intro x0 x1 x2 x3 x4 q; exact absurd q (Nat.not_lt_zero _)
    | succ n ih => intro x0 x1 x2 x3 x4 q hi; exact hs _ _ _ _ _ _ hi (fun y0 y1 y2 y3 y4 hy hm => ih y0 y1 y2 y3 y4 (by omega) hy)
  exact ⟨_, key _ _ _ _ _ _ (Nat.lt_succ_self _) h⟩
def join6 {α0 α1 α2 α3 α4 α5 : Type} (rest : α0 → α1 → α2 → α3 → α4 → α5 → Prop) (body : (α0 → α1 → α2 → α3 → α4 → α5 → Prop) → Prop) : Prop := body rest
theorem joinM6 {α0 α1 α2 α3 α4 α5 : Type} {C : Prop} {rest : α0 → α1 → α2 → α3 → α4 → α5 → Prop} {body : (α0 → α1 → α2 → α3 → α4 → α5 → Prop) → Prop} {A : α0 → α1 → α2 → α3 → α4 → α5 → Prop} (h1 : ∀ x0 x1 x2 x3 x4 x5, rest x0 x1 x2 x3 x4 x5 → A x0 x1 x2 x3 x4 x5) (h2 : ∀ j : α0 → α1 → α2 → α3 → α4 → α5 → Prop, (∀ x0 x1 x2 x3 x4 x5, j x0 x1 x2 x3 x4 x5 → A x0 x1 x2 x3 x4 x5) → body j → C) (h : join6 rest body) : C := h2 rest h1 h
theorem joinI6 {α0 α1 α2 α3 α4 α5 : Type} {rest : α0 → α1 → α2 → α3 → α4 → α5 → Prop} {body : (α0 → α1 → α2 → α3 → α4 → α5 → Prop) → Prop} (P : α0 → α1 → α2 → α3 → α4 → α5 → Prop) (h1 : ∀ x0 x1 x2 x3 x4 x5, P x0 x1 x2 x3 x4 x5 → rest x0 x1 x2 x3 x4 x5) (h2 : ∀ j : α0 → α1 → α2 → α3 → α4 → α5 → Prop, (∀ x0 x1 x2 x3 x4 x5, P x0 x1 x2 x3 x4 x5 → j x0 x1 x2 x3 x4 x5) → body j) : join6 rest body := h2 rest h1
def loopN6 {α0 α1 α2 α3 α4 α5 : Type} (b : (α0 → α1 → α2 → α3 → α4 → α5 → Prop) → α0 → α1 → α2 → α3 → α4 → α5 → Prop) : Nat → α0 → α1 → α2 → α3 → α4 → α5 → Prop
  | 0 => fun _ _ _ _ _ _ => False
  | n + 1 => b (loopN6 b n)
def loop6 {α0 α1 α2 α3 α4 α5 : Type} (b : (α0 → α1 → α2 → α3 → α4 → α5 → Prop) → α0 → α1 → α2 → α3 → α4 → α5 → Prop) (x0 : α0) (x1 : α1) (x2 : α2) (x3 : α3) (x4 : α4) (x5 : α5) : Prop := ∃ n, loopN6 b n x0 x1 x2 x3 x4 x5
theorem loopM6 {α0 α1 α2 α3 α4 α5 : Type} {b : (α0 → α1 → α2 → α3 → α4 → α5 → Prop) → α0 → α1 → α2 → α3 → α4 → α5 → Prop} {A : α0 → α1 → α2 → α3 → α4 → α5 → Prop} (hs : ∀ k : α0 → α1 → α2 → α3 → α4 → α5 → Prop, (∀ x0 x1 x2 x3 x4 x5, k x0 x1 x2 x3 x4 x5 → A x0 x1 x2 x3 x4 x5) → ∀ x0 x1 x2 x3 x4 x5, b k x0 x1 x2 x3 x4 x5 → A x0 x1 x2 x3 x4 x5) : ∀ x0 x1 x2 x3 x4 x5, loop6 b x0 x1 x2 x3 x4 x5 → A x0 x1 x2 x3 x4 x5 := by
  rintro x0 x1 x2 x3 x4 x5 ⟨n, h⟩
  induction n generalizing x0 x1 x2 x3 x4 x5 with
  | zero => exact h.elim
  | succ n ih => exact hs _ ih _ _ _ _ _ _ h
theorem loopI6 {α0 α1 α2 α3 α4 α5 : Type} {b : (α0 → α1 → α2 → α3 → α4 → α5 → Prop) → α0 → α1 → α2 → α3 → α4 → α5 → Prop} (I : α0 → α1 → α2 → α3 → α4 → α5 → Prop) (μ : α0 → α1 → α2 → α3 → α4 → α5 → Nat) (hs : ∀ (k : α0 → α1 → α2 → α3 → α4 → α5 → Prop) x0 x1 x2 x3 x4 x5, I x0 x1 x2 x3 x4 x5 → (∀ y0 y1 y2 y3 y4 y5, I y0 y1 y2 y3 y4 y5 → μ y0 y1 y2 y3 y4 y5 < μ x0 x1 x2 x3 x4 x5 → k y0 y1 y2 y3 y4 y5) → b k x0 x1 x2 x3 x4 x5) (x0 : α0) (x1 : α1) (x2 : α2) (x3 : α3) (x4 : α4) (x5 : α5) (h : I x0 x1 x2 x3 x4 x5) : loop6 b x0 x1 x2 x3 x4 x5 := by
  have key : ∀ n x0 x1 x2 x3 x4 x5, μ x0 x1 x2 x3 x4 x5 < n → I x0 x1 x2 x3 x4 x5 → loopN6 b n x0 x1 x2 x3 x4 x5 := by
    intro n
    induction n with
    | zero => intro x0 x1 x2 x3 x4 x5 q; exact absurd q (Nat.not_lt_zero _)
    | succ n ih => intro x0 x1 x2 x3 x4 x5 q hi; exact hs _ _ _ _ _ _ _ hi (fun y0 y1 y2 y3 y4 y5 hy hm => ih y0 y1 y2 y3 y4 y5 (by omega) hy)
  exact ⟨_, key _ _ _ _ _ _ _ (Nat.lt_succ_self _) h⟩
def join7 {α0 α1 α2 α3 α4 α5 α6 : Type} (rest : α0 → α1 → α2 → α3 → α4 → α5 → α6 → Prop) (body : (α0 → α1 → α2 → α3 → α4 → α5 → α6 → Prop) → Prop) : Prop := body rest
theorem joinM7 {α0 α1 α2 α3 α4 α5 α6 : Type} {C : Prop} {rest : α0 → α1 → α2 → α3 → α4 → α5 → α6 → Prop} {body : (α0 → α1 → α2 → α3 → α4 → α5 → α6 → Prop) → Prop} {A : α0 → α1 → α2 → α3 → α4 → α5 → α6 → Prop} (h1 : ∀ x0 x1 x2 x3 x4 x5 x6, rest x0 x1 x2 x3 x4 x5 x6 → A x0 x1 x2 x3 x4 x5 x6) (h2 : ∀ j : α0 → α1 → α2 → α3 → α4 → α5 → α6 → Prop, (∀ x0 x1 x2 x3 x4 x5 x6, j x0 x1 x2 x3 x4 x5 x6 → A x0 x1 x2 x3 x4 x5 x6) → body j → C) (h : join7 rest body) : C := h2 rest h1 h
theorem joinI7 {α0 α1 α2 α3 α4 α5 α6 : Type} {rest : α0 → α1 → α2 → α3 → α4 → α5 → α6 → Prop} {body : (α0 → α1 → α2 → α3 → α4 → α5 → α6 → Prop) → Prop} (P : α0 → α1 → α2 → α3 → α4 → α5 → α6 → Prop) (h1 : ∀ x0 x1 x2 x3 x4 x5 x6, P x0 x1 x2 x3 x4 x5 x6 → rest x0 x1 x2 x3 x4 x5 x6) (h2 : ∀ j : α0 → α1 → α2 → α3 → α4 → α5 → α6 → Prop, (∀ x0 x1 x2 x3 x4 x5 x6, P x0 x1 x2 x3 x4 x5 x6 → j x0 x1 x2 x3 x4 x5 x6) → body j) : join7 rest body := h2 rest h1
def loopN7 {α0 α1 α2 α3 α4 α5 α6 : Type} (b : (α0 → α1 → α2 → α3 → α4 → α5 → α6 → Prop) → α0 → α1 → α2 → α3 → α4 → α5 → α6 → Prop) : Nat → α0 → α1 → α2 → α3 → α4 → α5 → α6 → Prop
  | 0 => fun _ _ _ _ _ _ _ => False
  | n + 1 => b (loopN7 b n)
def loop7 {α0 α1 α2 α3 α4 α5 α6 : Type} (b : (α0 → α1 → α2 → α3 → α4 → α5 → α6 → Prop) → α0 → α1 → α2 → α3 → α4 → α5 → α6 → Prop) (x0 : α0) (x1 : α1) (x2 : α2) (x3 : α3) (x4 : α4) (x5 : α5) (x6 : α6) : Prop := ∃ n, loopN7 b n x0 x1 x2 x3 x4 x5 x6
theorem loopM7 {α0 α1 α2 α3 α4 α5 α6 : Type} {b : (α0 → α1 → α2 → α3 → α4 → α5 → α6 → Prop) → α0 → α1 → α2 → α3 → α4 → α5 → α6 → Prop} {A : α0 → α1 → α2 → α3 → α4 → α5 → α6 → Prop} (hs : ∀ k : α0 → α1 → α2 → α3 → α4 → α5 → α6 → Prop, (∀ x0 x1 x2 x3 x4 x5 x6, k x0 x1 x2 x3 x4 x5 x6 → A x0 x1 x2 x3 x4 x5 x6) → ∀ x0 x1 x2 x3 x4 x5 x6, b k x0 x1 x2 x3 x4 x5 x6 → A x0 x1 x2 x3 x4 x5 x6) : ∀ x0 x1 x2 x3 x4 x5 x6, loop7 b x0 x1 x2 x3 x4 x5 x6 → A x0 x1 x2 x3 x4 x5 x6 := by
  rintro x0 x1 x2 x3 x4 x5 x6 ⟨n, h⟩
  induction n generalizing x0 x1 x2 x3 x4 x5 x6 with
  | zero => exact h.elim
  | succ n ih => exact hs _ ih _ _ _ _ _ _ _ h
theorem loopI7 {α0 α1 α2 α3 α4 α5 α6 : Type} {b : (α0 → α1 → α2 → α3 → α4 → α5 → α6 → Prop) → α0 → α1 → α2 → α3 → α4 → α5 → α6 → Prop} (I : α0 → α1 → α2 → α3 → α4 → α5 → α6 → Prop) (μ : α0 → α1 → α2 → α3 → α4 → α5 → α6 → Nat) (hs : ∀ (k : α0 → α1 → α2 → α3 → α4 → α5 → α6 → Prop) x0 x1 x2 x3 x4 x5 x6, I x0 x1 x2 x3 x4 x5 x6 → (∀ y0 y1 y2 y3 y4 y5 y6, I y0 y1 y2 y3 y4 y5 y6 → μ y0 y1 y2 y3 y4 y5 y6 < μ x0 x1 x2 x3 x4 x5 x6 → k y0 y1 y2 y3 y4 y5 y6) → b k x0 x1 x2 x3 x4 x5 x6) (x0 : α0) (x1 : α1) (x2 : α2) (x3 : α3) (x4 : α4) (x5 : α5) (x6 : α6) (h : I x0 x1 x2 x3 x4 x5 x6) : loop7 b x0 x1 x2 x3 x4 x5 x6 := by
  have key : ∀ n x0 x1 x2 x3 x4 x5 x6, μ x0 x1 x2 x3 x4 x5 x6 < n → I x0 x1 x2 x3 x4 x5 x6 → loopN7 b n x0 x1 x2 x3 x4 x5 x6 := by
    intro n
    induction n with
    | zero => intro x0 x1 x2 x3 x4 x5 x6 q; exact absurd q (Nat.not_lt_zero _)
    | succ n ih => intro x0 x1 x2 x3 x4 x5 x6 q hi; exact hs _ _ _ _ _ _ _ _ hi (fun y0 y1 y2 y3 y4 y5 y6 hy hm => ih y0 y1 y2 y3 y4 y5 y6 (by omega) hy)
  exact ⟨_, key _ _ _ _ _ _ _ _ (Nat.lt_succ_self _) h⟩
def join8 {α0 α1 α2 α3 α4 α5 α6 α7 : Type} (rest : α0 → α1 → α2 → α3 → α4 → α5 → α6 → α7 → Prop) (body : (α0 → α1 → α2 → α3 → α4 → α5 → α6 → α7 → Prop) → Prop) : Prop := body rest
theorem joinM8 {α0 α1 α2 α3 α4 α5 α6 α7 : Type} {C : Prop} {rest : α0 → α1 → α2 → α3 → α4 → α5 → α6 → α7 → Prop} {body : (α0 → α1 → α2 → α3 → α4 → α5 → α6 → α7 → Prop) → Prop} {A : α0 → α1 → α2 → α3 → α4 → α5 → α6 → α7 → Prop} (h1 : ∀ x0 x1 x2 x3 x4 x5 x6 x7, rest x0 x1 x2 x3 x4 x5 x6 x7 → A x0 x1 x2 x3 x4 x5 x6 x7) (h2 : ∀ j : α0 → α1 → α2 → α3 → α4 → α5 → α6 → α7 → Prop, (∀ x0 x1 x2 x3 x4 x5 x6 x7, j x0 x1 x2 x3 x4 x5 x6 x7 → A x0 x1 x2 x3 x4 x5 x6 x7) → body j → C) (h : join8 rest body) : C := h2 rest h1 h
theorem joinI8 {α0 α1 α2 α3 α4 α5 α6 α7 : Type} {rest : α0 → α1 → α2 → α3 → α4 → α5 → α6 → α7 → Prop} {body : (α0 → α1 → α2 → α3 → α4 → α5 → α6 → α7 → Prop) → Prop} (P : α0 → α1 → α2 → α3 → α4 → α5 → α6 → α7 → Prop) (h1 : ∀ x0 x1 x2 x3 x4 x5 x6 x7, P x0 x1 x2 x3 x4 x5 x6 x7 → rest x0 x1 x2 x3 x4 x5 x6 x7) (h2 : ∀ j : α0 → α1 → α2 → α3 → α4 → α5 → α6 → α7 → Prop, (∀ x0 x1 x2 x3 x4 x5 x6 x7, P x0 x1 x2 x3 x4 x5 x6 x7 → j x0 x1 x2 x3 x4 x5 x6 x7) → body j) : join8 rest body := h2 rest h1
def loopN8 {α0 α1 α2 α3 α4 α5 α6 α7 : Type} (b : (α0 → α1 → α2 → α3 → α4 → α5 → α6 → α7 → Prop) → α0 → α1 → α2 → α3 → α4 → α5 → α6 → α7 → Prop) : Nat → α0 → α1 → α2 → α3 → α4 → α5 → α6 → α7 → Prop
  | 0 => fun _ _ _ _ _ _ _ _ => False
  | n + 1 => b (loopN8 b n)
def loop8 {α0 α1 α2 α3 α4 α5 α6 α7 : Type} (b : (α0 → α1 → α2 → α3 → α4 → α5 → α6 → α7 → Prop) → α0 → α1 → α2 → α3 → α4 → α5 → α6 → α7 → Prop) (x0 : α0) (x1 : α1) (x2 : α2) (x3 : α3) (x4 : α4) (x5 : α5) (x6 : α6) (x7 : α7) : Prop := ∃ n, loopN8 b n x0 x1 x2 x3 x4 x5 x6 x7
theorem loopM8 {α0 α1 α2 α3 α4 α5 α6 α7 : Type} {b : (α0 → α1 → α2 → α3 → α4 → α5 → α6 → α7 → Prop) → α0 → α1 → α2 → α3 → α4 → α5 → α6 → α7 → Prop} {A : α0 → α1 → α2 → α3 → α4 → α5 → α6 → α7 → Prop} (hs : ∀ k : α0 → α1 → α2 → α3 → α4 → α5 → α6 → α7 → Prop, (∀ x0 x1 x2 x3 x4 x5 x6 x7, k x0 x1 x2 x3 x4 x5 x6 x7 → A x0 x1 x2 x3 x4 x5 x6 x7) → ∀ x0 x1 x2 x3 x4 x5 x6 x7, b k x0 x1 x2 x3 x4 x5 x6 x7 → A x0 x1 x2 x3 x4 x5 x6 x7) : ∀ x0 x1 x2 x3 x4 x5 x6 x7, loop8 b x0 x1 x2 x3 x4 x5 x6 x7 → A x0 x1 x2 x3 x4 x5 x6 x7 := by
  rintro x0 x1 x2 x3 x4 x5 x6 x7 ⟨n, h⟩
  induction n generalizing x0 x1 x2 x3 x4 x5 x6 x7 with
  | zero => exact h.elim
  | succ n ih => exact hs _ ih _ _ _ _ _ _ _ _ h
theorem loopI8 {α0 α1 α2 α3 α4 α5 α6 α7 : Type} {b : (α0 → α1 → α2 → α3 → α4 → α5 → α6 → α7 → Prop) → α0 → α1 → α2 → α3 → α4 → α5 → α6 → α7 → Prop} (I : α0 → α1 → α2 → α3 → α4 → α5 → α6 → α7 → Prop) (μ : α0 → α1 → α2 → α3 → α4 → α5 → α6 → α7 → Nat) (hs : ∀ (k : α0 → α1 → α2 → α3 → α4 → α5 → α6 → α7 → Prop) x0 x1 x2 x3 x4 x5 x6 x7, I x0 x1 x2 x3 x4 x5 x6 x7 → (∀ y0 y1 y2 y3 y4 y5 y6 y7, I y0 y1 y2 y3 y4 y5 y6 y7 → μ y0 y1 y2 y3 y4 y5 y6 y7 < μ x0 x1 x2 x3 x4 x5 x6 x7 → k y0 y1 y2 y3 y4 y5 y6 y7) → b k x0 x1 x2 x3 x4 x5 x6 x7) (x0 : α0) (x1 : α1) (x2 : α2) (x3 : α3) (x4 : α4) (x5 : α5) (x6 : α6) (x7 : α7) (h : I x0 x1 x2 x3 x4 x5 x6 x7) : loop8 b x0 x1 x2 x3 x4 x5 x6 x7 := by
  have key : ∀ n x0 x1 x2 x3 x4 x5 x6 x7, μ x0 x1 x2 x3 x4 x5 x6 x7 < n → I x0 x1 x2 x3 x4 x5 x6 x7 → loopN8 b n x0 x1 x2 x3 x4 x5 x6 x7 := by
    intro n
    induction n with
    | zero => intro x0 x1 x2 x3 x4 x5 x6 x7 q; exact absurd q (Nat.not_lt_zero _)
    | succ n ih => intro x0 x1 x2 x3 x4 x5 x6 x7 q hi; exact hs _ _ _ _ _ _ _ _ _ hi (fun y0 y1 y2 y3 y4 y5 y6 y7 hy hm => ih y0 y1 y2 y3 y4 y5 y6 y7 (by omega) hy)
  exact ⟨_, key _ _ _ _ _ _ _ _ _ (Nat.lt_succ_self _) h⟩
def join9 {α0 α1 α2 α3 α4 α5 α6 α7 α8 : Type} (rest : α0 → α1 → α2 → α3 → α4 → α5 → α6 → α7 → α8 → Prop) (body : (α0 → α1 → α2 → α3 → α4 → α5 → α6 → α7 → α8 → Prop) → Prop) : Prop := body rest
theorem joinM9 {α0 α1 α2 α3 α4 α5 α6 α7 α8 : Type} {C : Prop} {rest : α0 → α1 → α2 → α3 → α4 → α5 → α6 → α7 → α8 → Prop} {body : (α0 → α1 → α2 → α3 → α4 → α5 → α6 → α7 → α8 → Prop) → Prop} {A : α0 → α1 → α2 → α3 → α4 → α5 → α6 → α7 → α8 → Prop} (h1 : ∀ x0 x1 x2 x3 x4 x5 x6 x7 x8, rest x0 x1 x2 x3 x4 x5 x6 x7 x8 → A x0 x1 x2 x3 x4 x5 x6 x7 x8) (h2 : ∀ j : α0 → α1 → α2 → α3 → α4 → α5 → α6 → α7 → α8 → Prop, (∀ x0 x1 x2 x3 x4 x5 x6 x7 x8, j x0 x1 x2 x3 x4 x5 x6 x7 x8 → A x0 x1 x2 x3 x4 x5 x6 x7 x8) → body j → C) (h : join9 rest body) : C := h2 rest h1 h
theorem joinI9 {α0 α1 α2 α3 α4 α5 α6 α7 α8 : Type} {rest : α0 → α1 → α2 → α3 → α4 → α5 → α6 → α7 → α8 → Prop} {body : (α0 → α1 → α2 → α3 → α4 → α5 → α6 → α7 → α8 → Prop) → Prop} (P : α0 → α1 → α2 → α3 → α4 → α5 → α6 → α7 → α8 → Prop) (h1 : ∀ x0 x1 x2 x3 x4 x5 x6 x7 x8, P x0 x1 x2 x3 x4 x5 x6 x7 x8 → rest x0 x1 x2 x3 x4 x5 x6 x7 x8) (h2 : ∀ j : α0 → α1 → α2 → α3 → α4 → α5 → α6 → α7 → α8 → Prop, (∀ x0 x1 x2 x3 x4 x5 x6 x7 x8, P x0 x1 x2 x3 x4 x5 x6 x7 x8 → j x0 x1 x2 x3 x4 x5 x6 x7 x8) → body j) : join9 rest body := h2 rest h1
def loopN9 {α0 α1 α2 α3 α4 α5 α6 α7 α8 : Type} (b : (α0 → α1 → α2 → α3 → α4 → α5 → α6 → α7 → α8 → Prop) → α0 → α1 → α2 → α3 → α4 → α5 → α6 → α7 → α8 → Prop) : Nat → α0 → α1 → α2 → α3 → α4 → α5 → α6 → α7 → α8 → Prop
  | 0 => fun _ _ _ _ _ _ _ _ _ => False
  | n + 1 => b (loopN9 b n)
def loop9 {α0 α1 α2 α3 α4 α5 α6 α7 α8 : Type} (b : (α0 → α1 → α2 → α3 → α4 → α5 → α6 → α7 → α8 → Prop) → α0 → α1 → α2 → α3 → α4 → α5 → α6 → α7 → α8 → Prop) (x0 : α0) (x1 : α1) (x2 : α2) (x3 : α3) (x4 : α4) (x5 : α5) (x6 : α6) (x7 : α7) (x8 : α8) : Prop := ∃ n, loopN9 b n x0 x1 x2 x3 x4 x5 x6 x7 x8
theorem loopM9 {α0 α1 α2 α3 α4 α5 α6 α7 α8 : Type} {b : (α0 → α1 → α2 → α3 → α4 → α5 → α6 → α7 → α8 → Prop) → α0 → α1 → α2 → α3 → α4 → α5 → α6 → α7 → α8 → Prop} {A : α0 → α1 → α2 → α3 → α4 → α5 → α6 → α7 → α8 → Prop} (hs : ∀ k : α0 → α1 → α2 → α3 → α4 → α5 → α6 → α7 → α8 → Prop, (∀ x0 x1 x2 x3 x4 x5 x6 x7 x8, k x0 x1 x2 x3 x4 x5 x6 x7 x8 → A x0 x1 x2 x3 x4 x5 x6 x7 x8) → ∀ x0 x1 x2 x3 x4 x5 x6 x7 x8, b k x0 x1 x2 x3 x4 x5 x6 x7 x8 → A x0 x1 x2 x3 x4 x5 x6 x7 x8) : ∀ x0 x1 x2 x3 x4 x5 x6 x7 x8, loop9 b x0 x1 x2 x3 x4 x5 x6 x7 x8 → A x0 x1 x2 x3 x4 x5 x6 x7 x8 := by
  rintro x0 x1 x2 x3 x4 x5 x6 x7 x8 ⟨n, h⟩
  induction n generalizing x0 x1 x2 x3 x4 x5 x6 x7 x8 with
  | zero => exact h.elim
  | succ n ih => exact hs _ ih _ _ _ _ _ _ _ _ _ h
theorem loopI9 {α0 α1 α2 α3 α4 α5 α6 α7 α8 : Type} {b : (α0 → α1 → α2 → α3 → α4 → α5 → α6 → α7 → α8 → Prop) → α0 → α1 → α2 → α3 → α4 → α5 → α6 → α7 → α8 → Prop} (I : α0 → α1 → α2 → α3 → α4 → α5 → α6 → α7 → α8 → Prop) (μ : α0 → α1 → α2 → α3 → α4 → α5 → α6 → α7 → α8 → Nat) (hs : ∀ (k : α0 → α1 → α2 → α3 → α4 → α5 → α6 → α7 → α8 → Prop) x0 x1 x2 x3 x4 x5 x6 x7 x8, I x0 x1 x2 x3 x4 x5 x6 x7 x8 → (∀ y0 y1 y2 y3 y4 y5 y6 y7 y8, I y0 y1 y2 y3 y4 y5 y6 y7 y8 → μ y0 y1 y2 y3 y4 y5 y6 y7 y8 < μ x0 x1 x2 x3 x4 x5 x6 x7 x8 → k y0 y1 y2 y3 y4 y5 y6 y7 y8) → b k x0 x1 x2 x3 x4 x5 x6 x7 x8) (x0 : α0) (x1 : α1) (x2 : α2) (x3 : α3) (x4 : α4) (x5 : α5) (x6 : α6) (x7 : α7) (x8 : α8) (h : I x0 x1 x2 x3 x4 x5 x6 x7 x8) : loop9 b x0 x1 x2 x3 x4 x5 x6 x7 x8 := by
  have key : ∀ n x0 x1 x2 x3 x4 x5 x6 x7 x8, μ x0 x1 x2 x3 x4 x5 x6 x7 x8 < n → I x0 x1 x2 x3 x4 x5 x6 x7 x8 → loopN9 b n x0 x1 x2 x3 x4 x5 x6 x7 x8 := by
    intro n
    induction n with
    | zero => intro x0 x1 x2 x3 x4 x5 x6 x7 x8 q; exact absurd q (Nat.not_lt_zero _)
    | succ n ih => intro x0 x1 x2 x3 x4 x5 x6 x7 x8 q hi; exact hs _ _ _ _ _ _ _ _ _ _ hi (fun y0 y1 y2 y3 y4 y5 y6 y7 y8 hy hm => ih y0 y1 y2 y3 y4 y5 y6 y7 y8 (by omega) hy)
  exact ⟨_, key _ _ _ _ _ _ _ _ _ _ (Nat.lt_succ_self _) h⟩
def join10 {α0 α1 α2 α3 α4 α5 α6 α7 α8 α9 : Type} (rest : α0 → α1 → α2 → α3 → α4 → α5 → α6 → α7 → α8 → α9 → Prop) (body : (α0 → α1 → α2 → α3 → α4 → α5 → α6 → α7 → α8 → α9 → Prop) → Prop) : Prop := body rest
theorem joinM10 {α0 α1 α2 α3 α4 α5 α6 α7 α8 α9 : Type} {C : Prop} {rest : α0 → α1 → α2 → α3 → α4 → α5 → α6 → α7 → α8 → α9 → Prop} {body : (α0 → α1 → α2 → α3 → α4 → α5 → α6 → α7 → α8 → α9 → Prop) → Prop} {A : α0 → α1 → α2 → α3 → α4 → α5 → α6 → α7 → α8 → α9 → Prop} (h1 : ∀ x0 x1 x2 x3 x4 x5 x6 x7 x8 x9, rest x0 x1 x2 x3 x4 x5 x6 x7 x8 x9 → A x0 x1 x2 x3 x4 x5 x6 x7 x8 x9) (h2 : ∀ j : α0 → α1 → α2 → α3 → α4 → α5 → α6 → α7 → α8 → α9 → Prop, (∀ x0 x1 x2 x3 x4 x5 x6 x7 x8 x9, j x0 x1 x2 x3 x4 x5 x6 x7 x8 x9 → A x0 x1 x2 x3 x4 x5 x6 x7 x8 x9) → body j → C) (h : join10 rest body) : C := h2 rest h1 h
theorem joinI10 {α0 α1 α2 α3 α4 α5 α6 α7 α8 α9 : Type} {rest : α0 → α1 → α2 → α3 → α4 → α5 → α6 → α7 → α8 → α9 → Prop} {body : (α0 → α1 → α2 → α3 → α4 → α5 → α6 → α7 → α8 → α9 → Prop) → Prop} (P : α0 → α1 → α2 → α3 → α4 → α5 → α6 → α7 → α8 → α9 → Prop) (h1 : ∀ x0 x1 x2 x3 x4 x5 x6 x7 x8 x9, P x0 x1 x2 x3 x4 x5 x6 x7 x8 x9 → rest x0 x1 x2 x3 x4 x5 x6 x7 x8 x9) (h2 : ∀ j : α0 → α1 → α2 → α3 → α4 → α5 → α6 → α7 → α8 → α9 → Prop, (∀ x0 x1 x2 x3 x4 x5 x6 x7 x8 x9, P x0 x1 x2 x3 x4 x5 x6 x7 x8 x9 → j x0 x1 x2 x3 x4 x5 x6 x7 x8 x9) → body j) : join10 rest body := h2 rest h1
def loopN10 {α0 α1 α2 α3 α4 α5 α6 α7 α8 α9 : Type} (b : (α0 → α1 → α2 → α3 → α4 → α5 → α6 → α7 → α8 → α9 → Prop) → α0 → α1 → α2 → α3 → α4 → α5 → α6 → α7 → α8 → α9 → Prop) : Nat → α0 → α1 → α2 → α3 → α4 → α5 → α6 → α7 → α8 → α9 → Prop
  | 0 => fun _ _ _ _ _ _ _ _ _ _ => False
  | n + 1 => b (loopN10 b n)
def loop10 {α0 α1 α2 α3 α4 α5 α6 α7 α8 α9 : Type} (b : (α0 → α1 → α2 → α3 → α4 → α5 → α6 → α7 → α8 → α9 → Prop) → α0 → α1 → α2 → α3 → α4 → α5 → α6 → α7 → α8 → α9 → Prop) (x0 : α0) (x1 : α1) (x2 : α2) (x3 : α3) (x4 : α4) (x5 : α5) (x6 : α6) (x7 : α7) (x8 : α8) (x9 : α9) : Prop := ∃ n, loopN10 b n x0 x1 x2 x3 x4 x5 x6 x7 x8 x9
theorem loopM10 {α0 α1 α2 α3 α4 α5 α6 α7 α8 α9 : Type} {b : (α0 → α1 → α2 → α3 → α4 → α5 → α6 → α7 → α8 → α9 → Prop) → α0 → α1 → α2 → α3 → α4 → α5 → α6 → α7 → α8 → α9 → Prop} {A : α0 → α1 → α2 → α3 → α4 → α5 → α6 → α7 → α8 → α9 → Prop} (hs : ∀ k : α0 → α1 → α2 → α3 → α4 → α5 → α6 → α7 → α8 → α9 → Prop, (∀ x0 x1 x2 x3 x4 x5 x6 x7 x8 x9, k x0 x1 x2 x3 x4 x5 x6 x7 x8 x9 → A x0 x1 x2 x3 x4 x5 x6 x7 x8 x9) → ∀ x0 x1 x2 x3 x4 x5 x6 x7 x8 x9, b k x0 x1 x2 x3 x4 x5 x6 x7 x8 x9 → A x0 x1 x2 x3 x4 x5 x6 x7 x8 x9) : ∀ x0 x1 x2 x3 x4 x5 x6 x7 x8 x9, loop10 b x0 x1 x2 x3 x4 x5 x6 x7 x8 x9 → A x0 x1 x2 x3 x4 x5 x6 x7 x8 x9 := by
  rintro x0 x1 x2 x3 x4 x5 x6 x7 x8 x9 ⟨n, h⟩
  induction n generalizing x0 x1 x2 x3 x4 x5 x6 x7 x8 x9 with
  | zero => exact h.elim
  | succ n ih => exact hs _ ih _ _ _ _ _ _ _ _ _ _ h
theorem loopI10 {α0 α1 α2 α3 α4 α5 α6 α7 α8 α9 : Type} {b : (α0 → α1 → α2 → α3 → α4 → α5 → α6 → α7 → α8 → α9 → Prop) → α0 → α1 → α2 → α3 → α4 → α5 → α6 → α7 → α8 → α9 → Prop} (I : α0 → α1 → α2 → α3 → α4 → α5 → α6 → α7 → α8 → α9 → Prop) (μ : α0 → α1 → α2 → α3 → α4 → α5 → α6 → α7 → α8 → α9 → Nat) (hs : ∀ (k : α0 → α1 → α2 → α3 → α4 → α5 → α6 → α7 → α8 → α9 → Prop) x0 x1 x2 x3 x4 x5 x6 x7 x8 x9, I x0 x1 x2 x3 x4 x5 x6 x7 x8 x9 → (∀ y0 y1 y2 y3 y4 y5 y6 y7 y8 y9, I y0 y1 y2 y3 y4 y5 y6 y7 y8 y9 → μ y0 y1 y2 y3 y4 y5 y6 y7 y8 y9 < μ x0 x1 x2 x3 x4 x5 x6 x7 x8 x9 → k y0 y1 y2 y3 y4 y5 y6 y7 y8 y9) → b k x0 x1 x2 x3 x4 x5 x6 x7 x8 x9) (x0 : α0) (x1 : α1) (x2 : α2) (x3 : α3) (x4 : α4) (x5 : α5) (x6 : α6) (x7 : α7) (x8 : α8) (x9 : α9) (h : I x0 x1 x2 x3 x4 x5 x6 x7 x8 x9) : loop10 b x0 x1 x2 x3 x4 x5 x6 x7 x8 x9 := by
  have key : ∀ n x0 x1 x2 x3 x4 x5 x6 x7 x8 x9, μ x0 x1 x2 x3 x4 x5 x6 x7 x8 x9 < n → I x0 x1 x2 x3 x4 x5 x6 x7 x8 x9 → loopN10 b n x0 x1 x2 x3 x4 x5 x6 x7 x8 x9 := by
    intro n
    induction n with
    | zero => intro x0 x1 x2 x3 x4 x5 x6 x7 x8 x9 q; exact absurd q (Nat.not_lt_zero _)
    | succ n ih => intro x0 x1 x2 x3 x4 x5 x6 x7 x8 x9 q hi; exact hs _ _ _ _ _ _ _ _ _ _ _ hi (fun y0 y1 y2 y3 y4 y5 y6 y7 y8 y9 hy hm => ih y0 y1 y2 y3 y4 y5 y6 y7 y8 y9 (by omega) hy)
  exact ⟨_, key _ _ _ _ _ _ _ _ _ _ _ (Nat.lt_succ_self _) h⟩
def join11 {α0 α1 α2 α3 α4 α5 α6 α7 α8 α9 α10 : Type} (rest : α0 → α1 → α2 → α3 → α4 → α5 → α6 → α7 → α8 → α9 → α10 → Prop) (body : (α0 → α1 → α2 → α3 → α4 → α5 → α6 → α7 → α8 → α9 → α10 → Prop) → Prop) : Prop := body rest
theorem joinM11 {α0 α1 α2 α3 α4 α5 α6 α7 α8 α9 α10 : Type} {C : Prop} {rest : α0 → α1 → α2 → α3 → α4 → α5 → α6 → α7 → α8 → α9 → α10 → Prop} {body : (α0 → α1 → α2 → α3 → α4 → α5 → α6 → α7 → α8 → α9 → α10 → Prop) → Prop} {A : α0 → α1 → α2 → α3 → α4 → α5 → α6 → α7 → α8 → α9 → α10 → Prop} (h1 : ∀ x0 x1 x2 x3 x4 x5 x6 x7 x8 x9 x10, rest x0 x1 x2 x3 x4 x5 x6 x7 x8 x9 x10 → A x0 x1 x2 x3 x4 x5 x6 x7 x8 x9 x10) (h2 : ∀ j : α0 → α1 → α2 → α3 → α4 → α5 → α6 → α7 → α8 → α9 → α10 → Prop, (∀ x0 x1 x2 x3 x4 x5 x6 x7 x8 x9 x10, j x0 x1 x2 x3 x4 x5 x6 x7 x8 x9 x10 → A x0 x1 x2 x3 x4 x5 x6 x7 x8 x9 x10) → body j → C) (h : join11 rest body) : C := h2 rest h1 h
theorem joinI11 {α0 α1 α2 α3 α4 α5 α6 α7 α8 α9 α10 : Type} {rest : α0 → α1 → α2 → α3 → α4 → α5 → α6 → α7 → α8 → α9 → α10 → Prop} {body : (α0 → α1 → α2 → α3 → α4 → α5 → α6 → α7 → α8 → α9 → α10 → Prop) → Prop} (P : α0 → α1 → α2 → α3 → α4 → α5 → α6 → α7 → α8 → α9 → α10 → Prop) (h1 : ∀ x0 x1 x2 x3 x4 x5 x6 x7 x8 x9 x10, P x0 x1 x2 x3 x4 x5 x6 x7 x8 x9 x10 → rest x0 x1 x2 x3 x4 x5 x6 x7 x8 x9 x10) (h2 : ∀ j : α0 → α1 → α2 → α3 → α4 → α5 → α6 → α7 → α8 → α9 → α10 → Prop, (∀ x0 x1 x2 x3 x4 x5 x6 x7 x8 x9 x10, P x0 x1 x2 x3 x4 x5 x6 x7 x8 x9 x10 → j x0 x1 x2 x3 x4 x5 x6 x7 x8 x9 x10) → body j) : join11 rest body := h2 rest h1
def loopN11 {α0 α1 α2 α3 α4 α5 α6 α7 α8 α9 α10 : Type} (b : (α0 → α1 → α2 → α3 → α4 → α5 → α6 → α7 → α8 → α9 → α10 → Prop) → α0 → α1 → α2 → α3 → α4 → α5 → α6 → α7 → α8 → α9 → α10 → Prop) : Nat → α0 → α1 → α2 → α3 → α4 → α5 → α6 → α7 → α8 → α9 → α10 → Prop
  | 0 => fun _ _ _ _ _ _ _ _ _ _ _ => False
  | n + 1 => b (loopN11 b n)
def loop11 {α0 α1 α2 α3 α4 α5 α6 α7 α8 α9 α10 : Type} (b : (α0 → α1 → α2 → α3 → α4 → α5 → α6 → α7 → α8 → α9 → α10 → Prop) → α0 → α1 → α2 → α3 → α4 → α5 → α6 → α7 → α8 → α9 → α10 → Prop) (x0 : α0) (x1 : α1) (x2 : α2) (x3 : α3) (x4 : α4) (x5 : α5) (x6 : α6) (x7 : α7) (x8 : α8) (x9 : α9) (x10 : α10) : Prop := ∃ n, loopN11 b n x0 x1 x2 x3 x4 x5 x6 x7 x8 x9 x10
theorem loopM11 {α0 α1 α2 α3 α4 α5 α6 α7 α8 α9 α10 : Type} {b : (α0 → α1 → α2 → α3 → α4 → α5 → α6 → α7 → α8 → α9 → α10 → Prop) → α0 → α1 → α2 → α3 → α4 → α5 → α6 → α7 → α8 → α9 → α10 → Prop} {A : α0 → α1 → α2 → α3 → α4 → α5 → α6 → α7 → α8 → α9 → α10 → Prop} (hs : ∀ k : α0 → α1 → α2 → α3 → α4 → α5 → α6 → α7 → α8 → α9 → α10 → Prop, (∀ x0 x1 x2 x3 x4 x5 x6 x7 x8 x9 x10, k x0 x1 x2 x3 x4 x5 x6 x7 x8 x9 x10 → A x0 x1 x2 x3 x4 x5 x6 x7 x8 x9 x10) → ∀ x0 x1 x2 x3 x4 x5 x6 x7 x8 x9 x10, b k x0 x1 x2 x3 x4 x5 x6 x7 x8 x9 x10 → A x0 x1 x2 x3 x4 x5 x6 x7 x8 x9 x10) : ∀ x0 x1 x2 x3 x4 x5 x6 x7 x8 x9 x10, loop11 b x0 x1 x2 x3 x4 x5 x6 x7 x8 x9 x10 → A x0 x1 x2 x3 x4 x5 x6 x7 x8 x9 x10 := by
  rintro x0 x1 x2 x3 x4 x5 x6 x7 x8 x9 x10 ⟨n, h⟩
  induction n generalizing x0 x1 x2 x3 x4 x5 x6 x7 x8 x9 x10 with
  | zero => exact h.elim
  | succ n ih => exact hs _ ih _ _ _ _ _ _ _ _ _ _ _ h
theorem loopI11 {α0 α1 α2 α3 α4 α5 α6 α7 α8 α9 α10 : Type} {b : (α0 → α1 → α2 → α3 → α4 → α5 → α6 → α7 → α8 → α9 → α10 → Prop) → α0 → α1 → α2 → α3 → α4 → α5 → α6 → α7 → α8 → α9 → α10 → Prop} (I : α0 → α1 → α2 → α3 → α4 → α5 → α6 → α7 → α8 → α9 → α10 → Prop) (μ : α0 → α1 → α2 → α3 → α4 → α5 → α6 → α7 → α8 → α9 → α10 → Nat) (hs : ∀ (k : α0 → α1 → α2 → α3 → α4 → α5 → α6 → α7 → α8 → α9 → α10 → Prop) x0 x1 x2 x3 x4 x5 x6 x7 x8 x9 x10, I x0 x1 x2 x3 x4 x5 x6 x7 x8 x9 x10 → (∀ y0 y1 y2 y3 y4 y5 y6 y7 y8 y9 y10, I y0 y1 y2 y3 y4 y5 y6 y7 y8 y9 y10 → μ y0 y1 y2 y3 y4 y5 y6 y7 y8 y9 y10 < μ x0 x1 x2 x3 x4 x5 x6 x7 x8 x9 x10 → k y0 y1 y2 y3 y4 y5 y6 y7 y8 y9 y10) → b k x0 x1 x2 x3 x4 x5 x6 x7 x8 x9 x10) (x0 : α0) (x1 : α1) (x2 : α2) (x3 : α3) (x4 : α4) (x5 : α5) (x6 : α6) (x7 : α7) (x8 : α8) (x9 : α9) (x10 : α10) (h : I x0 x1 x2 x3 x4 x5 x6 x7 x8 x9 x10) : loop11 b x0 x1 x2 x3 x4 x5 x6 x7 x8 x9 x10 := by
  have key : ∀ n x0 x1 x2 x3 x4 x5 x6 x7 x8 x9 x10, μ x0 x1 x2 x3 x4 x5 x6 x7 x8 x9 x10 < n → I x0 x1 x2 x3 x4 x5 x6 x7 x8 x9 x10 → loopN11 b n x0 x1 x2 x3 x4 x5 x6 x7 x8 x9 x10 := by
    intro n
    induction n with
    | zero => intro x0 x1 x2 x3 x4 x5 x6 x7 x8 x9 x10 q; exact absurd q (Nat.not_lt_zero _)
    | succ n ih => intro x0 x1 x2 x3 x4 x5 x6 x7 x8 x9 x10 q hi; exact hs _ _ _ _ _ _ _ _ _ _ _ _ hi (fun y0 y1 y2 y3 y4 y5 y6 y7 y8 y9 y10 hy hm => ih y0 y1 y2 y3 y4 y5 y6 y7 y8 y9 y10 (by omega) hy)
  exact ⟨_, key _ _ _ _ _ _ _ _ _ _ _ _ (Nat.lt_succ_self _) h⟩
def join12 {α0 α1 α2 α3 α4 α5 α6 α7 α8 α9 α10 α11 : Type} (rest : α0 → α1 → α2 → α3 → α4 → α5 → α6 → α7 → α8 → α9 → α10 → α11 → Prop) (body : (α0 → α1 → α2 → α3 → α4 → α5 → α6 → α7 → α8 → α9 → α10 → α11 → Prop) → Prop) : Prop := body rest
theorem joinM12 {α0 α1 α2 α3 α4 α5 α6 α7 α8 α9 α10 α11 : Type} {C : Prop} {rest : α0 → α1 → α2 → α3 → α4 → α5 → α6 → α7 → α8 → α9 → α10 → α11 → Prop} {body : (α0 → α1 → α2 → α3 → α4 → α5 → α6 → α7 → α8 → α9 → α10 → α11 → Prop) → Prop} {A : α0 → α1 → α2 → α3 → α4 → α5 → α6 → α7 → α8 → α9 → α10 → α11 → Prop} (h1 : ∀ x0 x1 x2 x3 x4 x5 x6 x7 x8 x9 x10 x11, rest x0 x1 x2 x3 x4 x5 x6 x7 x8 x9 x10 x11 → A x0 x1 x2 x3 x4 x5 x6 x7 x8 x9 x10 x11) (h2 : ∀ j : α0 → α1 → α2 → α3 → α4 → α5 → α6 → α7 → α8 → α9 → α10 → α11 → Prop, (∀ x0 x1 x2 x3 x4 x5 x6 x7 x8 x9 x10 x11, j x0 x1 x2 x3 x4 x5 x6 x7 x8 x9 x10 x11 → A x0 x1 x2 x3 x4 x5 x6 x7 x8 x9 x10 x11) → body j → C) (h : join12 rest body) : C := h2 rest h1 h
theorem joinI12 {α0 α1 α2 α3 α4 α5 α6 α7 α8 α9 α10 α11 : Type} {rest : α0 → α1 → α2 → α3 → α4 → α5 → α6 → α7 → α8 → α9 → α10 → α11 → Prop} {body : (α0 → α1 → α2 → α3 → α4 → α5 → α6 → α7 → α8 → α9 → α10 → α11 → Prop) → Prop} (P : α0 → α1 → α2 → α3 → α4 → α5 → α6 → α7 → α8 → α9 → α10 → α11 → Prop) (h1 : ∀ x0 x1 x2 x3 x4 x5 x6 x7 x8 x9 x10 x11, P x0 x1 x2 x3 x4 x5 x6 x7 x8 x9 x10 x11 → rest x0 x1 x2 x3 x4 x5 x6 x7 x8 x9 x10 x11) (h2 : ∀ j : α0 → α1 → α2 → α3 → α4 → α5 → α6 → α7 → α8 → α9 → α10 → α11 → Prop, (∀ x0 x1 x2 x3 x4 x5 x6 x7 x8 x9 x10 x11, P x0 x1 x2 x3 x4 x5 x6 x7 x8 x9 x10 x11 → j x0 x1 x2 x3 x4 x5 x6 x7 x8 x9 x10 x11) → body j) : join12 rest body := h2 rest h1
def loopN12 {α0 α1 α2 α3 α4 α5 α6 α7 α8 α9 α10 α11 : Type} (b : (α0 → α1 → α2 → α3 → α4 → α5 → α6 → α7 → α8 → α9 → α10 → α11 → Prop) → α0 → α1 → α2 → α3 → α4 → α5 → α6 → α7 → α8 → α9 → α10 → α11 → Prop) : Nat → α0 → α1 → α2 → α3 → α4 → α5 → α6 → α7 → α8 → α9 → α10 → α11 → Prop
  | 0 => fun _ _ _ _ _ _ _ _ _ _ _ _ => False
  | n + 1 => b (loopN12 b n)
def loop12 {α0 α1 α2 α3 α4 α5 α6 α7 α8 α9 α10 α11 : Type} (b : (α0 → α1 → α2 → α3 → α4 → α5 → α6 → α7 → α8 → α9 → α10 → α11 → Prop) → α0 → α1 → α2 → α3 → α4 → α5 → α6 → α7 → α8 → α9 → α10 → α11 → Prop) (x0 : α0) (x1 : α1) (x2 : α2) (x3 : α3) (x4 : α4) (x5 : α5) (x6 : α6) (x7 : α7) (x8 : α8) (x9 : α9) (x10 : α10) (x11 : α11) : Prop := ∃ n, loopN12 b n x0 x1 x2 x3 x4 x5 x6 x7 x8 x9 x10 x11
theorem loopM12 {α0 α1 α2 α3 α4 α5 α6 α7 α8 α9 α10 α11 : Type} {b : (α0 → α1 → α2 → α3 → α4 → α5 → α6 → α7 → α8 → α9 → α10 → α11 → Prop) → α0 → α1 → α2 → α3 → α4 → α5 → α6 → α7 → α8 → α9 → α10 → α11 → Prop} {A : α0 → α1 → α2 → α3 → α4 → α5 → α6 → α7 → α8 → α9 → α10 → α11 → Prop} (hs : ∀ k : α0 → α1 → α2 → α3 → α4 → α5 → α6 → α7 → α8 → α9 → α10 → α11 → Prop, (∀ x0 x1 x2 x3 x4 x5 x6 x7 x8 x9 x10 x11, k x0 x1 x2 x3 x4 x5 x6 x7 x8 x9 x10 x11 → A x0 x1 x2 x3 x4 x5 x6 x7 x8 x9 x10 x11) → ∀ x0 x1 x2 x3 x4 x5 x6 x7 x8 x9 x10 x11, b k x0 x1 x2 x3 x4 x5 x6 x7 x8 x9 x10 x11 → A x0 x1 x2 x3 x4 x5 x6 x7 x8 x9 x10 x11) : ∀ x0 x1 x2 x3 x4 x5 x6 x7 x8 x9 x10 x11, loop12 b x0 x1 x2 x3 x4 x5 x6 x7 x8 x9 x10 x11 → A x0 x1 x2 x3 x4 x5 x6 x7 x8 x9 x10 x11 := by
  rintro x0 x1 x2 x3 x4 x5 x6 x7 x8 x9 x10 x11 ⟨n, h⟩
  induction n generalizing x0 x1 x2 x3 x4 x5 x6 x7 x8 x9 x10 x11 with
  | zero => exact h.elim
  | succ n ih => exact hs _ ih _ _ _ _ _ _ _ _ _ _ _ _ h
theorem loopI12 {α0 α1 α2 α3 α4 α5 α6 α7 α8 α9 α10 α11 : Type} {b : (α0 → α1 → α2 → α3 → α4 → α5 → α6 → α7 → α8 → α9 → α10 → α11 → Prop) → α0 → α1 → α2 → α3 → α4 → α5 → α6 → α7 → α8 → α9 → α10 → α11 → Prop} (I : α0 → α1 → α2 → α3 → α4 → α5 → α6 → α7 → α8 → α9 → α10 → α11 → Prop) (μ : α0 → α1 → α2 → α3 → α4 → α5 → α6 → α7 → α8 → α9 → α10 → α11 → Nat) (hs : ∀ (k : α0 → α1 → α2 → α3 → α4 → α5 → α6 → α7 → α8 → α9 → α10 → α11 → Prop) x0 x1 x2 x3 x4 x5 x6 x7 x8 x9 x10 x11, I x0 x1 x2 x3 x4 x5 x6 x7 x8 x9 x10 x11 → (∀ y0 y1 y2 y3 y4 y5 y6 y7 y8 y9 y10 y11, I y0 y1 y2 y3 y4 y5 y6 y7 y8 y9 y10 y11 → μ y0 y1 y2 y3 y4 y5 y6 y7 y8 y9 y10 y11 < μ x0 x1 x2 x3 x4 x5 x6 x7 x8 x9 x10 x11 → k y0 y1 y2 y3 y4 y5 y6 y7 y8 y9 y10 y11) → b k x0 x1 x2 x3 x4 x5 x6 x7 x8 x9 x10 x11) (x0 : α0) (x1 : α1) (x2 : α2) (x3 : α3) (x4 : α4) (x5 : α5) (x6 : α6) (x7 : α7) (x8 : α8) (x9 : α9) (x10 : α10) (x11 : α11) (h : I x0 x1 x2 x3 x4 x5 x6 x7 x8 x9 x10 x11) : loop12 b x0 x1 x2 x3 x4 x5 x6 x7 x8 x9 x10 x11 := by
  have key : ∀ n x0 x1 x2 x3 x4 x5 x6 x7 x8 x9 x10 x11, μ x0 x1 x2 x3 x4 x5 x6 x7 x8 x9 x10 x11 < n → I x0 x1 x2 x3 x4 x5 x6 x7 x8 x9 x10 x11 → loopN12 b n x0 x1 x2 x3 x4 x5 x6 x7 x8 x9 x10 x11 := by
    intro n
    induction n with
    | zero => intro x0 x1 x2 x3 x4 x5 x6 x7 x8 x9 x10 x11 q; exact absurd q (Nat.not_lt_zero _)
    | succ n ih => intro x0 x1 x2 x3 x4 x5 x6 x7 x8 x9 x10 x11 q hi; exact hs _ _ _ _ _ _ _ _ _ _ _ _ _ hi (fun y0 y1 y2 y3 y4 y5 y6 y7 y8 y9 y10 y11 hy hm => ih y0 y1 y2 y3 y4 y5 y6 y7 y8 y9 y10 y11 (by omega) hy)
  exact ⟨_, key _ _ _ _ _ _ _ _ _ _ _ _ _ (Nat.lt_succ_self _) h⟩
