-- ===== rows for the law: its own methods, the script, longs that wrap around, floats =====
/-- a long as the machine has it -/
def wL (x : Int) : Int := (zL x).toInt
theorem wL_inL {x : Int} : inL (wL x) := inL_toInt _
theorem zL_wL (x : Int) : zL (wL x) = zL x := zL_of _
def qJ (Q : Int → GH → Prop) : Option AV → ASt → GH → Prop := fun v _ G' => ∃ r, v = some (vl r) ∧ Q r G'
def fcv (x y : UInt32) : Int := (Op.cmpValue (FP.fcmp x y) .l).toInt
theorem fcv_inR {x y : UInt32} : inR (fcv x y) := inR_toInt _
/-- a method of the law: the script has L ints xs -/
def MtS (L : Nat) (xs : Nat → Int32) (y : MethodName) (b : ByteArray) (nL : Nat) (ret : Option FieldType) (fr lo mc ms : Nat) (as : List AV) (S : ASt) (G : GH) (Qr : Option AV → ASt → GH → Prop) (Qx : String → ASt → GH → Prop) : Prop :=
  ∀ (lc : Launch) (δ : Dx) (ρ : Nat → Nat), lc.stackTraces = false → dSL δ = L ∧ dSx δ = xs → vx_Met lc y (Cond.code y b nL ret :: allW) { frames := fr, cells := mc, slots := ms, locals := lo } (PreA δ ρ as S G) (PostR δ ρ S.1 Qr) (PostX δ ρ S.1 Qx) mc ms (frA δ)
theorem MtS.of {L : Nat} {xs : Nat → Int32} {y : MethodName} {b : ByteArray} {nL : Nat} {ret : Option FieldType} {fr lo mc ms : Nat} {as : List AV} {S : ASt} {G : GH} {Qr : Option AV → ASt → GH → Prop} {Qx : String → ASt → GH → Prop} {l0 : AL} (hy : plainName y.cls = true) (hlen : (enL as).length ≤ nL) (hl : enL as ++ List.replicate (nL - (enL as).length) none = l0)
    (body : ∀ (κ : Cx) (δ : Dx) (ρ0 : Nat → Nat), CX κ δ y.cls b nL ret → EndR κ δ ρ0 S.1 fr lo mc ms Qr Qx → dSL δ = L ∧ dSx δ = xs → GR G → AW κ δ ρ0 S.1 nL 0 0 0 l0 [] S G) : MtS L xs y b nL ret fr lo mc ms as S G Qr Qx := by
  intro lc δ ρ hst hsc
  refine vx_ofW (cc := b) (maxL := nL) (ret := ret) hy rfl ?_
  intro p e s m args below meth c s₁ B hml htab hv
  obtain ⟨rfl, hN, hK, hA, hR⟩ := hv
  have hts0 := atoms_spec (ws := Cond.code y b nL ret :: allW) B.pre
  have X : CX (p, lc, e, (headSpec (Cond.code y b nL ret :: allW) { frames := fr, cells := mc, slots := ms, locals := lo }).room, s, m, (as.map (cv ρ)).toArray, below, meth, c, vx_MQ below (PostR δ ρ S.1 Qr) (PostX δ ρ S.1 Qx) (as.map (cv ρ)).toArray s mc ms (frA δ)) δ y.cls b nL ret :=
    ⟨B.exec, B.bytes, hml, findClass_of_methodNamed B.named, fun w hw => hts0 w (List.mem_cons_of_mem _ hw), B.returns, B.notSynchronized, hK, hN, hA, hst⟩
  have k := body _ δ ρ X ⟨rfl, rfl, htab⟩ hsc hR.2.2.2.1
  rw [lg_entry_eq]
  subst hl
  exact k ρ s.heap [] _ (fun _ _ => rfl) hR va_S.rf (enL_HL hlen)
/-- Java's remainder by a number above 0, of any number -/
theorem zI_tmod {x y : Int} (hx : inR x) (hy : 0 < y ∧ y ≤ 2147483647) : zI (x.tmod y) = zI x - zI x / zI y * zI y := by
  have h1 : Int32.ofInt (x.tdiv y) = Int32.ofInt x / Int32.ofInt y := Int32.ofInt_tdiv (by have := hx.1; exact this) (by have := hx.2; exact this) (by show (-2147483648 : Int) ≤ y; omega) (by show y ≤ 2147483647; omega)
  have e : x.tmod y = x - x.tdiv y * y := by
    have := Int.mul_tdiv_add_tmod x y
    rw [Int.mul_comm] at this; omega
  rw [e, zI_sub, zI_mul]
  show zI x - Int32.ofInt (x.tdiv y) * zI y = _
  rw [h1]; rfl
theorem zI_tdiv {x y : Int} (hx : inR x) (hy : 0 < y ∧ y ≤ 2147483647) : zI (x.tdiv y) = zI x / zI y := Int32.ofInt_tdiv (by have := hx.1; exact this) (by have := hx.2; exact this) (by show (-2147483648 : Int) ≤ y; omega) (by show y ≤ 2147483647; omega)
theorem inR_tdiv {x y : Int} (hx : inR x) (hy : 0 < y) : inR (x.tdiv y) := by
  have h := Int.natAbs_tdiv_le_natAbs x y
  refine ⟨?_, ?_⟩
  · by_cases h0 : 0 ≤ x
    · have := Int.tdiv_nonneg h0 (Int.le_of_lt hy); omega
    · have := hx.1; omega
  · by_cases h0 : 0 ≤ x
    · have := hx.2; omega
    · have e : x.tdiv y = -((-x).tdiv y) := by rw [Int.neg_tdiv, Int.neg_neg]
      have := Int.tdiv_nonneg (show 0 ≤ -x by omega) (Int.le_of_lt hy); omega
section LROWS
variable {κ : Cx} {δ : Dx} {own : String} {b : ByteArray} {nL : Nat} {ret : Option FieldType} {ρ0 : Nat → Nat} {n0 cb sb pc fr lo mc ms nn L : Nat} {xs : Nat → Int32} {l : AL} {st stk : List AV} {S : ASt} {G : GH} {Qr Qr' : Option AV → ASt → GH → Prop} {Qx Qx' : String → ASt → GH → Prop}
variable {y : MethodName} {b' : ByteArray} {nL' : Nat} {ret' : Option FieldType} {fr' lo' mc' ms' : Nat} {as : List AV}
theorem a_lreturn (X : CX κ δ own b nL (some .long)) (E : EndR κ δ ρ0 n0 fr lo mc ms Qr Qx) {v : Int} (hc : cb ≤ mc) (hs : sb ≤ ms) (hd : decode b pc = .ok (.lreturn, 1)) (hq : Qr (some (vl v)) S G) : AW κ δ ρ0 n0 nL cb sb pc l [vl v] S G := by
  obtain ⟨p, lc, e, R, s, m, args, below, meth, c, Q⟩ := κ
  obtain ⟨hx, hb, hml, hown, hts, hr, hlk, hK, hN, hA, htr⟩ := X
  obtain ⟨rfl, -, -⟩ := E
  intro ρ H locs ls h1 h2 h3 h4
  refine W.widen hc hs (vx_ret ?_)
  refine W.lret hx hb hr (fun t ht hW => ?_) (fun q hq => h3.2.2 q hq) hd hlk
  exact ⟨⟨some (vl v), S, G, ρ, rfl, hq, h1, by rw [ht]; exact h2⟩, h3.F ht⟩
theorem a_areturn (X : CX κ δ own b nL ret) (E : EndR κ δ ρ0 n0 fr lo mc ms Qr Qx) {a : Nat} {rt : FieldType} (hret : ret = some rt) (hrt : (∃ n, rt = .object n) ∨ ∃ t, rt = .array t) (hc : cb ≤ mc) (hs : sb ≤ ms) (hd : decode b pc = .ok (.areturn, 1)) (hq : Qr (some (vr a)) S G) : AW κ δ ρ0 n0 nL cb sb pc l [vr a] S G := by
  obtain ⟨p, lc, e, R, s, m, args, below, meth, c, Q⟩ := κ
  obtain ⟨hx, hb, hml, hown, hts, hr, hlk, hK, hN, hA, htr⟩ := X
  obtain ⟨rfl, -, -⟩ := E
  intro ρ H locs ls h1 h2 h3 h4
  refine W.widen hc hs (vx_ret ?_)
  refine W.aret hx hb (hr.trans hret) hrt (Or.inr ⟨ρ a, rfl⟩) (fun t ht hW => ?_) (fun q hq => h3.2.2 q hq) hd hlk
  exact ⟨⟨some (vr a), S, G, ρ, rfl, hq, h1, by rw [ht]; exact h2⟩, h3.F ht⟩
theorem a_iremS (X : CX κ δ own b nL ret) {x y : Int} (hd : decode b pc = .ok (.irem, 1)) (hx0 : inR x) (hy0 : 0 < y ∧ y ≤ 2147483647) (k : AW κ δ ρ0 n0 nL cb sb (pc + 1) l (vi (x.tmod y) :: st) S G) : AW κ δ ρ0 n0 nL cb sb pc l (vi y :: vi x :: st) S G := by
  obtain ⟨p, lc, e, R, s, m, args, below, meth, c, Q⟩ := κ
  obtain ⟨hx, hb, hml, hown, hts, hret, hlk, hK, hN, hA, htr⟩ := X
  intro ρ H locs ls h1 h2 h3 h4
  refine lv_irem hx hb hd (fun h => ?_) ?_
  · rw [← zI_0, zI_eq ⟨by omega, by omega⟩ ⟨by omega, by omega⟩] at h; omega
  · rw [← zI_tmod hx0 hy0]; exact k ρ H locs ls h1 h2 h3 h4
theorem a_idivS (X : CX κ δ own b nL ret) {x y : Int} (hd : decode b pc = .ok (.idiv, 1)) (hx0 : inR x) (hy0 : 0 < y ∧ y ≤ 2147483647) (k : AW κ δ ρ0 n0 nL cb sb (pc + 1) l (vi (x.tdiv y) :: st) S G) : AW κ δ ρ0 n0 nL cb sb pc l (vi y :: vi x :: st) S G := by
  obtain ⟨p, lc, e, R, s, m, args, below, meth, c, Q⟩ := κ
  obtain ⟨hx, hb, hml, hown, hts, hret, hlk, hK, hN, hA, htr⟩ := X
  intro ρ H locs ls h1 h2 h3 h4
  refine lv_idiv hx hb hd (fun h => ?_) ?_
  · rw [← zI_0, zI_eq ⟨by omega, by omega⟩ ⟨by omega, by omega⟩] at h; omega
  · rw [← zI_tdiv hx0 hy0]; exact k ρ H locs ls h1 h2 h3 h4
theorem a_ineg (X : CX κ δ own b nL ret) {x : Int} (hd : decode b pc = .ok (.ineg, 1)) (k : AW κ δ ρ0 n0 nL cb sb (pc + 1) l (vi (-x) :: st) S G) : AW κ δ ρ0 n0 nL cb sb pc l (vi x :: st) S G := by
  obtain ⟨p, lc, e, R, s, m, args, below, meth, c, Q⟩ := κ
  obtain ⟨hx, hb, hml, hown, hts, hret, hlk, hK, hN, hA, htr⟩ := X
  intro ρ H locs ls h1 h2 h3 h4
  refine lv_ineg hx hb hd ?_
  rw [← zI_neg]; exact k ρ H locs ls h1 h2 h3 h4
theorem a_abs (X : CX κ δ own b nL ret) (E : EndR κ δ ρ0 n0 fr lo mc ms Qr Qx) {idx : Nat} {x : Int} (hl : Cond.methodLink own idx Lib.Math.abs.name ∈ allW) (hx0 : inR x) (hfr : 1 ≤ fr) (hlo : wsum st + 13 ≤ lo) (hm : cb ≤ mc ∧ sb ≤ ms) (hd : decode b pc = .ok (.invokestatic idx, 3))
    (kk : AW κ δ ρ0 n0 nL cb sb (pc + 3) l (vi (if 0 ≤ x then x else 0 - x) :: st) S G) : AW κ δ ρ0 n0 nL cb sb pc l (vi x :: st) S G := by
  obtain ⟨p, lc, e, R, s, m, args, below, meth, c, Q⟩ := κ
  obtain ⟨hx, hb, hml, hown, hts, hret, hlk, hK, hN, hA, htr⟩ := X
  obtain ⟨-, rfl, -⟩ := E
  intro ρ H locs ls q1 q2 q3 q4
  refine va_mabs hx hb (hml.trans q4.2.1.symm) hown (hts _ hl) (hts _ w_static_Lib_Math_abs_name) (hts _ w_initialized__java_lang_Math_) (hts _ w_code_abs) hfr (by rw [wsum_ok]; exact hlo) hm.1 hm.2 hd ?_
  have e0 : (if 0 ≤ zI x then zI x else 0 - zI x) = zI (if 0 ≤ x then x else 0 - x) := by
    rw [← zI_0]
    by_cases h : 0 ≤ x
    · rw [if_pos h, if_pos ((zI_le inR_0 hx0).mpr h)]
    · rw [if_neg h, if_neg (fun q => h ((zI_le inR_0 hx0).mp q)), ← zI_sub]
  rw [e0]
  exact kk ρ H locs ls q1 q2 q3 q4
theorem b_lcmpZ (X : CX κ δ own b nL ret) {x y : Int} (hd : decode b pc = .ok (.lcmp, 1)) (k : AW κ δ ρ0 n0 nL cb sb (pc + 1) l (vi (lcv (wL x) (wL y)) :: st) S G) : AW κ δ ρ0 n0 nL cb sb pc l (vl y :: vl x :: st) S G := by
  have k2 := b_lcmp (st := st) X hd (x := wL x) (y := wL y) wL_inL wL_inL k
  obtain ⟨p, lc, e, R, s, m, args, below, meth, c, Q⟩ := κ
  intro ρ H locs ls h1 h2 h3 h4
  have k3 := k2 ρ H locs ls h1 h2 h3 h4
  have e9 : (vl (wL y) :: vl (wL x) :: st).map (cv ρ) = (vl y :: vl x :: st).map (cv ρ) := by
    show Value.long (zL (wL y)) :: Value.long (zL (wL x)) :: _ = _
    rw [zL_wL, zL_wL]; rfl
  rw [e9] at k3
  exact k3
theorem b_fcmpl (X : CX κ δ own b nL ret) {x y : UInt32} (hd : decode b pc = .ok (.fcmp .l, 1)) (k : AW κ δ ρ0 n0 nL cb sb (pc + 1) l (vi (fcv x y) :: st) S G) : AW κ δ ρ0 n0 nL cb sb pc l (vf y :: vf x :: st) S G := by
  obtain ⟨p, lc, e, R, s, m, args, below, meth, c, Q⟩ := κ
  obtain ⟨hx, hb, hml, hown, hts, hret, hlk, hK, hN, hA, htr⟩ := X
  intro ρ H locs ls h1 h2 h3 h4
  refine lv_fcmp hx hb hd ?_
  have e9 : Op.cmpValue (FP.fcmp x y) .l = zI (fcv x y) := (zI_of _).symm
  rw [e9]
  exact k ρ H locs ls h1 h2 h3 h4
/-- a call of one of the law's own static methods -/
theorem a_callSL (X : CX κ δ own b nL ret) (E : EndR κ δ ρ0 n0 fr lo mc ms Qr Qx) (hsc : dSL δ = L ∧ dSx δ = xs) {idx : Nat} (M : MtS L xs y b' nL' ret' fr' lo' mc' ms' as S G (fun v S' G' => S' = S ∧ Qr' v S' G') (fun E S' G' => S' = S ∧ Qx' E S' G'))
    (hl : Cond.methodLink own idx y ∈ allW) (hs : Cond.static y ∈ allW) (hini : Cond.initialized y.cls ∈ allW) (hcode : Cond.code y b' nL' ret' ∈ allW) (hy : clsPlain y) (hn : pnum y = some as.length)
    (hstk : as.reverse ++ st = stk) (hw : wsum st ≤ 8) (hr : fr' + 1 ≤ fr ∧ 8 + (nL' + 11) + lo' ≤ lo) (hm : cb + mc' ≤ mc ∧ sb + ms' ≤ ms) (hd : decode b pc = .ok (.invokestatic idx, 3))
    (kx : ∀ E G', Qx' E S G' → Qx E S G') (kk : ∀ v G', Qr' v S G' → GR G' → AW κ δ ρ0 n0 nL (cb + mc') (sb + ms') (pc + 3) l (v.toList ++ st) S G') : AW κ δ ρ0 n0 nL cb sb pc l stk S G := by
  obtain ⟨p, lc, e, R, s, m, args, below, meth, c, Q⟩ := κ
  have X0 := X
  have E0 := E
  obtain ⟨hx, hb, hml, hown, hts, hret, hlk, hK, hN, hA, htr⟩ := X
  obtain ⟨-, rfl, -⟩ := E
  intro ρ H locs ls h1 h2 h3 h4
  subst hstk
  refine after_call X0 E0 rfl h1 h3 h4 (a := (as.map (cv ρ)).toArray) ?_ hm kx kk
  refine vx_runS (As := as.map (cv ρ)) (n := as.length) ⟨hx, hb, hml, hown, hts⟩ (M lc δ ρ htr hsc)
    ⟨⟨rfl, rfl, hr.1, hr.2, payA hts hcode, List.mem_cons_self, hts _ hcode, hts _ hini, hy, pnum_len hn, hts _ hl⟩, hts _ hs⟩
    ⟨PreA.blind, fun U hU hW => ⟨rfl, by rw [hU]; exact Nat.le_trans hN h3.1, va_K.moved hW.alike hK, ?_, by rw [hU]; exact h2⟩⟩ rfl (by simp) h4.2.1 ?_ ?_ hd ⟨hm.1, hm.2⟩
  · rw [hU]; exact hA.move hW h3.2.1
  · show List.map (cv ρ) (as.reverse ++ st) = _
    rw [List.map_append, List.map_reverse]
  · exact lv_room (by rw [wsum_ok]; exact hw)
theorem kJ {cb' sb' pc' : Nat} {Q : Int → GH → Prop} (k : ∀ r G', Q r G' → GR G' → AW κ δ ρ0 n0 nL cb' sb' pc' l (vl r :: st) S G') : ∀ v G', qJ Q v S G' → GR G' → AW κ δ ρ0 n0 nL cb' sb' pc' l (v.toList ++ st) S G' := by
  rintro _ G' ⟨r, rfl, hq⟩ hG
  exact k r G' hq hG
theorem kJp {cb' sb' pc' : Nat} {Q : Int → Prop} (k : ∀ r, Q r → AW κ δ ρ0 n0 nL cb' sb' pc' l (vl r :: st) S G) : ∀ v G', qJ (fun r G' => G' = G ∧ Q r) v S G' → GR G' → AW κ δ ρ0 n0 nL cb' sb' pc' l (v.toList ++ st) S G' := by
  rintro _ _ ⟨r, rfl, rfl, hq⟩ _
  exact k r hq
theorem kFp {cb' sb' pc' : Nat} {Q : UInt32 → Prop} (k : ∀ r, Q r → AW κ δ ρ0 n0 nL cb' sb' pc' l (vf r :: st) S G) : ∀ v G', qF (fun r G' => G' = G ∧ Q r) v S G' → GR G' → AW κ δ ρ0 n0 nL cb' sb' pc' l (v.toList ++ st) S G' := by
  rintro _ _ ⟨r, rfl, rfl, hq⟩ _
  exact k r hq
-- the script
theorem b_scr (X : CX κ δ own b nL ret) (hsc : dSL δ = L ∧ dSx δ = xs) {i : Int} (hi : 0 ≤ i ∧ i < (L : Int)) (hd : decode b pc = .ok (.iaload, 1)) (k : AW κ δ ρ0 n0 nL cb sb (pc + 1) l (vi (xs i.toNat).toInt :: st) S G) : AW κ δ ρ0 n0 nL cb sb pc l (vi i :: vr (strB + 60) :: st) S G := by
  obtain ⟨p, lc, e, R, s, m, args, below, meth, c, Q⟩ := κ
  obtain ⟨hx, hb, hml, hown, hts, hret, hlk, hK, hN, hA, htr⟩ := X
  obtain ⟨rfl, rfl⟩ := hsc
  obtain ⟨hX, hbA, hL⟩ := hA.2.2.2.2.2.2.2.2.2.2.2.2.2.1
  have hbl : dSb δ < s.heap.size := by
    obtain ⟨scr, e, -⟩ := hX
    exact (Array.getElem?_eq_some_iff.mp e).1
  intro ρ H locs ls h1 h2 h3 h4
  have e9 : ρ (strB + 60) = dSb δ := h2.2.2.2.2.2.1
  have k9 := k ρ H locs ls h1 h2 h3 h4
  have e7 : (vi i :: vr (strB + 60) :: st).map (cv ρ) = .int (zI i) :: .ref (dSb δ) :: st.map (cv ρ) := by rw [← e9]; rfl
  rw [e7]
  have e6 : (zI i).toNatClampNeg = i.toNat := zI_cl ⟨by omega, by omega⟩
  refine va_sld hx hb hX hbl hbA h3 (zI_ix hi.1 hi.2 (by omega)) hd ?_
  rw [e6]
  have e5 : (vi ((dSx δ) i.toNat).toInt :: st).map (cv ρ) = .int ((dSx δ) i.toNat) :: st.map (cv ρ) := by
    show Value.int (zI _) :: _ = _
    rw [zI_of]
  rw [e5] at k9
  exact k9
theorem b_scrlen (X : CX κ δ own b nL ret) (hsc : dSL δ = L ∧ dSx δ = xs) (hd : decode b pc = .ok (.arraylength, 1)) (k : L ≤ 260 → AW κ δ ρ0 n0 nL cb sb (pc + 1) l (vi (L : Int) :: st) S G) : AW κ δ ρ0 n0 nL cb sb pc l (vr (strB + 60) :: st) S G := by
  obtain ⟨p, lc, e, R, s, m, args, below, meth, c, Q⟩ := κ
  obtain ⟨hx, hb, hml, hown, hts, hret, hlk, hK, hN, hA, htr⟩ := X
  obtain ⟨rfl, rfl⟩ := hsc
  obtain ⟨hX, hbA, hL⟩ := hA.2.2.2.2.2.2.2.2.2.2.2.2.2.1
  have hbl : dSb δ < s.heap.size := by
    obtain ⟨scr, e, -⟩ := hX
    exact (Array.getElem?_eq_some_iff.mp e).1
  intro ρ H locs ls h1 h2 h3 h4
  have e9 : ρ (strB + 60) = dSb δ := h2.2.2.2.2.2.1
  have k9 := k hL ρ H locs ls h1 h2 h3 h4
  have e7 : (vr (strB + 60) :: st).map (cv ρ) = .ref (dSb δ) :: st.map (cv ρ) := by rw [← e9]; rfl
  rw [e7]
  exact va_slen hx hb hX hbl hbA h3 hd k9
theorem b_tlen (X : CX κ δ own b nL ret) (E : EndR κ δ ρ0 n0 fr lo mc ms Qr Qx) {idx : Nat} (h0 : (1000 ≤ nn ∧ nn < 2000) ∧ G 272 1 = 0) (hl : Cond.methodLink own idx yJ0_length_8abf5 ∈ allW) (hws : wsum st ≤ 8) (hr : 2 ≤ fr ∧ 8 + (1 + 11) + 20 ≤ lo) (hm : cb ≤ mc ∧ sb ≤ ms) (hd : decode b pc = .ok (.invokevirtual idx, 3)) (k : AW κ δ ρ0 n0 nL cb sb (pc + 3) l (vi (tLen nn) :: st) (SF nn) G) : AW κ δ ρ0 n0 nL cb sb pc l (vr 272 :: st) (SF nn) G := by
  refine a_callV X E (mT_len h0.1 h0.2) okJ0 (t_is h0.1.1) hl w_instanceMethod_J0_length_8abf5 w_selects_J0_length_8abf5 w_initialized_RJ0 w_code_J0_length_8abf5 cpS_len pnS_len rfl hws hr hm hd (fun _ _ q => False.elim q) (kIp (fun r hr h => ?_))
  subst h
  exact k
theorem b_tchr (X : CX κ δ own b nL ret) (E : EndR κ δ ρ0 n0 fr lo mc ms Qr Qx) {idx : Nat} {i : Int} (h0 : (1000 ≤ nn ∧ nn < 2000) ∧ G 272 1 = 0) (hi : (0 ≤ i ∧ i < tLen nn) ∧ 0 ≤ G 273 i.toNat ∧ G 273 i.toNat < 128) (hl : Cond.methodLink own idx yJ0_charAt_5068e ∈ allW) (hws : wsum st ≤ 8) (hr : 4 ≤ fr ∧ 8 + (2 + 11) + 64 ≤ lo) (hm : cb ≤ mc ∧ sb ≤ ms) (hd : decode b pc = .ok (.invokevirtual idx, 3)) (k : AW κ δ ρ0 n0 nL cb sb (pc + 3) l (vi (G 273 i.toNat) :: st) (SF nn) G) : AW κ δ ρ0 n0 nL cb sb pc l (vi i :: vr 272 :: st) (SF nn) G := by
  refine a_callV X E (mT_chr h0.1 h0.2 hi.1 hi.2) okJ0 (t_is h0.1.1) hl w_instanceMethod_J0_charAt_5068e w_selects_J0_charAt_5068e w_initialized_RJ0 w_code_J0_charAt_5068e cpS_chr pnS_chr rfl hws hr hm hd (fun _ _ q => False.elim q) (kIp (fun r hr h => ?_))
  subst h
  exact k
end LROWS
/-- the law's numbers out of its script -/
def cellV (L : Nat) (xs : Nat → Int32) (i : Int) : Int := if L = 0 then 0 else (((xs (i % L).toNat).toInt.natAbs % 100000 : Nat) : Int)
theorem cellV_rng {L : Nat} {xs : Nat → Int32} {i : Int} : 0 ≤ cellV L xs i ∧ cellV L xs i < 100000 := by
  unfold cellV
  split
  · omega
  · have := Nat.mod_lt (xs (i % L).toNat).toInt.natAbs (show 100000 > 0 by omega)
    omega
def f_L_cell (L : Nat) (xs : Nat → Int32) (i1 : Int) (Q : Int → Prop) : Prop := 0 ≤ i1 ∧ Q (cellV L xs i1)
set_option maxHeartbeats 1000000 in
set_option maxRecDepth 100000 in
theorem m_L_cell {nn L : Nat} {xs : Nat → Int32} {i1 : Int} {G : GH} {Q : Int → Prop} (hi1 : inR i1) (hnn : 272 ≤ nn) (h : f_L_cell L xs i1 Q) : MtS L xs yL_cell cL_cell 2 (some .int) 1 16 0 0 [vr (strB + 60), vi i1] (SF nn) G (fun v S' G' => S' = SF nn ∧ qI (fun r9 G9 => G9 = G ∧ Q r9) v S' G') (fun E S' G' => S' = SF nn ∧ False) := by
  refine MtS.of (l0 := [some (vr (strB + 60)), some (vi i1)]) (by decide) (Nat.le_of_ble_eq_true rfl) rfl ?_
  intro κ δ ρ0 X9 E hsc hG
  replace X9 : CX κ δ RL cL_cell 2 (some .int) := X9
  obtain ⟨h0, hQ⟩ := h
  have key : ∀ r : Int, 0 ≤ r → r < 100000 → Q r → AW κ δ ρ0 (SF nn).1 2 0 0 21 [some (vr (strB + 60)), some (vi i1)] [vi r] (SF nn) G := fun r r0 r1 hq =>
    a_ireturn (pc := 21) X9 E rfl rfl (Nat.le_of_ble_eq_true rfl) (Nat.le_of_ble_eq_true rfl) dL_cell_21 ⟨rfl, _, rfl, ⟨by omega, by omega⟩, rfl, hq⟩
  refine a_aload_n (pc := 0) X9 dL_cell_0 rfl rfl ?_
  refine b_scrlen (pc := 1) X9 hsc dL_cell_1 (fun hL => ?_)
  refine a_if_ne (pc := 2) (tgt := 9) X9 dL_cell_2 rfl ⟨by omega, by omega⟩ (fun c => ?_) (fun c => ?_)
  · refine a_aload_n (pc := 9) X9 dL_cell_9 rfl rfl ?_
    refine a_iload_n (pc := 10) X9 dL_cell_10 rfl rfl ?_
    refine a_aload_n (pc := 11) X9 dL_cell_11 rfl rfl ?_
    refine b_scrlen (pc := 12) X9 hsc dL_cell_12 (fun _ => ?_)
    refine a_irem (pc := 13) X9 dL_cell_13 ⟨h0, hi1.2⟩ ⟨by omega, by omega⟩ ?_
    have r0 := Int.emod_nonneg i1 (show (L : Int) ≠ 0 by omega)
    have r1 := Int.emod_lt_of_pos i1 (show (0 : Int) < L by omega)
    refine b_scr (pc := 14) X9 hsc ⟨r0, r1⟩ dL_cell_14 ?_
    refine a_ldc (pc := 15) X9 (n := 100000) wCI_L_7 dL_cell_15 (by decide +kernel) ?_
    have hx : inR (xs (i1 % (L : Int)).toNat).toInt := inR_toInt _
    have e9 : cellV L xs i1 = (((xs (i1 % (L : Int)).toNat).toInt.natAbs % 100000 : Nat) : Int) := if_neg (by omega)
    rw [e9] at hQ
    generalize (xs (i1 % (L : Int)).toNat).toInt = x at hx hQ ⊢
    refine a_iremS (pc := 17) X9 dL_cell_17 hx (by decide) ?_
    have e8 : (if 0 ≤ x.tmod 100000 then x.tmod 100000 else 0 - x.tmod 100000) = ((x.natAbs % 100000 : Nat) : Int) := by
      have hn := Int.natAbs_tmod x 100000
      have h9 : (100000 : Int).natAbs = 100000 := rfl
      rw [h9] at hn
      omega
    refine a_abs (pc := 18) X9 E wM_L_8 ⟨?_, ?_⟩ (Nat.le_of_ble_eq_true rfl) (Nat.le_of_ble_eq_true rfl) ⟨Nat.le_of_ble_eq_true rfl, Nat.le_of_ble_eq_true rfl⟩ dL_cell_18 ?_
    · have hn := Int.natAbs_tmod x 100000
      have h9 : (100000 : Int).natAbs = 100000 := rfl
      rw [h9] at hn
      have := Nat.mod_lt x.natAbs (show 100000 > 0 by omega)
      omega
    · have hn := Int.natAbs_tmod x 100000
      have h9 : (100000 : Int).natAbs = 100000 := rfl
      rw [h9] at hn
      have := Nat.mod_lt x.natAbs (show 100000 > 0 by omega)
      omega
    · rw [e8]
      have := Nat.mod_lt x.natAbs (show 100000 > 0 by omega)
      exact key _ (by omega) (by omega) hQ
  · refine a_iconst (pc := 5) X9 dL_cell_5 ?_
    refine a_goto (pc := 6) (tgt := 21) X9 dL_cell_6 rfl ?_
    have e9 : cellV L xs i1 = 0 := if_pos (by omega)
    rw [e9] at hQ
    exact key 0 (by omega) (by omega) hQ
