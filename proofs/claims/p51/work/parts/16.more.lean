-- ===== Arrays.fill, String constants, a throw with a wide constant, a switch =====
def flG (G : GH) (a n : Nat) (v : Int) : GH := fun a' k => if a' = a ∧ k < n then v else G a' k
theorem GR.fl {G : GH} {a n : Nat} {v : Int} (h : GR G) (hv : inR v) : GR (flG G a n v) := by
  intro a' k
  unfold flG
  split
  · exact hv
  · exact h _ _
theorem flG_0 {G : GH} {a : Nat} {v : Int} : flG G a 0 v = G := by
  funext a' k
  simp [flG]
theorem flG_s {G : GH} {a i : Nat} {v : Int} : upG (flG G a i v) a i v = flG G a (i + 1) v := by
  funext a' k
  unfold upG flG
  by_cases h1 : a' = a
  · subst h1
    by_cases h2 : k = i
    · subst h2; simp
    · by_cases h3 : k < i
      · simp [h2, h3]; omega
      · have h4 : ¬ k < i + 1 := by omega
        simp [h2, h3, h4]
  · simp [h1]
set_option maxHeartbeats 1000000 in
set_option maxRecDepth 100000 in
theorem m_fill {S : ASt} {G : GH} {a n : Nat} {v : Int} (ha : isAt S a (.inl (0, n))) (hn : n < 2147483648) (hv : inR v) : Mt yJ7_fill_53178 cJ7_fill_53178 4 none 0 0 0 0 [vr a, vi v] S G (fun w S' G' => S' = S ∧ qV (fun G' => G' = flG G a n v) w S' G') (fun E S' G' => S' = S ∧ False) := by
  refine Mt.of (l0 := [some (vr a), some (vi v), none, none]) (by decide) (Nat.le_of_ble_eq_true rfl) rfl ?_
  intro κ δ ρ0 X E hG
  replace X : CX κ δ RJ7 cJ7_fill_53178 4 none := X
  have L : ∀ k i : Nat, i + k = n → AW κ δ ρ0 S.1 4 0 0 5 [some (vr a), some (vi v), some (vi (i : Int)), some (vi (n : Int))] [] S (flG G a i v) := by
    intro k
    induction k with
    | zero =>
      intro i hi
      refine a_iload_n (pc := 5) X dJ7_fill_53178_5 rfl rfl ?_
      refine a_iload_n (pc := 6) X dJ7_fill_53178_6 rfl rfl ?_
      refine a_icmp_ge (pc := 7) (tgt := 20) X dJ7_fill_53178_7 rfl ⟨by omega, by omega⟩ ⟨by omega, by omega⟩ (fun c => ?_) (fun c => ?_)
      · have e : i = n := by omega
        subst e
        exact a_return (pc := 20) X E (Nat.le_of_ble_eq_true rfl) (Nat.le_of_ble_eq_true rfl) dJ7_fill_53178_20 ⟨rfl, rfl, rfl⟩
      · omega
    | succ k ih =>
      intro i hi
      refine a_iload_n (pc := 5) X dJ7_fill_53178_5 rfl rfl ?_
      refine a_iload_n (pc := 6) X dJ7_fill_53178_6 rfl rfl ?_
      refine a_icmp_ge (pc := 7) (tgt := 20) X dJ7_fill_53178_7 rfl ⟨by omega, by omega⟩ ⟨by omega, by omega⟩ (fun c => ?_) (fun c => ?_)
      · omega
      · refine a_aload_n (pc := 10) X dJ7_fill_53178_10 rfl rfl ?_
        refine a_iload_n (pc := 11) X dJ7_fill_53178_11 rfl rfl ?_
        refine a_iload_n (pc := 12) X dJ7_fill_53178_12 rfl rfl ?_
        refine a_iast (pc := 13) X ha hn (j := i) rfl (by omega) hv dJ7_fill_53178_13 (fun _ => ?_)
        rw [flG_s]
        refine a_iinc (pc := 14) X dJ7_fill_53178_14 rfl (Nat.le_of_ble_eq_true rfl) rfl rfl ?_
        refine a_goto (pc := 17) (tgt := 5) X dJ7_fill_53178_17 rfl ?_
        exact ih (i + 1) (by omega)
  refine a_iconst (pc := 0) X dJ7_fill_53178_0 ?_
  refine a_istore_n (pc := 1) X dJ7_fill_53178_1 rfl (Nat.le_of_ble_eq_true rfl) rfl rfl ?_
  refine a_aload_n (pc := 2) X dJ7_fill_53178_2 rfl rfl ?_
  refine a_alen (pc := 3) X ha (by decide) dJ7_fill_53178_3 ?_
  refine a_istore_n (pc := 4) X dJ7_fill_53178_4 rfl (Nat.le_of_ble_eq_true rfl) rfl rfl ?_
  have k := L n 0 (by omega)
  rw [flG_0] at k
  exact k
theorem lk2 {x a b d : Int} (h : x < 0 ∨ 1 < x) : Op.lookupswitch.offset (#[(0, a), (1, b)] : Array (Int × Int)).toList d x = d := by
  show (if (0 : Int) = x then a else if (1 : Int) = x then b else d) = d
  rw [if_neg (by omega), if_neg (by omega)]
def slen (w : Nat) : Int := ((strL.getD w 0 : Nat) : Int)
def schr (w j : Nat) : Int := (((strT.getD w []).getD j 0) : Int32).toInt
theorem slen_inR {w : Nat} : inR (slen w) := by
  have h : ∀ w, w < 15 → strL.getD w 0 ≤ 27 := by decide
  by_cases hw : w < 15
  · have := h w hw
    unfold slen
    exact ⟨by omega, by omega⟩
  · have e : strL.getD w 0 = 0 := by
      rw [List.getD_eq_getElem?_getD, List.getElem?_eq_none (by simp [strL]; omega)]; rfl
    unfold slen
    rw [e]; decide
theorem schr_inR {w j : Nat} : inR (schr w j) := inR_toInt _
theorem strR_lt : ∀ q ∈ strR, q.2.2.2 < 15 := by decide
section ROWS4
variable {κ : Cx} {δ : Dx} {own : String} {b : ByteArray} {nL : Nat} {ret : Option FieldType} {ρ0 : Nat → Nat} {n0 cb sb pc fr lo mc ms : Nat} {l : AL} {st : List AV} {S : ASt} {G : GH} {Qr : Option AV → ASt → GH → Prop} {Qx : String → ASt → GH → Prop}
theorem b_ldcs (X : CX κ δ own b nL ret) {is i : Nat} {text : String} (hs : (own, is, text, i) ∈ strR) (hd : decode b pc = .ok (.ldc is, 2)) (k : AW κ δ ρ0 n0 nL cb sb (pc + 2) l (vr (strB + i) :: st) S G) : AW κ δ ρ0 n0 nL cb sb pc l st S G := by
  obtain ⟨p, lc, e, R, s, m, args, below, meth, c, Q⟩ := κ
  obtain ⟨hx, hb, hml, hown, hts, hret, hlk, hK, hN, hA, htr⟩ := X
  intro ρ H locs ls h1 h2 h3 h4
  refine va_ldcS hx hb hown (hA.2.2.2.2.2.1 _ hs) hd ?_
  have k9 := k ρ H locs ls h1 h2 h3 h4
  have e9 := (h2.2.2.2.2.1 i (strR_lt _ hs)).1
  have e8 : (vr (strB + i) :: st).map (cv ρ) = .ref ((dKK δ) i) :: st.map (cv ρ) := by
    rw [← e9]; rfl
  rw [e8] at k9
  exact k9
theorem s_value (X : CX κ δ own b nL ret) {w : Nat} (hw : w < 15) (hown9 : own = RJ0) (hd : decode b pc = .ok (.getfield 9, 3)) (k : AW κ δ ρ0 n0 nL cb sb (pc + 3) l (vr (strB + 20 + w) :: st) S G) : AW κ δ ρ0 n0 nL cb sb pc l (vr (strB + w) :: st) S G := by
  obtain ⟨p, lc, e, R, s, m, args, below, meth, c, Q⟩ := κ
  subst hown9
  obtain ⟨hx, hb, hml, hown, hts, hret, hlk, hK, hN, hA, htr⟩ := X
  intro ρ H locs ls h1 h2 h3 h4
  have e9 := h2.2.2.2.2.1 w hw
  have k9 := k ρ H locs ls h1 h2 h3 h4
  have e8 : (vr (strB + w) :: st).map (cv ρ) = .ref ((dKK δ) w) :: st.map (cv ρ) := by rw [← e9.1]; rfl
  have e7 : (vr (strB + 20 + w) :: st).map (cv ρ) = .ref ((dVV δ) w) :: st.map (cv ρ) := by rw [← e9.2]; rfl
  rw [e8]; rw [e7] at k9
  exact vk_getf hx hb (hA.2.2.2.2.1.1 w hw).2.2.1 h3 hown (hts _ wF_J0_9) (fun _ h => h) hd k9
theorem s_coder (X : CX κ δ own b nL ret) {w : Nat} (hw : w < 15) (hown9 : own = RJ0) (hd : decode b pc = .ok (.getfield 15, 3)) (k : AW κ δ ρ0 n0 nL cb sb (pc + 3) l (vi 0 :: st) S G) : AW κ δ ρ0 n0 nL cb sb pc l (vr (strB + w) :: st) S G := by
  obtain ⟨p, lc, e, R, s, m, args, below, meth, c, Q⟩ := κ
  subst hown9
  obtain ⟨hx, hb, hml, hown, hts, hret, hlk, hK, hN, hA, htr⟩ := X
  intro ρ H locs ls h1 h2 h3 h4
  have e9 := h2.2.2.2.2.1 w hw
  have k9 := k ρ H locs ls h1 h2 h3 h4
  have e8 : (vr (strB + w) :: st).map (cv ρ) = .ref ((dKK δ) w) :: st.map (cv ρ) := by rw [← e9.1]; rfl
  rw [e8]
  exact vk_getf hx hb (hA.2.2.2.2.1.1 w hw).2.1 h3 hown (hts _ wF_J0_15) (fun _ h => h) hd k9
theorem s_compact (X : CX κ δ own b nL ret) (hown9 : own = RJ0) (hd : decode b pc = .ok (.getstatic 38, 3)) (k : AW κ δ ρ0 n0 nL cb sb (pc + 3) l (vi 1 :: st) S G) : AW κ δ ρ0 n0 nL cb sb pc l st S G := by
  obtain ⟨p, lc, e, R, s, m, args, below, meth, c, Q⟩ := κ
  subst hown9
  obtain ⟨hx, hb, hml, hown, hts, hret, hlk, hK, hN, hA, htr⟩ := X
  intro ρ H locs ls h1 h2 h3 h4
  exact va_gets hx hb hA.2.2.1 h3 hown (hts _ wF_J0_38) (fun _ h => h) hd (k ρ H locs ls h1 h2 h3 h4)
theorem s_alen (X : CX κ δ own b nL ret) {w : Nat} (hw : w < 15) (hd : decode b pc = .ok (.arraylength, 1)) (k : AW κ δ ρ0 n0 nL cb sb (pc + 1) l (vi (slen w) :: st) S G) : AW κ δ ρ0 n0 nL cb sb pc l (vr (strB + 20 + w) :: st) S G := by
  obtain ⟨p, lc, e, R, s, m, args, below, meth, c, Q⟩ := κ
  obtain ⟨hx, hb, hml, hown, hts, hret, hlk, hK, hN, hA, htr⟩ := X
  intro ρ H locs ls h1 h2 h3 h4
  have e9 := h2.2.2.2.2.1 w hw
  have k9 := k ρ H locs ls h1 h2 h3 h4
  have e7 : (vr (strB + 20 + w) :: st).map (cv ρ) = .ref ((dVV δ) w) :: st.map (cv ρ) := by rw [← e9.2]; rfl
  rw [e7]
  exact va_tlen hx hb (hA.2.2.2.2.1.1 w hw).2.2.2 h3 rfl hd k9
theorem s_bald (X : CX κ δ own b nL ret) {w : Nat} {i : Int} (hw : w < 15) (hi : 0 ≤ i ∧ i < slen w) (hd : decode b pc = .ok (.baload, 1)) (k : AW κ δ ρ0 n0 nL cb sb (pc + 1) l (vi (schr w i.toNat) :: st) S G) : AW κ δ ρ0 n0 nL cb sb pc l (vi i :: vr (strB + 20 + w) :: st) S G := by
  obtain ⟨p, lc, e, R, s, m, args, below, meth, c, Q⟩ := κ
  obtain ⟨hx, hb, hml, hown, hts, hret, hlk, hK, hN, hA, htr⟩ := X
  intro ρ H locs ls h1 h2 h3 h4
  have e9 := h2.2.2.2.2.1 w hw
  have k9 := k ρ H locs ls h1 h2 h3 h4
  have hl := (slen_inR (w := w)).2
  have e7 : (vi i :: vr (strB + 20 + w) :: st).map (cv ρ) = .int (zI i) :: .ref ((dVV δ) w) :: st.map (cv ρ) := by rw [← e9.2]; rfl
  rw [e7]
  have e6 : (zI i).toNatClampNeg = i.toNat := zI_cl ⟨by omega, by omega⟩
  refine va_tb (v := .int (zI (schr w i.toNat))) hx hb (hA.2.2.2.2.1.1 w hw).2.2.2 h3 (zI_ix hi.1 (by unfold slen at hi; exact hi.2) (by unfold slen at hl; omega)) ?_ hd k9
  rw [e6]
  show Value.int _ = _
  unfold schr
  rw [zI_of]
theorem a_i2c (X : CX κ δ own b nL ret) {x : Int} (h : 0 ≤ x ∧ x < 65536) (hd : decode b pc = .ok (.i2c, 1)) (k : AW κ δ ρ0 n0 nL cb sb (pc + 1) l (vi x :: st) S G) : AW κ δ ρ0 n0 nL cb sb pc l (vi x :: st) S G := by
  obtain ⟨p, lc, e, R, s, m, args, below, meth, c, Q⟩ := κ
  obtain ⟨hx, hb, hml, hown, hts, hret, hlk, hK, hN, hA, htr⟩ := X
  intro ρ H locs ls h1 h2 h3 h4
  refine lv_i2c hx hb hd ?_ (k ρ H locs ls h1 h2 h3 h4)
  obtain ⟨n, rfl⟩ := Int.eq_ofNat_of_zero_le h.1
  apply Int32.toBitVec_inj.mp
  apply BitVec.eq_of_toNat_eq
  show (BitVec.ofInt 32 (n : Int) % 65536#32).toNat = (BitVec.ofInt 32 (n : Int)).toNat
  have e1 : (BitVec.ofInt 32 (n : Int)).toNat = n := by rw [BitVec.ofInt_natCast, BitVec.toNat_ofNat]; omega
  rw [BitVec.toNat_umod, e1]
  show n % 65536 = n
  omega
/-- a call of a String constant's method that keeps all -/
theorem a_callVS (X : CX κ δ own b nL ret) (E : EndR κ δ ρ0 n0 fr lo mc ms Qr Qx) {y : MethodName} {b' : ByteArray} {nL' : Nat} {ret' : Option FieldType} {fr' lo' mc' ms' idx w : Nat} {as stk : List AV} {Qr' : Option AV → ASt → GH → Prop} {Qx' : String → ASt → GH → Prop} (hw9 : w < 15) (M : Mt y b' nL' ret' fr' lo' mc' ms' (vr (strB + w) :: as) S G (fun v S' G' => S' = S ∧ Qr' v S' G') (fun E S' G' => S' = S ∧ Qx' E S' G'))
    (hl : Cond.methodLink own idx y ∈ allW) (hi : Cond.instanceMethod y ∈ allW) (hs : Cond.selects RJ0 y y ∈ allW) (hini : Cond.initialized y.cls ∈ allW) (hcode : Cond.code y b' nL' ret' ∈ allW) (hy : clsPlain y) (hn : pnum y = some as.length)
    (hstk : as.reverse ++ vr (strB + w) :: st = stk) (hw : wsum st ≤ 8) (hr : fr' + 1 ≤ fr ∧ 8 + (nL' + 11) + lo' ≤ lo) (hm : cb + mc' ≤ mc ∧ sb + ms' ≤ ms) (hd : decode b pc = .ok (.invokevirtual idx, 3))
    (kx : ∀ E G', Qx' E S G' → Qx E S G') (kk : ∀ v G', Qr' v S G' → GR G' → AW κ δ ρ0 n0 nL (cb + mc') (sb + ms') (pc + 3) l (v.toList ++ st) S G') : AW κ δ ρ0 n0 nL cb sb pc l stk S G := by
  obtain ⟨p, lc, e, R, s, m, args, below, meth, c, Q⟩ := κ
  have X0 := X
  have E0 := E
  obtain ⟨hx, hb, hml, hown, hts, hret, hlk, hK, hN, hA, htr⟩ := X
  obtain ⟨-, rfl, -⟩ := E
  intro ρ H locs ls h1 h2 h3 h4
  subst hstk
  have hrecv : ∃ cell : Cell, H[ρ (strB + w)]? = some cell ∧ cell.vm.isStatics = false ∧ s.vm.findClass RJ0 = some cell.cls := by
    rw [(h2.2.2.2.2.1 w hw9).1]
    exact vk_recv hA.2.2.2.2.1 hw9 h3
  refine after_call X0 E0 rfl h1 h3 h4 (a := (Value.ref (ρ (strB + w)) :: as.map (cv ρ)).toArray) ?_ hm kx kk
  refine vx_runV (As := as.map (cv ρ)) (n := as.length) ⟨hx, hb, hml, hown, hts⟩ (M lc δ ρ htr)
    ⟨⟨rfl, rfl, hr.1, hr.2, payA hts hcode, List.mem_cons_self, hts _ hcode, hts _ hini, hy, pnum_len hn, hts _ hl⟩, hts _ hi, hts _ hs⟩
    ⟨PreA.blind, hrecv, fun U hU hW => ⟨rfl, by rw [hU]; exact Nat.le_trans hN h3.1, va_K.moved hW.alike hK, ?_, by rw [hU]; exact h2⟩⟩ rfl (by simp) h4.2.1 ?_ ?_ hd ⟨hm.1, hm.2⟩
  · rw [hU]; exact hA.move hW h3.2.1
  · show List.map (cv ρ) (as.reverse ++ vr (strB + w) :: st) = _
    rw [List.map_append, List.map_reverse]; rfl
  · exact lv_room (by rw [wsum_ok]; exact hw)
end ROWS4
theorem pnS_coder : pnum yJ0_coder_7d493 = some 0 := by decide +kernel
theorem cpS_coder : clsPlain yJ0_coder_7d493 := ⟨by decide +kernel, by decide +kernel⟩
theorem pnS_isL : pnum yJ0_isLatin1_aae02 = some 0 := by decide +kernel
theorem cpS_isL : clsPlain yJ0_isLatin1_aae02 := ⟨by decide +kernel, by decide +kernel⟩
theorem pnS_len : pnum yJ0_length_8abf5 = some 0 := by decide +kernel
theorem cpS_len : clsPlain yJ0_length_8abf5 := ⟨by decide +kernel, by decide +kernel⟩
theorem pnS_chr : pnum yJ0_charAt_5068e = some 1 := by decide +kernel
theorem cpS_chr : clsPlain yJ0_charAt_5068e := ⟨by decide +kernel, by decide +kernel⟩
theorem pnS_l1 : pnum yJ1_charAt_3b067 = some 2 := by decide +kernel
theorem cpS_l1 : clsPlain yJ1_charAt_3b067 := ⟨by decide +kernel, by decide +kernel⟩
theorem pnS_chk : pnum yJ0_checkIndex_df160 = some 2 := by decide +kernel
theorem cpS_chk : clsPlain yJ0_checkIndex_df160 := ⟨by decide +kernel, by decide +kernel⟩
theorem pnS_pre : pnum yJ3_checkIndex_8e157 = some 3 := by decide +kernel
theorem cpS_pre : clsPlain yJ3_checkIndex_8e157 := ⟨by decide +kernel, by decide +kernel⟩
set_option maxHeartbeats 1000000 in
set_option maxRecDepth 100000 in
theorem mS_coder {S : ASt} {G : GH} {w : Nat} (hw : w < 15) : Mt yJ0_coder_7d493 cJ0_coder_7d493 1 (some .byte) 0 0 0 0 [vr (strB + w)] S G (fun v S' G' => S' = S ∧ qI (fun r G' => G' = G ∧ r = 0) v S' G') (fun E S' G' => S' = S ∧ False) := by
  refine Mt.of (l0 := [some (vr (strB + w))]) (by decide) (Nat.le_of_ble_eq_true rfl) rfl ?_
  intro κ δ ρ0 X E hG
  replace X : CX κ δ RJ0 cJ0_coder_7d493 1 (some .byte) := X
  refine s_compact (pc := 0) X rfl dJ0_coder_7d493_0 ?_
  refine a_if_eq (pc := 3) (tgt := 13) X dJ0_coder_7d493_3 rfl (by decide) (fun c => absurd c (by decide)) (fun c => ?_)
  refine a_aload_n (pc := 6) X dJ0_coder_7d493_6 rfl rfl ?_
  refine s_coder (pc := 7) X hw rfl dJ0_coder_7d493_7 ?_
  refine a_goto (pc := 10) (tgt := 14) X dJ0_coder_7d493_10 rfl ?_
  exact a_ireturn (pc := 14) X E rfl rfl (Nat.le_of_ble_eq_true rfl) (Nat.le_of_ble_eq_true rfl) dJ0_coder_7d493_14 ⟨rfl, _, rfl, by decide, rfl, rfl⟩
set_option maxHeartbeats 1000000 in
set_option maxRecDepth 100000 in
theorem mS_isL {S : ASt} {G : GH} {w : Nat} (hw : w < 15) : Mt yJ0_isLatin1_aae02 cJ0_isLatin1_aae02 1 (some .boolean) 0 0 0 0 [vr (strB + w)] S G (fun v S' G' => S' = S ∧ qI (fun r G' => G' = G ∧ r = 1) v S' G') (fun E S' G' => S' = S ∧ False) := by
  refine Mt.of (l0 := [some (vr (strB + w))]) (by decide) (Nat.le_of_ble_eq_true rfl) rfl ?_
  intro κ δ ρ0 X E hG
  replace X : CX κ δ RJ0 cJ0_isLatin1_aae02 1 (some .boolean) := X
  refine s_compact (pc := 0) X rfl dJ0_isLatin1_aae02_0 ?_
  refine a_if_eq (pc := 3) (tgt := 17) X dJ0_isLatin1_aae02_3 rfl (by decide) (fun c => absurd c (by decide)) (fun c => ?_)
  refine a_aload_n (pc := 6) X dJ0_isLatin1_aae02_6 rfl rfl ?_
  refine s_coder (pc := 7) X hw rfl dJ0_isLatin1_aae02_7 ?_
  refine a_if_ne (pc := 10) (tgt := 17) X dJ0_isLatin1_aae02_10 rfl (by decide) (fun c => absurd rfl c) (fun c => ?_)
  refine a_iconst (pc := 13) X dJ0_isLatin1_aae02_13 ?_
  refine a_goto (pc := 14) (tgt := 18) X dJ0_isLatin1_aae02_14 rfl ?_
  exact a_ireturn (pc := 18) X E rfl rfl (Nat.le_of_ble_eq_true rfl) (Nat.le_of_ble_eq_true rfl) dJ0_isLatin1_aae02_18 ⟨rfl, _, rfl, by decide, rfl, rfl⟩
set_option maxHeartbeats 1000000 in
set_option maxRecDepth 100000 in
theorem mS_len {S : ASt} {G : GH} {w : Nat} (hw : w < 15) : Mt yJ0_length_8abf5 cJ0_length_8abf5 1 (some .int) 1 20 0 0 [vr (strB + w)] S G (fun v S' G' => S' = S ∧ qI (fun r G' => G' = G ∧ r = slen w) v S' G') (fun E S' G' => S' = S ∧ False) := by
  refine Mt.of (l0 := [some (vr (strB + w))]) (by decide) (Nat.le_of_ble_eq_true rfl) rfl ?_
  intro κ δ ρ0 X E hG
  replace X : CX κ δ RJ0 cJ0_length_8abf5 1 (some .int) := X
  refine a_aload_n (pc := 0) X dJ0_length_8abf5_0 rfl rfl ?_
  refine s_value (pc := 1) X hw rfl dJ0_length_8abf5_1 ?_
  refine s_alen (pc := 4) X hw dJ0_length_8abf5_4 ?_
  refine a_aload_n (pc := 5) X dJ0_length_8abf5_5 rfl rfl ?_
  refine a_callVS (pc := 6) X E hw (mS_coder hw) wM_J0_335 w_instanceMethod_J0_coder_7d493 w_selects_J0_coder_7d493 w_initialized_RJ0 w_code_J0_coder_7d493 cpS_coder pnS_coder rfl (Nat.le_of_ble_eq_true rfl) ⟨Nat.le_of_ble_eq_true rfl, Nat.le_of_ble_eq_true rfl⟩ ⟨Nat.le_of_ble_eq_true rfl, Nat.le_of_ble_eq_true rfl⟩ dJ0_length_8abf5_6 (fun _ _ q => False.elim q) (kIp (fun r hr h => ?_))
  subst h
  refine b_ishr (pc := 9) X dJ0_length_8abf5_9 ?_
  have e9 : zShr (slen w) 0 = slen w := by
    unfold zShr slen
    have hl := (slen_inR (w := w)).2
    unfold slen at hl
    have := zI_shr (x := strL.getD w 0) (y := 0) (by omega) (by omega)
    rw [show zI ((0 : Nat) : Int) = zI 0 from rfl] at this
    rw [this]
    simp only [Nat.pow_zero, Nat.div_one]
    exact zI_toInt ⟨by omega, by omega⟩
  rw [e9]
  exact a_ireturn (pc := 10) X E rfl rfl (Nat.le_of_ble_eq_true rfl) (Nat.le_of_ble_eq_true rfl) dJ0_length_8abf5_10 ⟨rfl, _, rfl, slen_inR, rfl, rfl⟩
set_option maxHeartbeats 1000000 in
set_option maxRecDepth 100000 in
theorem mS_pre {S : ASt} {G : GH} {i n : Int} {o : Option Nat} (hi : 0 ≤ i ∧ i < n) (hi2 : inR i) (hn : inR n) : Mt yJ3_checkIndex_8e157 cJ3_checkIndex_8e157 3 (some .int) 0 0 0 0 [vi i, vi n, vq o] S G (fun v S' G' => S' = S ∧ qI (fun r G' => G' = G ∧ r = i) v S' G') (fun E S' G' => S' = S ∧ False) := by
  refine Mt.of (l0 := [some (vi i), some (vi n), some (vq o)]) (by decide) (Nat.le_of_ble_eq_true rfl) rfl ?_
  intro κ δ ρ0 X E hG
  replace X : CX κ δ RJ3 cJ3_checkIndex_8e157 3 (some .int) := X
  refine a_iload_n (pc := 0) X dJ3_checkIndex_8e157_0 rfl rfl ?_
  refine a_if_lt (pc := 1) (tgt := 9) X dJ3_checkIndex_8e157_1 rfl hi2 (fun c => by omega) (fun c => ?_)
  refine a_iload_n (pc := 4) X dJ3_checkIndex_8e157_4 rfl rfl ?_
  refine a_iload_n (pc := 5) X dJ3_checkIndex_8e157_5 rfl rfl ?_
  refine a_icmp_lt (pc := 6) (tgt := 16) X dJ3_checkIndex_8e157_6 rfl hi2 hn (fun c => ?_) (fun c => by omega)
  refine a_iload_n (pc := 16) X dJ3_checkIndex_8e157_16 rfl rfl ?_
  exact a_ireturn (pc := 17) X E rfl rfl (Nat.le_of_ble_eq_true rfl) (Nat.le_of_ble_eq_true rfl) dJ3_checkIndex_8e157_17 ⟨rfl, _, rfl, hi2, rfl, rfl⟩
def noFar (S : ASt) : Prop := ∀ a k q, S.2.2 a k = some q → q ≠ strB + 70
theorem SF_noFar {n : Nat} : noFar (SF n) := by
  intro a k q h
  have h1 : ∀ l ∈ rfL, ∀ o ∈ l, o ≠ some (strB + 70) := by decide +kernel
  intro e
  subst e
  have h : rfX a k = some (strB + 70) := h
  unfold rfX at h
  split at h
  · exact absurd (Option.some.inj h) (by decide)
  unfold rfF at h
  rw [List.getD_eq_getElem?_getD, List.getD_eq_getElem?_getD] at h
  cases h2 : rfL[a]? with
  | none => rw [h2] at h; simp at h
  | some l =>
    rw [h2] at h
    simp only [Option.getD_some] at h
    cases h3 : l[k]? with
    | none => rw [h3] at h; simp at h
    | some o =>
      rw [h3] at h
      simp only [Option.getD_some] at h
      exact h1 l (List.mem_of_getElem? h2) o (List.mem_of_getElem? h3) h
theorem Rep.far {δ : Dx} {ρ ρ9 : Nat → Nat} {S : ASt} {G : GH} {H : Heap} (hf : noFar S) (h : Rep δ ρ S G H) (he : ∀ a, a ≠ strB + 70 → ρ9 a = ρ a) : Rep δ ρ9 S G H := by
  obtain ⟨h1, h2, h3, h4, h5⟩ := h
  have hm : ∀ a k, (S.2.2 a k).map ρ9 = (S.2.2 a k).map ρ := by
    intro a k
    cases h6 : S.2.2 a k with
    | none => rfl
    | some q => simp [he q (hf a k q h6)]
  have hc : ∀ a, cellOf δ.2.2.1 ρ9 S G a = cellOf δ.2.2.1 ρ S G a := by
    intro a
    unfold cellOf
    cases S.2.1 a with
    | inr ci => simp [fvals, hm]
    | inl q => simp [avals, hm]
  have hw : wl δ.2.2.1 ρ9 S G = wl δ.2.2.1 ρ S G := by
    unfold wl
    apply List.map_congr_left
    intro a ha
    rw [hc, he a (by have := List.mem_range.mp ha; omega)]
  exact ⟨by rw [hw]; exact h1, by rw [hw]; exact h2, h3, h4, h5.re (fun a _ ha => he a ha)⟩
section ROWS5
variable {κ : Cx} {δ : Dx} {own : String} {b : ByteArray} {nL : Nat} {ret : Option FieldType} {ρ0 : Nat → Nat} {n0 cb sb pc fr lo mc ms : Nat} {l : AL} {st : List AV} {S : ASt} {G : GH} {Qr : Option AV → ASt → GH → Prop} {Qx : String → ASt → GH → Prop}
theorem s_check (hf : noFar S) (X : CX κ δ RJ0 cJ0_checkIndex_df160 2 none) (E : EndR κ δ ρ0 n0 1 22 0 0 Qr Qx) {i n : Int} (hi : 0 ≤ i ∧ i < n) (hi2 : inR i) (hn : inR n) (k : AW κ δ ρ0 n0 2 cb sb 9 l st S G) (hws : wsum st ≤ 5) (hcb : cb = 0 ∧ sb = 0) : AW κ δ ρ0 n0 2 cb sb 2 l (vi n :: vi i :: st) S G := by
  obtain ⟨p, lc, e, R, s, m, args, below, meth, c, Q⟩ := κ
  obtain ⟨rfl, rfl⟩ := hcb
  have X0 := X
  obtain ⟨hx, hb, hml, hown, hts, hret, hlk, hK, hN, hA, htr⟩ := X
  obtain ⟨-, rfl, -⟩ := E
  intro ρ H locs ls h1 h2 h3 h4
  have key : ∀ (o : Option Nat) (ρ9 : Nat → Nat), (∀ a, a ≠ strB + 70 → ρ9 a = ρ a) → W p lc e { frames := 1, cells := 0, slots := 0, locals := 22 } s m args below meth c H locs 0 0 Q (F0 m (2 + 3) ls (cv ρ9 (vq o) :: .int (zI n) :: .int (zI i) :: st.map (cv ρ))) := by
    intro o ρ9 he
    have hr9 := h2.far hf he
    refine call_go (δ := δ) (ρ := ρ9) (n1 := S.1) (Qr := fun v S' G' => S' = S ∧ qI (fun r G' => G' = G ∧ r = i) v S' G') (Qx := fun E S' G' => S' = S ∧ False) (a := ([vi i, vi n, vq o].map (cv ρ9)).toArray) (rest := st.map (cv ρ)) (mc := 0) (ms := 0) ?_ h3 ?_ ?_
    · refine vx_runS (As := [vi i, vi n, vq o].map (cv ρ9)) (n := 3) ⟨hx, hb, hml, hown, hts⟩ (mS_pre (S := S) (G := G) (o := o) hi hi2 hn lc δ ρ9 htr)
        ⟨⟨rfl, rfl, Nat.le_of_ble_eq_true rfl, Nat.le_of_ble_eq_true rfl, payA hts w_code_J3_checkIndex_8e157, List.mem_cons_self, hts _ w_code_J3_checkIndex_8e157, hts _ w_initialized_RJ3, cpS_pre, pnum_len pnS_pre, hts _ wM_J0_1059⟩, hts _ w_static_J3_checkIndex_8e157⟩
        ⟨PreA.blind, fun U hU hW => ⟨rfl, by rw [hU]; exact Nat.le_trans hN h3.1, va_K.moved hW.alike hK, ?_, by rw [hU]; exact hr9⟩⟩ rfl (by simp) h4.2.1 ?_ ?_ dJ0_checkIndex_df160_5 ⟨Nat.le_of_ble_eq_true rfl, Nat.le_of_ble_eq_true rfl⟩
      · rw [hU]; exact hA.move hW h3.2.1
      · rfl
      · exact lv_room (by rw [wsum_ok]; omega)
    · intro E ce q9 S' G' ρ' H1 locs1 hq
      exact hq.2.elim
    · intro v S' G' ρ' H1 locs1 hq he2 hrep hS1
      obtain ⟨rfl, r, rfl, hr, rfl, rfl⟩ := hq
      have hρ : ρ' = ρ9 := funext fun a => he2 a (by omega)
      subst hρ
      have hrep2 : Rep δ ρ S' G' H1 := hrep.far hf (fun a ha => (he a ha).symm)
      refine lv_pop hx hb dJ0_checkIndex_df160_8 rfl ?_
      exact k ρ H1 locs1 ls h1 hrep2 hS1 h4
  rcases hA.2.2.2.1 with hz | ⟨t, hz⟩
  · refine va_gets hx hb hz h3 hown (hts _ wF_J0_1053) (fun _ h => h) dJ0_checkIndex_df160_2 ?_
    exact key none ρ (fun _ _ => rfl)
  · refine va_gets hx hb hz h3 hown (hts _ wF_J0_1053) (fun _ h => h) dJ0_checkIndex_df160_2 ?_
    have k9 := key (some (strB + 70)) (fun a => if a = strB + 70 then t else ρ a) (fun a ha => by simp [ha])
    have e9 : cv (fun a => if a = strB + 70 then t else ρ a) (vq (some (strB + 70))) = .ref t := by simp [cv, vq, va_rf]
    rw [e9] at k9
    exact k9
end ROWS5
set_option maxHeartbeats 1000000 in
set_option maxRecDepth 100000 in
theorem mS_chk {S : ASt} {G : GH} {i n : Int} (hf : noFar S) (hi : 0 ≤ i ∧ i < n) (hi2 : inR i) (hn : inR n) : Mt yJ0_checkIndex_df160 cJ0_checkIndex_df160 2 none 1 22 0 0 [vi i, vi n] S G (fun v S' G' => S' = S ∧ qV (fun G' => G' = G) v S' G') (fun E S' G' => S' = S ∧ False) := by
  refine Mt.of (l0 := [some (vi i), some (vi n)]) (by decide) (Nat.le_of_ble_eq_true rfl) rfl ?_
  intro κ δ ρ0 X E hG
  replace X : CX κ δ RJ0 cJ0_checkIndex_df160 2 none := X
  refine a_iload_n (pc := 0) X dJ0_checkIndex_df160_0 rfl rfl ?_
  refine a_iload_n (pc := 1) X dJ0_checkIndex_df160_1 rfl rfl ?_
  refine s_check hf X E hi hi2 hn ?_ (Nat.le_of_ble_eq_true rfl) ⟨rfl, rfl⟩
  exact a_return (pc := 9) X E (Nat.le_of_ble_eq_true rfl) (Nat.le_of_ble_eq_true rfl) dJ0_checkIndex_df160_9 ⟨rfl, rfl, rfl⟩
theorem strT_rng : ∀ w, w < 15 → ∀ x ∈ strT.getD w [], 0 ≤ x.toInt ∧ x.toInt < 128 := by decide +kernel
theorem schr_rng {w j : Nat} (hw : w < 15) : 0 ≤ schr w j ∧ schr w j < 128 := by
  unfold schr
  rw [List.getD_eq_getElem?_getD (l := strT.getD w [])]
  cases h : (strT.getD w [])[j]? with
  | none => simp
  | some x => exact strT_rng w hw x (List.mem_of_getElem? h)
theorem zAnd_255 : ∀ n : Nat, n < 128 → zAnd (n : Int) 255 = n := by decide +kernel
theorem zAnd_chr {w j : Nat} (hw : w < 15) : zAnd (schr w j) 255 = schr w j := by
  obtain ⟨h1, h2⟩ := schr_rng (j := j) hw
  obtain ⟨n, e⟩ := Int.eq_ofNat_of_zero_le h1
  rw [e]
  exact zAnd_255 n (by omega)
set_option maxHeartbeats 1000000 in
set_option maxRecDepth 100000 in
theorem mS_l1 {S : ASt} {G : GH} {w : Nat} {i : Int} (hf : noFar S) (hw : w < 15) (hi : 0 ≤ i ∧ i < slen w) : Mt yJ1_charAt_3b067 cJ1_charAt_3b067 2 (some .char) 2 43 0 0 [vr (strB + 20 + w), vi i] S G (fun v S' G' => S' = S ∧ qI (fun r G' => G' = G ∧ r = schr w i.toNat) v S' G') (fun E S' G' => S' = S ∧ False) := by
  refine Mt.of (l0 := [some (vr (strB + 20 + w)), some (vi i)]) (by decide) (Nat.le_of_ble_eq_true rfl) rfl ?_
  intro κ δ ρ0 X E hG
  replace X : CX κ δ RJ1 cJ1_charAt_3b067 2 (some .char) := X
  have hl := (slen_inR (w := w)).2
  refine a_iload_n (pc := 0) X dJ1_charAt_3b067_0 rfl rfl ?_
  refine a_aload_n (pc := 1) X dJ1_charAt_3b067_1 rfl rfl ?_
  refine s_alen (pc := 2) X hw dJ1_charAt_3b067_2 ?_
  refine a_callS (pc := 3) X E (mS_chk hf hi ⟨by omega, by omega⟩ slen_inR) wM_J1_9 w_static_J0_checkIndex_df160 w_initialized_RJ0 w_code_J0_checkIndex_df160 cpS_chk pnS_chk rfl (Nat.le_of_ble_eq_true rfl) ⟨Nat.le_of_ble_eq_true rfl, Nat.le_of_ble_eq_true rfl⟩ ⟨Nat.le_of_ble_eq_true rfl, Nat.le_of_ble_eq_true rfl⟩ dJ1_charAt_3b067_3 (fun _ _ q => False.elim q) (kV (fun G1 h hG1 => ?_))
  subst h
  refine a_aload_n (pc := 6) X dJ1_charAt_3b067_6 rfl rfl ?_
  refine a_iload_n (pc := 7) X dJ1_charAt_3b067_7 rfl rfl ?_
  refine s_bald (pc := 8) X hw hi dJ1_charAt_3b067_8 ?_
  refine a_sipush (pc := 9) X dJ1_charAt_3b067_9 rfl ?_
  refine b_iand (pc := 12) X dJ1_charAt_3b067_12 ?_
  rw [zAnd_chr hw]
  obtain ⟨r1, r2⟩ := schr_rng (j := i.toNat) hw
  refine a_i2c (pc := 13) X ⟨r1, by omega⟩ dJ1_charAt_3b067_13 ?_
  refine a_ireturn (pc := 14) (ty := .char) X E rfl ?_ (Nat.le_of_ble_eq_true rfl) (Nat.le_of_ble_eq_true rfl) dJ1_charAt_3b067_14 ⟨rfl, _, rfl, schr_inR, rfl, rfl⟩
  obtain ⟨n, e⟩ := Int.eq_ofNat_of_zero_le r1
  have hc : ∀ n : Nat, n < 128 → vp_nar .char (zI (n : Int)) = zI n := by decide +kernel
  rw [e]
  have := hc n (by omega)
  unfold vp_nar at this
  show Value.int _ = _
  rw [show narrow .char (.int (zI (n : Int))) = .int ((zI (n : Int)).toUInt32.toUInt16.toUInt32.toInt32) from rfl] at this
  exact congrArg Value.int this
set_option maxHeartbeats 1000000 in
set_option maxRecDepth 100000 in
theorem mS_chr {S : ASt} {G : GH} {w : Nat} {i : Int} (hf : noFar S) (hw : w < 15) (hi : 0 ≤ i ∧ i < slen w) : Mt yJ0_charAt_5068e cJ0_charAt_5068e 2 (some .char) 3 64 0 0 [vr (strB + w), vi i] S G (fun v S' G' => S' = S ∧ qI (fun r G' => G' = G ∧ r = schr w i.toNat) v S' G') (fun E S' G' => S' = S ∧ False) := by
  refine Mt.of (l0 := [some (vr (strB + w)), some (vi i)]) (by decide) (Nat.le_of_ble_eq_true rfl) rfl ?_
  intro κ δ ρ0 X E hG
  replace X : CX κ δ RJ0 cJ0_charAt_5068e 2 (some .char) := X
  refine a_aload_n (pc := 0) X dJ0_charAt_5068e_0 rfl rfl ?_
  refine a_callVS (pc := 1) X E hw (mS_isL hw) wM_J0_492 w_instanceMethod_J0_isLatin1_aae02 w_selects_J0_isLatin1_aae02 w_initialized_RJ0 w_code_J0_isLatin1_aae02 cpS_isL pnS_isL rfl (Nat.le_of_ble_eq_true rfl) ⟨Nat.le_of_ble_eq_true rfl, Nat.le_of_ble_eq_true rfl⟩ ⟨Nat.le_of_ble_eq_true rfl, Nat.le_of_ble_eq_true rfl⟩ dJ0_charAt_5068e_1 (fun _ _ q => False.elim q) (kIp (fun r hr h => ?_))
  subst h
  refine a_if_eq (pc := 4) (tgt := 16) X dJ0_charAt_5068e_4 rfl (by decide) (fun c => absurd c (by decide)) (fun c => ?_)
  refine a_aload_n (pc := 7) X dJ0_charAt_5068e_7 rfl rfl ?_
  refine s_value (pc := 8) X hw rfl dJ0_charAt_5068e_8 ?_
  refine a_iload_n (pc := 11) X dJ0_charAt_5068e_11 rfl rfl ?_
  refine a_callS (pc := 12) X E (mS_l1 hf hw hi) wM_J0_495 w_static_J1_charAt_3b067 w_initialized_RJ1 w_code_J1_charAt_3b067 cpS_l1 pnS_l1 rfl (Nat.le_of_ble_eq_true rfl) ⟨Nat.le_of_ble_eq_true rfl, Nat.le_of_ble_eq_true rfl⟩ ⟨Nat.le_of_ble_eq_true rfl, Nat.le_of_ble_eq_true rfl⟩ dJ0_charAt_5068e_12 (fun _ _ q => False.elim q) (kIp (fun r hr h => ?_))
  subst h
  obtain ⟨r1, r2⟩ := schr_rng (j := i.toNat) hw
  refine a_ireturn (pc := 15) (ty := .char) X E rfl ?_ (Nat.le_of_ble_eq_true rfl) (Nat.le_of_ble_eq_true rfl) dJ0_charAt_5068e_15 ⟨rfl, _, rfl, schr_inR, rfl, rfl⟩
  obtain ⟨n, e⟩ := Int.eq_ofNat_of_zero_le r1
  have hc : ∀ n : Nat, n < 128 → vp_nar .char (zI (n : Int)) = zI n := by decide +kernel
  rw [e]
  have := hc n (by omega)
  unfold vp_nar at this
  show Value.int _ = _
  rw [show narrow .char (.int (zI (n : Int))) = .int ((zI (n : Int)).toUInt32.toUInt16.toUInt32.toInt32) from rfl] at this
  exact congrArg Value.int this
section ROWS6
variable {κ : Cx} {δ : Dx} {own : String} {b : ByteArray} {nL : Nat} {ret : Option FieldType} {ρ0 : Nat → Nat} {n0 cb sb pc fr lo mc ms nn : Nat} {l : AL} {st : List AV} {G : GH} {Qr : Option AV → ASt → GH → Prop} {Qx : String → ASt → GH → Prop}
theorem b_slen (X : CX κ δ own b nL ret) (E : EndR κ δ ρ0 n0 fr lo mc ms Qr Qx) {w idx : Nat} (hw : w < 15) (hl : Cond.methodLink own idx yJ0_length_8abf5 ∈ allW) (hws : wsum st ≤ 8) (hr : 2 ≤ fr ∧ 8 + (1 + 11) + 20 ≤ lo) (hm : cb ≤ mc ∧ sb ≤ ms) (hd : decode b pc = .ok (.invokevirtual idx, 3)) (k : AW κ δ ρ0 n0 nL cb sb (pc + 3) l (vi (slen w) :: st) (SF nn) G) : AW κ δ ρ0 n0 nL cb sb pc l (vr (strB + w) :: st) (SF nn) G := by
  refine a_callVS X E hw (mS_len hw) hl w_instanceMethod_J0_length_8abf5 w_selects_J0_length_8abf5 w_initialized_RJ0 w_code_J0_length_8abf5 cpS_len pnS_len rfl hws hr hm hd (fun _ _ q => False.elim q) (kIp (fun r hr h => ?_))
  subst h
  exact k
theorem b_schr (X : CX κ δ own b nL ret) (E : EndR κ δ ρ0 n0 fr lo mc ms Qr Qx) {w idx : Nat} {i : Int} (hw : w < 15) (hi : 0 ≤ i ∧ i < slen w) (hl : Cond.methodLink own idx yJ0_charAt_5068e ∈ allW) (hws : wsum st ≤ 8) (hr : 4 ≤ fr ∧ 8 + (2 + 11) + 64 ≤ lo) (hm : cb ≤ mc ∧ sb ≤ ms) (hd : decode b pc = .ok (.invokevirtual idx, 3)) (k : AW κ δ ρ0 n0 nL cb sb (pc + 3) l (vi (schr w i.toNat) :: st) (SF nn) G) : AW κ δ ρ0 n0 nL cb sb pc l (vi i :: vr (strB + w) :: st) (SF nn) G := by
  refine a_callVS X E hw (mS_chr SF_noFar hw hi) hl w_instanceMethod_J0_charAt_5068e w_selects_J0_charAt_5068e w_initialized_RJ0 w_code_J0_charAt_5068e cpS_chr pnS_chr rfl hws hr hm hd (fun _ _ q => False.elim q) (kIp (fun r hr h => ?_))
  subst h
  exact k
end ROWS6
