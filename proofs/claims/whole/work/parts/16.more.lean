-- ===== Arrays.fill, String constants, a throw with a wide constant, a switch =====
def flG (G : GH) (a n : Nat) (v : Int) : GH := fun a' k => if a' = a ∧ k < n then v else G a' k
theorem GR.fl {G : GH} {a n : Nat} {v : Int} (h : GR G) (hv : inR v) : GR (flG G a n v) := by
  intro a' k
  unfold flG
  split
  · exact hv
  · exact h _ _
theorem flG_0 {G : GH} {a : Nat} {v : Int} : flG G a 0 v = G := by
  funext a' k
  simp [flG]
theorem flG_s {G : GH} {a i : Nat} {v : Int} : upG (flG G a i v) a i v = flG G a (i + 1) v := by
  funext a' k
  unfold upG flG
  by_cases h1 : a' = a
  · subst h1
    by_cases h2 : k = i
    · subst h2; simp
    · by_cases h3 : k < i
      · simp [h2, h3]; omega
      · have h4 : ¬ k < i + 1 := by omega
        simp [h2, h3, h4]
  · simp [h1]
set_option maxHeartbeats 1000000 in
set_option maxRecDepth 100000 in
theorem m_fill {S : ASt} {G : GH} {a n : Nat} {v : Int} (ha : isAt S a (.inl (0, n))) (hn : n < 2147483648) (hv : inR v) : Mt yJ7_fill_53178 cJ7_fill_53178 4 none 0 0 0 0 [vr a, vi v] S G (fun w S' G' => S' = S ∧ qV (fun G' => G' = flG G a n v) w S' G') (fun E S' G' => S' = S ∧ False) := by
  refine Mt.of (l0 := [some (vr a), some (vi v), none, none]) (by decide) (Nat.le_of_ble_eq_true rfl) rfl ?_
  intro κ δ ρ0 X E hG
  replace X : CX κ δ RJ7 cJ7_fill_53178 4 none := X
  have L : ∀ k i : Nat, i + k = n → AW κ δ ρ0 S.1 4 0 0 5 [some (vr a), some (vi v), some (vi (i : Int)), some (vi (n : Int))] [] S (flG G a i v) := by
    intro k
    induction k with
    | zero =>
      intro i hi
      refine a_iload_n (pc := 5) X dJ7_fill_53178_5 rfl rfl ?_
      refine a_iload_n (pc := 6) X dJ7_fill_53178_6 rfl rfl ?_
      refine a_icmp_ge (pc := 7) (tgt := 20) X dJ7_fill_53178_7 rfl ⟨by omega, by omega⟩ ⟨by omega, by omega⟩ (fun c => ?_) (fun c => ?_)
      · have e : i = n := by omega
        subst e
        exact a_return (pc := 20) X E (Nat.le_of_ble_eq_true rfl) (Nat.le_of_ble_eq_true rfl) dJ7_fill_53178_20 ⟨rfl, rfl, rfl⟩
      · omega
    | succ k ih =>
      intro i hi
      refine a_iload_n (pc := 5) X dJ7_fill_53178_5 rfl rfl ?_
      refine a_iload_n (pc := 6) X dJ7_fill_53178_6 rfl rfl ?_
      refine a_icmp_ge (pc := 7) (tgt := 20) X dJ7_fill_53178_7 rfl ⟨by omega, by omega⟩ ⟨by omega, by omega⟩ (fun c => ?_) (fun c => ?_)
      · omega
      · refine a_aload_n (pc := 10) X dJ7_fill_53178_10 rfl rfl ?_
        refine a_iload_n (pc := 11) X dJ7_fill_53178_11 rfl rfl ?_
        refine a_iload_n (pc := 12) X dJ7_fill_53178_12 rfl rfl ?_
        refine a_iast (pc := 13) X ha hn (j := i) rfl (by omega) hv dJ7_fill_53178_13 (fun _ => ?_)
        rw [flG_s]
        refine a_iinc (pc := 14) X dJ7_fill_53178_14 rfl (Nat.le_of_ble_eq_true rfl) rfl rfl ?_
        refine a_goto (pc := 17) (tgt := 5) X dJ7_fill_53178_17 rfl ?_
        exact ih (i + 1) (by omega)
  refine a_iconst (pc := 0) X dJ7_fill_53178_0 ?_
  refine a_istore_n (pc := 1) X dJ7_fill_53178_1 rfl (Nat.le_of_ble_eq_true rfl) rfl rfl ?_
  refine a_aload_n (pc := 2) X dJ7_fill_53178_2 rfl rfl ?_
  refine a_alen (pc := 3) X ha (by decide) dJ7_fill_53178_3 ?_
  refine a_istore_n (pc := 4) X dJ7_fill_53178_4 rfl (Nat.le_of_ble_eq_true rfl) rfl rfl ?_
  have k := L n 0 (by omega)
  rw [flG_0] at k
  exact k
theorem lk2 {x a b d : Int} (h : x < 0 ∨ 1 < x) : Op.lookupswitch.offset (#[(0, a), (1, b)] : Array (Int × Int)).toList d x = d := by
  show (if (0 : Int) = x then a else if (1 : Int) = x then b else d) = d
  rw [if_neg (by omega), if_neg (by omega)]
def slen (w : Nat) : Int := ((strL.getD w 0 : Nat) : Int)
def schr (w j : Nat) : Int := (((strT.getD w []).getD j 0) : Int32).toInt
theorem slen_inR {w : Nat} : inR (slen w) := by
  have h : ∀ w, w < 10 → strL.getD w 0 ≤ 27 := by decide
  by_cases hw : w < 10
  · have := h w hw
    unfold slen
    exact ⟨by omega, by omega⟩
  · have e : strL.getD w 0 = 0 := by
      rw [List.getD_eq_getElem?_getD, List.getElem?_eq_none (by simp [strL]; omega)]; rfl
    unfold slen
    rw [e]; decide
theorem schr_inR {w j : Nat} : inR (schr w j) := inR_toInt _
theorem strR_lt : ∀ q ∈ strR, q.2.2.2 < 10 := by decide
section ROWS4
variable {κ : Cx} {δ : Dx} {own : String} {b : ByteArray} {nL : Nat} {ret : Option FieldType} {ρ0 : Nat → Nat} {n0 cb sb pc fr lo mc ms : Nat} {l : AL} {st : List AV} {S : ASt} {G : GH} {Qr : Option AV → ASt → GH → Prop} {Qx : String → ASt → GH → Prop}
theorem b_ldcs (X : CX κ δ own b nL ret) {is i : Nat} {text : String} (hs : (own, is, text, i) ∈ strR) (hd : decode b pc = .ok (.ldc is, 2)) (k : AW κ δ ρ0 n0 nL cb sb (pc + 2) l (vr (strB + i) :: st) S G) : AW κ δ ρ0 n0 nL cb sb pc l st S G := by
  obtain ⟨p, lc, e, R, s, m, args, below, meth, c, Q⟩ := κ
  obtain ⟨hx, hb, hml, hown, hts, hret, hlk, hK, hN, hA, htr⟩ := X
  intro ρ H locs ls h1 h2 h3 h4
  refine va_ldcS hx hb hown (hA.2.2.2.2.2.1 _ hs) hd ?_
  have k9 := k ρ H locs ls h1 h2 h3 h4
  have e9 := h2.2.2.2.2 i (strR_lt _ hs)
  have e8 : (vr (strB + i) :: st).map (cv ρ) = .ref (δ.2.2.2.2.1 i) :: st.map (cv ρ) := by
    rw [← e9]; rfl
  rw [e8] at k9
  exact k9
/-- throw new E("text"), the text by a wide constant -/
theorem a_throwW (X : CX κ δ own b nL ret) (E : EndR κ δ ρ0 n0 fr lo mc ms Qr Qx) {cls : String} {ik is ic i : Nat} {text : String} (hcls : cls = xIAE ∨ cls = xIOB) (hown9 : own = RX9) (hk : Cond.classLink own ik cls ∈ allW) (hini : Cond.initialized cls ∈ allW) (hstr : (own, is, text, i) ∈ strR)
    (hat : ∀ w ∈ (vx_atS own ic cls ["java/lang/RuntimeException", "java/lang/Exception"]).filter goodWord, w ∈ allW) (hat2 : ∀ w ∈ (vx_atS own ic cls ["java/lang/RuntimeException", "java/lang/Exception"]).filter (fun w => !goodWord w), w ∈ Cond.castable xIAE xIAE :: Cond.castable xIOB xIOB :: decL.map Cond.declares) (hgood : ∀ w ∈ Cond.classLink own ik cls :: Cond.initialized cls :: vx_atS own ic cls ["java/lang/RuntimeException", "java/lang/Exception"], vx_ot w = true)
    (d0 : decode b pc = .ok (.new ik, 3)) (d3 : decode b (pc + 3) = .ok (.dup, 1)) (d4 : decode b (pc + 4) = .ok (.ldc_w is, 3)) (d7 : decode b (pc + 7) = .ok (.invokespecial ic, 3)) (d10 : decode b (pc + 10) = .ok (.athrow, 1))
    (hfr : 5 < fr) (hlo : wsum st + 82 ≤ lo) (hc : cb + 1 ≤ mc) (hs : sb + 6 ≤ ms) (hq : Qx cls S G) : AW κ δ ρ0 n0 nL cb sb pc l st S G := by
  obtain ⟨p, lc, e, R, s, m, args, below, meth, c, Q⟩ := κ
  obtain ⟨hx, hb, hml, hown, hts, hret, hlk, hK, hN, hA, htr⟩ := X
  obtain ⟨rfl, rfl, htab⟩ := E
  intro ρ H locs ls q1 q2 q3 q4
  obtain ⟨hU, hN2, -, -, -, hR, -, -, -, -, hC1, hC2, hC3⟩ := id hA
  refine vx_throwSW (names := ["java/lang/RuntimeException", "java/lang/Exception"]) hx hb htr hown (by rcases hcls with rfl | rfl <;> decide +kernel) (by decide +kernel) (hts _ hk) (hts _ hini) (hR _ hstr) (vx_hat (fun w hw => hts w (hat w hw)) hat2 (vx_c (va_Nw.use rfl hC1) (vx_c (va_Nw.use rfl hC2) (fun w hw => by obtain ⟨q, hq, rfl⟩ := List.mem_map.mp hw; exact va_Nw.use rfl (hC3 q hq))))) hgood hU hN2 q3 (q4.2.1.trans hml.symm) d0 d3 d4 d7 d10 (fun x hx => (htab x hx).elim) (by show 5 < fr; exact hfr) ?_ hc hs hlk (fun t hv hz hkp => ?_) (fun z hz => q3.2.2 z hz) hc hs
  · rw [wsum_ok]
    show _ ≤ lo
    simpa using hlo
  · refine ⟨⟨S, G, ρ, hq, q1, ?_⟩, ?_⟩
    · exact ⟨q2.1.kept (fun k q hq => hkp q.1 ((q2.1 k q hq).lt)), q2.2⟩
    · exact ⟨Nat.le_trans q3.1 hz, fun q h1 h2 => (hkp q (Nat.lt_of_lt_of_le h1 q3.1)).trans (q3.2.1 q h1 h2)⟩
theorem b_slen (X : CX κ δ own b nL ret) (E : EndR κ δ ρ0 n0 fr lo mc ms Qr Qx) {w idx : Nat} (hw : w < 10) (hl : Cond.methodLink own idx yJ0_length_8abf5 ∈ allW) (hws : wsum st ≤ 8) (hr : 2 ≤ fr ∧ 8 + (1 + 11) + 40 ≤ lo) (hm : cb ≤ mc ∧ sb ≤ ms) (hd : decode b pc = .ok (.invokevirtual idx, 3)) (k : AW κ δ ρ0 n0 nL cb sb (pc + 3) l (vi (slen w) :: st) S G) : AW κ δ ρ0 n0 nL cb sb pc l (vr (strB + w) :: st) S G := sorry
theorem b_schr (X : CX κ δ own b nL ret) (E : EndR κ δ ρ0 n0 fr lo mc ms Qr Qx) {w idx : Nat} {i : Int} (hw : w < 10) (hi : 0 ≤ i ∧ i < slen w) (hl : Cond.methodLink own idx yJ0_charAt_5068e ∈ allW) (hws : wsum st ≤ 8) (hr : 5 ≤ fr ∧ 8 + (2 + 11) + 160 ≤ lo) (hm : cb ≤ mc ∧ sb ≤ ms) (hd : decode b pc = .ok (.invokevirtual idx, 3)) (k : AW κ δ ρ0 n0 nL cb sb (pc + 3) l (vi (schr w i.toNat) :: st) S G) : AW κ δ ρ0 n0 nL cb sb pc l (vi i :: vr (strB + w) :: st) S G := sorry
end ROWS4
