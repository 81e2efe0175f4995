-- ===== the start: written by wip/p51/mkmain.py =====
theorem tb_cb : Cond.castable "[B" "java/lang/Cloneable" ∈ lw_tbl := by decide +kernel
theorem dgT_of {args : Array Value} {s : State} {A : Nat → Prop} {nm : String} {f : Nat → Int} (hA : ∀ a : Nat, a < s.heap.size → ¬ A a) (hl : (Cond.laysStatic "java/lang/Integer" nm "[B").before args s = true) (hi : (Cond.initialized "java/lang/Integer").before args s = true) (ha : (Cond.arrayOf (dgTm nm) .byte).before args s = true) (hn : (Cond.eq (.length (dgTm nm)) (.int 100)).before args s = true) (he : ∀ j : Nat, j < 100 → (Cond.eq (.elem (dgTm nm) (.int (Int32.ofNat j))) (.int (zI (f j)))).before args s = true) : ∃ t : Nat, va_Z "java/lang/Integer" nm "[B" (.ref t) A s s.heap ∧ va_T .byte t 100 (fun j => .int (zI (f j))) A s s.heap := by
  obtain ⟨t, h1, h2⟩ := va_Tof (tm := dgTm nm) (N := 100) (f := fun j => .int (zI (f j))) (by decide) ha (va_eqt hn) (fun j hj => va_eqt (he j hj)) hA
  exact ⟨t, va_Zof hl hi h1 hA, h2⟩
/-- a contract with the script that never throws -/
theorem MtS.nox {L : Nat} {xs : Nat → Int32} {y : MethodName} {b : ByteArray} {nL : Nat} {ret : Option FieldType} {fr lo mc ms : Nat} {as : List AV} {S : ASt} {G : GH} {Qr : Option AV → ASt → GH → Prop} (M : MtS L xs y b nL ret fr lo mc ms as S G Qr (fun E S' G' => S' = S ∧ False)) : MtS L xs y b nL ret fr lo mc ms as S G Qr noX := by
  intro lc δ ρ hl hsc p e a1 a2 a3 s m args below a4 a5 a6 a7
  obtain ⟨t, o, b1, b2, b3, b4⟩ := M lc δ ρ hl hsc p e a1 a2 a3 s m args below a4 a5 a6 a7
  refine ⟨t, o, b1, b2, b3, ?_⟩
  rcases b4 with h | ⟨q, c1, E, ce, L, ⟨⟨S', G', ρ', c2, c3⟩, c4⟩, c5⟩
  · exact Or.inl h
  · exact c2.2.elim
section LAWG
variable {κ : Cx} {δ : Dx} {own : String} {b : ByteArray} {nL : Nat} {ret : Option FieldType} {ρ0 : Nat → Nat} {n0 cb sb pc fr lo mc ms L : Nat} {xs : Nat → Int32} {l : AL} {st stk : List AV} {S : ASt} {G : GH}
variable {y : MethodName} {b' : ByteArray} {nL' : Nat} {ret' : Option FieldType} {fr' lo' mc' ms' : Nat} {as : List AV} {Qr' : Option AV → ASt → GH → Prop}
/-- a static method that has the script -/
theorem g_callSL (X : CX κ δ own b nL ret) (hR : RmG κ fr lo mc ms) (hsc : dSL δ = L ∧ dSx δ = xs) {idx : Nat} (M : MtS L xs y b' nL' ret' fr' lo' mc' ms' as S G Qr' noX) (hn0 : n0 ≤ S.1) (hl9 : rltB S.1 l = true) (hst : rltB S.1 (st.map some) = true) (hge : ∀ v S' G', Qr' v S' G' → S.1 ≤ S'.1)
    (hl : Cond.methodLink own idx y ∈ allW) (hs : Cond.static y ∈ allW) (hini : Cond.initialized y.cls ∈ allW) (hcode : Cond.code y b' nL' ret' ∈ allW) (hy : clsPlain y) (hn : pnum y = some as.length)
    (hstk : as.reverse ++ st = stk) (hw : wsum st ≤ 8) (hr : fr' + 1 ≤ fr ∧ 8 + (nL' + 11) + lo' ≤ lo) (hm : cb + mc' ≤ mc ∧ sb + ms' ≤ ms) (hd : decode b pc = .ok (.invokestatic idx, 3))
    (kk : ∀ v S' G', Qr' v S' G' → GR G' → AW κ δ ρ0 n0 nL (cb + mc') (sb + ms') (pc + 3) l (v.toList ++ st) S' G') : AW κ δ ρ0 n0 nL cb sb pc l stk S G := by
  obtain ⟨p, lc, e, R, s, m, args, below, meth, c, Q⟩ := κ
  obtain ⟨hx, hb, hml, hown, hts, hret, hlk, hK, hN, hA, htr⟩ := X
  subst hR
  intro ρ H locs ls h1 h2 h3 h4
  subst hstk
  refine after_gen hn0 hl9 hst h1 h3 h4 hge (av := (as.map (cv ρ)).toArray) ?_ kk
  refine vx_runS (As := as.map (cv ρ)) (n := as.length) ⟨hx, hb, hml, hown, hts⟩ (M lc δ ρ htr hsc)
    ⟨⟨rfl, rfl, hr.1, hr.2, payA hts hcode, List.mem_cons_self, hts _ hcode, hts _ hini, hy, pnum_len hn, hts _ hl⟩, hts _ hs⟩
    ⟨PreA.blind, fun U hU hW => ⟨rfl, by rw [hU]; exact Nat.le_trans hN h3.1, va_K.moved hW.alike hK, ?_, by rw [hU]; exact h2⟩⟩ rfl (by simp) h4.2.1 ?_ ?_ hd ⟨hm.1, hm.2⟩
  · rw [hU]; exact hA.move hW h3.2.1
  · show List.map (cv ρ) (as.reverse ++ st) = _
    rw [List.map_append, List.map_reverse]
  · exact lv_room (by rw [wsum_ok]; exact hw)
/-- the text is forgotten -/
theorem aw_forget {m : Nat} (hn0 : n0 ≤ 272) (hl : rltB 272 l = true) (hst : rltB 272 (st.map some) = true) (k : AW κ δ ρ0 n0 nL cb sb pc l st (SF 272) G) : AW κ δ ρ0 n0 nL cb sb pc l st (SF (1000 + m)) G := by
  obtain ⟨p, lc, e, R, s, m9, args, below, meth, c, Q⟩ := κ
  intro ρ H locs ls h1 h2 h3 h4
  obtain ⟨ρ', hρ⟩ : ∃ ρ' : Nat → Nat, ρ' = fun a => if a = 272 ∨ a = 273 then ρ0 a else ρ a := ⟨_, rfl⟩
  have e1 : ∀ a, ¬ (a = 272 ∨ a = 273) → ρ' a = ρ a := fun a h => by rw [hρ]; exact if_neg h
  have hs9 : strB = 1000000 := rfl
  have e2 : ∀ a, a < 272 ∨ strB ≤ a → ρ' a = ρ a := fun a h => e1 a (by omega)
  have sz : szF (1000 + m) = 274 := t_sz (by omega)
  have h1' : ∀ a, ¬ (n0 ≤ a ∧ a < (SF 272).1) → ρ' a = ρ0 a := by
    intro a ha
    have ha2 : ¬ (n0 ≤ a ∧ a < 272) := fun q => ha ⟨q.1, by show a < szF 272; rw [szF_272]; exact q.2⟩
    by_cases h : a = 272 ∨ a = 273
    · rw [hρ]; exact if_pos h
    · rw [e1 a h]
      refine h1 a (fun q => ?_)
      have q2 : a < szF (1000 + m) := q.2
      rw [sz] at q2
      exact ha2 ⟨q.1, by omega⟩
  have key : ∀ (i : Nat) (q : Nat × va_E), (wl δ.2.2.1 ρ' (SF 272) G)[i]? = some q → i < 272 ∧ (wl δ.2.2.1 ρ (SF (1000 + m)) G)[i]? = some q := by
    intro i q h
    have hlen : (wl δ.2.2.1 ρ' (SF 272) G).length = 272 := by unfold wl; rw [List.length_map, List.length_range]; exact szF_272
    have hi : i < 272 := by rw [← hlen]; exact (List.getElem?_eq_some_iff.mp h).1
    refine ⟨hi, ?_⟩
    rw [wl_at (show i < (SF 272).1 from by show i < szF 272; rw [szF_272]; exact hi)] at h
    rw [wl_at (show i < (SF (1000 + m)).1 from by show i < szF (1000 + m); rw [sz]; omega), ← h]
    refine congrArg some (Prod.ext (e2 i (Or.inl hi)).symm ?_)
    · refine cellOf_mv ?_ (fun _ => rfl) fun j => ?_
      · show shX (1000 + m) i = shX 272 i
        rw [shX_lo hi, shX_lo hi]
      · show (rfX i j).map ρ = (rfX i j).map ρ'
        rw [rfX_lo hi]
        cases h9 : rfF i j with
        | none => rfl
        | some q9 => exact congrArg some (e2 q9 (Or.inl (rfF_lt h9))).symm
  have k9 := k ρ' H locs ls h1' ⟨h2.1.by id (fun i q h => (key i q h).2), h2.2.1.by id (fun i q h => (key i q h).2) (fun i j _ _ h => h), by show szF 272 ≤ strB; rw [szF_272]; decide, h2.2.2.2.1, h2.2.2.2.2.re (fun a ha _ => e2 a (Or.inr ha))⟩ h3 (h4.re hl e2)
  rw [st_re hst e2] at k9
  exact k9
end LAWG
/-- what the pure part gives -/
def PureIni (R0 : GH → Prop) : Prop := ∀ G1 : GH, (∀ b k, b < 0 → G1 b k = zG (fun _ _ => 0) 0 b k) ∧ G1 41 1 = 0 ∧ G1 41 2 = 0 ∧ G1 41 3 = 0 ∧ G1 41 4 = 0 ∧ G1 41 5 = 0 ∧ G1 41 6 = 0 ∧ G1 41 7 = 0 ∧ G1 41 8 = 0 ∧ G1 41 9 = 0 ∧ G1 44 1 = 0 ∧ G1 44 2 = 0 ∧ G1 230 1 = 0 ∧ G1 207 0 = 0 ∧ G1 207 1 = 0 → f_X7_startAnew 1 G1 (fun G2 => ∀ G3, G3 = upG G2 1 0 1 → ∀ G4, G4 = upG G3 2 0 4 → R0 G4)
/-- the heap in which the text is loaded -/
def TxIn (L : Nat) (xs : Nat → Int32) (G : GH) : Prop := G 272 1 = 0 ∧ (∀ i, i < (txAll (cN L xs)).length → G 273 i = (txAll (cN L xs)).getD i 0) ∧ (txAll (cN L xs)).length ≤ 297
def PureAll (L : Nat) (xs : Nat → Int32) : Prop := ∃ (P0 : GH → Prop) (P1 : Nat → GH → Prop), PureIni P0 ∧ (∀ G G', P0 G → LowH G' G → TxIn L xs G' → GR G' → f_L_load (1000 + (txAll (cN L xs)).length) G' (fun r G2 => r = 2 ∧ P1 0 G2)) ∧ (∀ (k : Nat) G, k < 12 → P1 k G → GR G → f_L_step L xs ((35 + 3 * k : Nat) : Int) G (fun G2 => P1 (k + 1) G2)) ∧ (∀ G, P1 12 G → GR G → f_L_cards L xs G (fun r G2 => r = 1 ∧ f_X9_size 6 G2 (fun n => (0 < n ∧ n ≤ 2147483647) ∧ ∀ G3, G3 = G2 → f_L_hangs (cellV L xs 71 % n) G3 (fun r3 _ => r3 = 1)) (fun _ => False)))
section LAWEND
variable {p : Program} {l : Launch} {e : Env} {s : State} {m : MethodId} {below : List Frame} {meth : Method} {c : Code} {b : Nat} {δ : Dx} {ρ0 : Nat → Nat} {n0 cb sb : Nat} {al : AL} {S : ASt} {G : GH}
theorem a_lawret (X : CX (p, l, e, room_1, s, m, #[Value.ref b], below, meth, c, lw_Z below #[Value.ref b] s) δ RL cL_law 3 ret) (hδ : δ.2.2.2.1 = s.heap.size) (hc : cb ≤ 600104 ∧ sb ≤ 7301314) : AW (p, l, e, room_1, s, m, #[Value.ref b], below, meth, c, lw_Z below #[Value.ref b] s) δ ρ0 n0 3 cb sb 80 al [vi 1] S G := by
  obtain ⟨hx, hb, hml, hown, hts, hr, hlk, hK, hN, hA, htr⟩ := X
  intro ρ H locs ls h1 h2 h3 h4
  refine va_forget (fun q hq => by rw [← hδ]; exact h3.2.2 q hq) ?_
  refine W.widen hc.1 hc.2 ?_
  refine W.base ?_
  exact lw_ret (Drawn.sameBut.refl s.drawn lw_cs) hx hb hr hlk dL_law_80
end LAWEND
set_option maxHeartbeats 4000000 in
theorem law_main {p : Program} {e : Env} {s : State} {m : MethodId} {below : List Frame} {meth : Method} {c : Code} (l : Launch) (hflags : l.flags = flags0) {b L : Nat} {xs : Nat → Int32} (hL : L ≤ 260) (C0 : lw_At p s m meth c b L xs) (pure : PureAll L xs) : W p l e room_1 s m #[Value.ref b] below meth c s.heap [] 0 0 (lw_Z below #[Value.ref b] s) (entryFrame m ([Value.ref b] : List Value).toArray 3) := by

  obtain ⟨hx, hb, hr, hml, hown, hts, hX, hbl, hlocks, hgv⟩ := id C0
  have hpre : ∀ w ∈ preF, w.before #[Value.ref b] s = true := flat_of_before _ hgv
  have hts9 : ∀ w ∈ allW, w.before #[Value.ref b] s = true := fun w hw => lw_hts3 hts w (allW_tbl w hw)
  have hA0 : ∀ a : Nat, a < s.heap.size → ¬ (fun q : Nat => s.heap.size ≤ q) a := fun a ha q => absurd ha (Nat.not_lt.mpr q)
  obtain ⟨dz, hdz⟩ := Classical.axiomOfChoice (known_all hts9)
  have hT : ∀ t : Nat, ∃ cA, (t = 0 → ArrOfT s cA .int ∧ va_RA s cA .int) ∧ (t = 1 → ArrOfT s cA .boolean ∧ va_RA s cA .boolean) ∧ (t = 2 → ArrOfT s cA .byte ∧ va_RA s cA .byte) ∧ (t = 3 → ArrOfT s cA .byte ∧ va_RA s cA .byte) ∧ (t = 4 → ArrOfT s cA (.object RX7) ∧ va_RA s cA (.object RX7)) := by
    intro t
    match t with
    | 0 => obtain ⟨cA, h⟩ := arrT_of (fun C h => by cases h) (hts9 _ w_arrayClass__int); exact ⟨cA, (fun _ => h), (fun q => by cases q), (fun q => by cases q), (fun q => by cases q), (fun q => by cases q)⟩
    | 1 => obtain ⟨cA, h⟩ := arrT_of (fun C h => by cases h) (hts9 _ w_arrayClass__boolean); exact ⟨cA, (fun q => by cases q), (fun _ => h), (fun q => by cases q), (fun q => by cases q), (fun q => by cases q)⟩
    | 2 => obtain ⟨cA, h⟩ := arrT_of (fun C h => by cases h) (hts9 _ w_arrayClass__byte); exact ⟨cA, (fun q => by cases q), (fun q => by cases q), (fun _ => h), (fun q => by cases q), (fun q => by cases q)⟩
    | 3 => obtain ⟨cA, h⟩ := arrT_of (fun C h => by cases h) (hts9 _ w_arrayClass__byte); exact ⟨cA, (fun q => by cases q), (fun q => by cases q), (fun q => by cases q), (fun _ => h), (fun q => by cases q)⟩
    | 4 => obtain ⟨cA, h⟩ := arrO_of (hts _ tb_ao); exact ⟨cA, (fun q => by cases q), (fun q => by cases q), (fun q => by cases q), (fun q => by cases q), (fun _ => h)⟩
    | t + 5 => exact ⟨0, (fun q => by omega), (fun q => by omega), (fun q => by omega), (fun q => by omega), (fun q => by omega)⟩
  obtain ⟨dA, hdA⟩ := Classical.axiomOfChoice hT
  obtain ⟨adK, adV, hSt, hev⟩ := vk_Sof (N := 15) (tm := strTm) (len := strL) (byt := strT) (A := fun q : Nat => s.heap.size ≤ q) st_len (fun i hi => hpre _ (st_ex i hi)) (fun i hi => hpre _ (st_co i hi)) (fun i hi => hpre _ (st_ar i hi)) (fun i hi => hpre _ (st_le i hi)) (fun i hi j hj => hpre _ (st_el i hi j hj)) (fun i j hi hj hne => (st_ne i hi j hj hne).elim (fun h => Or.inl (hpre _ h)) (fun h => Or.inr (hpre _ h))) hA0
  obtain ⟨t1, hz1, ht1⟩ := dgT_of (nm := "DigitOnes") (f := dgO) (A := fun q : Nat => s.heap.size ≤ q) hA0 (hts _ tb_d1) (hts _ tb_di) (hpre _ (tb_da _ (by decide))) (hpre _ (tb_dl _ (by decide))) (fun j hj => hpre _ (tb_e1 j hj))
  obtain ⟨t2, hz2, ht2⟩ := dgT_of (nm := "DigitTens") (f := dgT) (A := fun q : Nat => s.heap.size ≤ q) hA0 (hts _ tb_d2) (hts _ tb_di) (hpre _ (tb_da _ (by decide))) (hpre _ (tb_dl _ (by decide))) (fun j hj => hpre _ (tb_e2 j hj))
  obtain ⟨δ, hδ⟩ : ∃ δ : Dx, δ = (fun k => (dz k).1, fun k => (dz k).2, dA, s.heap.size, adK, adV, b, L, xs, t1, t2) := ⟨_, rfl⟩
  have hfr : frA δ = fun q : Nat => s.heap.size ≤ q := by rw [hδ]
  have hK : va_K (δ.1, δ.2.1) vwCl (tysL δ.2.2.1) s := by
    subst hδ
    refine ⟨fun k q hq => hdz k q hq, fun k q hq => ?_⟩
    match k, hq with
    | 0, hq => cases hq; exact (hdA 0).1 rfl
    | 1, hq => cases hq; exact (hdA 1).2.1 rfl
    | 2, hq => cases hq; exact (hdA 2).2.2.1 rfl
    | 3, hq => cases hq; exact (hdA 3).2.2.2.1 rfl
    | 4, hq => cases hq; exact (hdA 4).2.2.2.2 rfl
    | k + 5, hq => simp [tysL] at hq
  have hAmb : Amb δ s s.heap := by
    refine ⟨?_, ?_, ?_, ?_, ?_, ?_, ?_, ?_, ?_, ?_, ?_, ?_, ?_, ?_, ?_, ?_, ?_⟩
    · rw [hfr]; exact vx_Zqof (hts _ tb_l1) (hts _ tb_i1) (hpre _ tb_r1) hA0
    · rw [hfr]; exact vx_Zqof (hts _ tb_l2) (hts _ tb_i1) (hpre _ tb_r2) hA0
    · rw [hfr]; exact va_Zof (hts _ tb_l3) (hts _ tb_i3) (va_eqt (hpre _ tb_r3)) hA0
    · rw [hfr]; exact va_Zqof (hts _ tb_l4) (hts _ tb_i4) (hpre _ tb_r4) hA0
    · rw [hfr, hδ]; exact hSt
    · intro q hq
      have hi := strR_lt q hq
      have h1 := hts _ (st_ref q hq)
      have h2 : (Term.string q.1 q.2.1).eval #[Value.ref b] s none [] s = some (.ref (adK q.2.2.2)) := by
        rcases st_same q hq with h | h
        · rw [h]; exact hev _ hi
        · obtain ⟨w, g1, g2⟩ := Cond.eq_one (show (Cond.eq (strTm q.2.2.2) (.string q.1 q.2.1)).holds #[Value.ref b] s none s [] = true from hpre _ h)
          rw [hev _ hi] at g1
          rw [g2, ← g1]
      have h3 := vk_R.of h1 h2
      rw [hδ]; exact h3
    · intro q hq; exact va_Nw.of rfl (hts _ (ns_tbl q hq))
    · exact va_AO.of (hts _ tb_ao)
    · trivial
    · trivial
    · exact va_Nw.of rfl (hts _ tb_c1)
    · exact va_Nw.of rfl (hts _ tb_c2)
    · intro q hq; exact va_Nw.of rfl (hts _ (dc_tbl q hq))
    · refine ⟨?_, ?_, ?_⟩
      · rw [hδ]; exact hX
      · rw [hfr, hδ]; exact Nat.not_le.mpr hbl
      · rw [hδ]; exact hL
    · refine ⟨?_, ?_⟩
      · rw [hfr, hδ]; exact hz1
      · rw [hfr, hδ]; exact ht1
    · refine ⟨?_, ?_⟩
      · rw [hfr, hδ]; exact hz2
      · rw [hfr, hδ]; exact ht2
    · exact va_Nw.of rfl (hts _ tb_cb)
  have htr : l.stackTraces = false := by
    unfold Launch.stackTraces
    rw [hflags]; decide +kernel
  have X : CX (p, l, e, room_1, s, m, #[Value.ref b], below, meth, c, lw_Z below #[Value.ref b] s) δ RL cL_law 3 ret := ⟨hx, hb, hml, hown, hts9, hr, hlocks, hK, by rw [hδ]; exact Nat.le_refl _, hAmb, htr⟩
  have hδ4 : δ.2.2.2.1 = s.heap.size := by rw [hδ]
  have hsc : dSL δ = L ∧ dSx δ = xs := by rw [hδ]; exact ⟨rfl, rfl⟩
  obtain ⟨ρ0, hρ⟩ : ∃ ρ0 : Nat → Nat, ρ0 = fun a => if a = strB + 60 then b else if a = strB + 50 then t1 else if a = strB + 51 then t2 else if a < strB + 20 then adK (a - strB) else adV (a - strB - 20) := ⟨_, rfl⟩
  have hb30 : ρ0 (strB + 60) = b := by rw [hρ]; simp
  have hRep : Rep δ ρ0 (0, shF, rfP 0) (fun _ _ => 0) s.heap := by
    refine ⟨fun k q h => by simp [wl] at h, ⟨fun i j p q h => by simp [wl] at h, fun k q h => by simp [wl] at h⟩, Nat.zero_le _, fun _ _ => inR_0, fun i hi => ?_, ?_, ?_, ?_⟩
    · rw [hρ, hδ]
      have n1 : strB + i ≠ strB + 60 := by omega
      have n2 : strB + i ≠ strB + 50 := by omega
      have n3 : strB + i ≠ strB + 51 := by omega
      have n4 : strB + i < strB + 20 := by omega
      have m1 : strB + 20 + i ≠ strB + 60 := by omega
      have m2 : strB + 20 + i ≠ strB + 50 := by omega
      have m3 : strB + 20 + i ≠ strB + 51 := by omega
      have m4 : ¬ strB + 20 + i < strB + 20 := by omega
      simp only [n1, n2, n3, n4, m1, m2, m3, m4, if_true, if_false]
      exact ⟨congrArg adK (by omega), congrArg adV (by omega)⟩
    · rw [hb30, hδ]
    · rw [hρ, hδ]
      have n1 : strB + 50 ≠ strB + 60 := by omega
      simp only [n1, if_true, if_false]
    · rw [hρ, hδ]
      have n1 : strB + 51 ≠ strB + 60 := by omega
      have n2 : strB + 51 ≠ strB + 50 := by omega
      simp only [n1, n2, if_true, if_false]
  have hRm : RmG (p, l, e, room_1, s, m, #[Value.ref b], below, meth, c, lw_Z below #[Value.ref b] s) 16 624 600104 7301314 := rfl
  obtain ⟨P0, P1, hini, hload, hstep, hcards⟩ := pure
  -- behind the steps: cards, hangs
  have fin : ∀ G, P1 12 G → GR G → AW (p, l, e, room_1, s, m, #[Value.ref b], below, meth, c, lw_Z below #[Value.ref b] s) δ ρ0 0 3 400 60000 47 [some (vr (strB + 60)), some (vr 0), some (vi 12)] [] (SF 272) G := by
    intro G hP hG
    have hc9 := hcards G hP hG
    refine a_aload_n (pc := 47) (i := 1) X dL_law_47 rfl rfl ?_
    refine a_aload_n (pc := 48) (i := 0) X dL_law_48 rfl rfl ?_
    refine g_callSL (pc := 49) X hRm hsc (MtS.nox (m_L_cards (Nat.le_refl _) hc9)) (Nat.zero_le _) (rltB_mono (Nat.le_of_eq szF_272.symm) rfl) (rltB_mono (Nat.le_of_eq szF_272.symm) rfl) (by rintro v S' G' ⟨rfl, -⟩; exact Nat.le_refl _) wM_L_214 w_static_L_cards w_initialized_RL w_code_L_cards cpL_cards pnL_cards rfl (Nat.le_of_ble_eq_true rfl) ⟨Nat.le_of_ble_eq_true rfl, Nat.le_of_ble_eq_true rfl⟩ ⟨by omega, by omega⟩ dL_law_49 (fun v S' G9 q hG9 => ?_)
    obtain ⟨rfl, r1, rfl, hr1, rfl, hsz⟩ := q
    refine a_if_eq (pc := 52) (tgt := 79) X dL_law_52 rfl (by decide) (fun c9 => absurd c9 (by decide)) (fun _ => ?_)
    refine a_aload_n (pc := 55) (i := 1) X dL_law_55 rfl rfl ?_
    refine a_aload_n (pc := 56) (i := 0) X dL_law_56 rfl rfl ?_
    refine a_bipush (pc := 57) X dL_law_57 rfl ?_
    refine g_callSL (pc := 59) X hRm hsc (MtS.nox (m_L_cellS (S := SF 272) (Q := fun r => r = cellV L xs 71) (by decide) ⟨by decide, rfl⟩)) (Nat.zero_le _) (rltB_mono (Nat.le_of_eq szF_272.symm) rfl) (rltB_mono (Nat.le_of_eq szF_272.symm) rfl) (by rintro v S' G' ⟨rfl, -⟩; exact Nat.le_refl _) wM_L_40 w_static_L_cell w_initialized_RL w_code_L_cell cpL_cell pnL_cell rfl (Nat.le_of_ble_eq_true rfl) ⟨Nat.le_of_ble_eq_true rfl, Nat.le_of_ble_eq_true rfl⟩ ⟨by omega, by omega⟩ dL_law_59 (fun v S' G8 q hG9 => ?_)
    obtain ⟨rfl, r2, rfl, hr2, rfl, hr2e⟩ := q
    subst hr2e
    refine a_aload_n (pc := 62) (i := 1) X dL_law_62 rfl rfl ?_
    refine a_bipush (pc := 63) X dL_law_63 rfl ?_
    refine g_callV (pc := 65) X hRm (Mt.nox (m_X9_size (show inR 6 by decide) (Nat.le_refl _) hsz)) (Nat.zero_le _) (rltB_mono (Nat.le_of_eq szF_272.symm) rfl) (rltB_mono (Nat.le_of_eq szF_272.symm) rfl) (by rintro v S' G' ⟨rfl, -⟩; exact Nat.le_refl _) okX9 (is9 (Nat.le_refl _)) wM_L_76 w_instanceMethod_X9_size w_selects_X9_size w_initialized_RX9 w_code_X9_size cp_X9_size pn_X9_size rfl (Nat.le_of_ble_eq_true rfl) ⟨Nat.le_of_ble_eq_true rfl, Nat.le_of_ble_eq_true rfl⟩ ⟨by omega, by omega⟩ dL_law_65 (fun v S' G7 q hG7 => ?_)
    obtain ⟨rfl, r3, rfl, hr3, rfl, hn3, hh⟩ := q
    have hh := hh _ rfl
    have c71 := cellV_rng (L := L) (xs := xs) (i := 71)
    refine a_irem (pc := 68) X dL_law_68 ⟨c71.1, by omega⟩ ⟨hn3.1, hn3.2⟩ ?_
    have e0 := Int.emod_nonneg (cellV L xs 71) (show r3 ≠ 0 by omega)
    have e1 := Int.emod_lt_of_pos (cellV L xs 71) hn3.1
    refine g_callSL (pc := 69) X hRm hsc (MtS.nox (m_L_hangs ⟨by omega, by omega⟩ (Nat.le_refl _) hh)) (Nat.zero_le _) (rltB_mono (Nat.le_of_eq szF_272.symm) rfl) (rltB_mono (Nat.le_of_eq szF_272.symm) rfl) (by rintro v S' G' ⟨rfl, -⟩; exact Nat.le_refl _) wM_L_218 w_static_L_hangs w_initialized_RL w_code_L_hangs cpL_hangs pnL_hangs rfl (Nat.le_of_ble_eq_true rfl) ⟨Nat.le_of_ble_eq_true rfl, Nat.le_of_ble_eq_true rfl⟩ ⟨by omega, by omega⟩ dL_law_69 (fun v S' G6 q hG9 => ?_)
    obtain ⟨rfl, r4, rfl, hr4, rfl⟩ := q
    refine a_if_eq (pc := 72) (tgt := 79) X dL_law_72 rfl (by decide) (fun c9 => absurd c9 (by decide)) (fun _ => ?_)
    refine a_iconst (pc := 75) X dL_law_75 ?_
    refine a_goto (pc := 76) (tgt := 80) X dL_law_76 rfl ?_
    exact a_lawret X hδ4 ⟨by omega, by omega⟩
  have loop : ∀ (n k : Nat) (G : GH), k + n = 12 → P1 k G → GR G → AW (p, l, e, room_1, s, m, #[Value.ref b], below, meth, c, lw_Z below #[Value.ref b] s) δ ρ0 0 3 400 60000 24 [some (vr (strB + 60)), some (vr 0), some (vi (k : Int))] [] (SF 272) G := by
    intro n
    induction n with
    | zero =>
      intro k G hk hP hG
      refine a_iload_n (pc := 24) (i := 2) X dL_law_24 rfl rfl ?_
      refine a_bipush (pc := 25) X dL_law_25 rfl ?_
      refine a_icmp_ge (pc := 27) (tgt := 47) X dL_law_27 rfl ⟨by omega, by omega⟩ (by decide) (fun _ => ?_) (fun c9 => absurd c9 (by omega))
      have e : k = 12 := by omega
      subst e
      exact fin G hP hG
    | succ n ih =>
      intro k G hk hP hG
      have hs9 := hstep k G (by omega) hP hG
      refine a_iload_n (pc := 24) (i := 2) X dL_law_24 rfl rfl ?_
      refine a_bipush (pc := 25) X dL_law_25 rfl ?_
      refine a_icmp_ge (pc := 27) (tgt := 47) X dL_law_27 rfl ⟨by omega, by omega⟩ (by decide) (fun c9 => absurd c9 (by omega)) (fun _ => ?_)
      refine a_aload_n (pc := 30) (i := 1) X dL_law_30 rfl rfl ?_
      refine a_aload_n (pc := 31) (i := 0) X dL_law_31 rfl rfl ?_
      refine a_bipush (pc := 32) X dL_law_32 rfl ?_
      refine a_iconst (pc := 34) X dL_law_34 ?_
      refine a_iload_n (pc := 35) (i := 2) X dL_law_35 rfl rfl ?_
      refine a_imul (pc := 36) X dL_law_36 ?_
      refine a_iadd (pc := 37) X dL_law_37 ?_
      rw [show (35 : Int) + 3 * (k : Int) = ((35 + 3 * k : Nat) : Int) by omega]
      refine g_callSL (pc := 38) X hRm hsc (MtS.nox (m_L_step ⟨by omega, by omega⟩ (Nat.le_refl _) hs9)) (Nat.zero_le _) (rltB_mono (Nat.le_of_eq szF_272.symm) rfl) (rltB_mono (Nat.le_of_eq szF_272.symm) rfl) (by rintro v S' G' ⟨rfl, -⟩; exact Nat.le_refl _) wM_L_210 w_static_L_step w_initialized_RL w_code_L_step cpL_step pnL_step rfl (Nat.le_of_ble_eq_true rfl) ⟨Nat.le_of_ble_eq_true rfl, Nat.le_of_ble_eq_true rfl⟩ ⟨by omega, by omega⟩ dL_law_38 (fun v S' G9 q hG9 => ?_)
      obtain ⟨rfl, rfl, hP9⟩ := q
      refine a_iinc (pc := 41) X dL_law_41 rfl (Nat.le_of_ble_eq_true rfl) rfl rfl ?_
      refine a_goto (pc := 44) (tgt := 24) X dL_law_44 rfl ?_
      have k9 := ih (k + 1) G9 (by omega) hP9 hG9
      rw [show ((k + 1 : Nat) : Int) = (k : Int) + 1 by omega] at k9
      exact k9
  have main : AW (p, l, e, room_1, s, m, #[Value.ref b], below, meth, c, lw_Z below #[Value.ref b] s) δ ρ0 0 3 0 0 0 [some (vr (strB + 60)), none, none] [] (0, shF, rfP 0) (fun _ _ => 0) := by
    refine a_new (pc := 0) (n := 0) (rf := rfP 0) X hRm okX9 wC_L_25 w_instantiable_RX9 w_initialized_RX9 fv_X9 rfl (rfP_none (by decide +kernel)) (rfP_fw (by decide +kernel)) (Nat.le_of_ble_eq_true rfl) (Nat.le_refl _) rfl rfl ⟨Nat.le_of_ble_eq_true rfl, Nat.le_of_ble_eq_true rfl⟩ dL_law_0 ?_
    refine a_dup (pc := 3) X dL_law_3 rfl ?_
    refine a_callI (pc := 4) X hRm (k_X9_init_0 (fun G1 h1 => hini G1 h1)) (Nat.zero_le _) rfl rfl (Nat.le_of_ble_eq_true rfl) wM_L_202 w_instanceMethod_X9_init w_initialized_RX9 w_code_X9_init cpN_X9 pnN_X9 rfl (Nat.le_of_ble_eq_true rfl) ⟨Nat.le_of_ble_eq_true rfl, Nat.le_of_ble_eq_true rfl⟩ ⟨Nat.le_of_ble_eq_true rfl, Nat.le_of_ble_eq_true rfl⟩ dL_law_4 (fun G4 h4 hG4 => ?_)
    refine a_astore_n (pc := 7) (i := 1) X dL_law_7 rfl (Nat.le_of_ble_eq_true rfl) rfl rfl ?_
    refine a_aload_n (pc := 8) (i := 1) X dL_law_8 rfl rfl ?_
    refine a_aload_n (pc := 9) (i := 0) X dL_law_9 rfl rfl ?_
    refine AW.congS (S' := SF 272) szF_272 (fun a ha => shX_lo ha) (fun a ha k => (rfX_lo ha).trans (rfP_allC a ha k)) ?_
    refine g_callSL (pc := 10) X hRm hsc m_L_text (Nat.zero_le _) rfl rfl (by rintro v S' G' ⟨-, rfl, -⟩; show szF 272 ≤ szF _; rw [szF_272, t_sz (by omega)]; decide) wM_L_203 w_static_L_text w_initialized_RL w_code_L_text cpL_text pnL_text rfl (Nat.le_of_ble_eq_true rfl) ⟨Nat.le_of_ble_eq_true rfl, Nat.le_of_ble_eq_true rfl⟩ ⟨by omega, by omega⟩ dL_law_10 (fun v S' G5 q hG5 => ?_)
    obtain ⟨rfl, rfl, q1, q2, q3, q4⟩ := q
    have hl5 := hload G4 G5 h4 q3 ⟨q1, q2, q4⟩ hG5
    refine g_callSL (pc := 13) X hRm hsc (MtS.nox (m_L_load (by omega) hl5)) (Nat.zero_le _) (rltB_mono (show 274 ≤ szF _ from Nat.le_of_eq (t_sz (by omega)).symm) rfl) (rltB_mono (show 274 ≤ szF _ from Nat.le_of_eq (t_sz (by omega)).symm) rfl) (by rintro v S' G' ⟨rfl, -⟩; exact Nat.le_refl _) wM_L_207 w_static_L_load w_initialized_RL w_code_L_load cpL_load pnL_load rfl (Nat.le_of_ble_eq_true rfl) ⟨Nat.le_of_ble_eq_true rfl, Nat.le_of_ble_eq_true rfl⟩ ⟨by omega, by omega⟩ dL_law_13 (fun v S' G9 q hG9 => ?_)
    obtain ⟨rfl, r1, rfl, hr1, rfl, hP⟩ := q
    refine a_iconst (pc := 16) X dL_law_16 ?_
    refine a_icmp_eq (pc := 17) (tgt := 22) X dL_law_17 rfl (by decide) (by decide) (fun _ => ?_) (fun c9 => absurd rfl c9)
    refine aw_forget (Nat.zero_le _) rfl rfl ?_
    refine a_iconst (pc := 22) X dL_law_22 ?_
    refine a_istore_n (pc := 23) (i := 2) X dL_law_23 rfl (Nat.le_of_ble_eq_true rfl) rfl rfl ?_
    refine AW.widen (cb' := 400) (sb' := 60000) (by omega) (by omega) ?_
    exact loop 12 0 G9 rfl hP hG9
  rw [lg_entry_eq]
  have hl9 := enL_HL (ρ := ρ0) (vs := [vr (strB + 60)]) (n := 3) (Nat.le_of_ble_eq_true rfl)
  have e8 : ([vr (strB + 60)] : List AV).map (cv ρ0) = [Value.ref b] := by
    show [va_rf (some (ρ0 (strB + 60)))] = _
    rw [hb30]; rfl
  rw [e8] at hl9
  exact main ρ0 s.heap [] _ (fun _ _ => rfl) hRep (by rw [hfr]; exact va_S.rf) hl9

