-- ===== rows for the law: a method with handlers, the law's own calls, the script =====
def EndH (κ : Cx) (δ : Dx) (ρ0 : Nat → Nat) (n0 fr lo mc ms : Nat) (Qr : Option AV → ASt → GH → Prop) (hh : List (Nat × Nat × Nat × Nat)) : Prop := match κ with
  | (_, _, _, R, s, _, args, below, _, c, Q) => Q = vx_MQ below (PostR δ ρ0 n0 Qr) (PostX δ ρ0 n0 noX) args s mc ms (frA δ) ∧ R = { frames := fr, cells := mc, slots := ms, locals := lo } ∧ c.exceptionTable.toList = tableOf hh
def MtH (y : MethodName) (b : ByteArray) (nL : Nat) (ret : Option FieldType) (hh : List (Nat × Nat × Nat × Nat)) (fr lo mc ms : Nat) (as : List AV) (S : ASt) (G : GH) (Qr : Option AV → ASt → GH → Prop) : Prop :=
  ∀ (lc : Launch) (δ : Dx) (ρ : Nat → Nat), lc.stackTraces = false → vx_Met lc y (Cond.codeWith y b nL ret hh :: allW) { frames := fr, cells := mc, slots := ms, locals := lo } (PreA δ ρ as S G) (PostR δ ρ S.1 Qr) (PostX δ ρ S.1 noX) mc ms (frA δ)
theorem MtH.of {y : MethodName} {b : ByteArray} {nL : Nat} {ret : Option FieldType} {hh : List (Nat × Nat × Nat × Nat)} {fr lo mc ms : Nat} {as : List AV} {S : ASt} {G : GH} {Qr : Option AV → ASt → GH → Prop} {l0 : AL} (hy : plainName y.cls = true) (hlen : (enL as).length ≤ nL) (hl : enL as ++ List.replicate (nL - (enL as).length) none = l0)
    (body : ∀ (κ : Cx) (δ : Dx) (ρ0 : Nat → Nat), CX κ δ y.cls b nL ret → EndH κ δ ρ0 S.1 fr lo mc ms Qr hh → GR G → AW κ δ ρ0 S.1 nL 0 0 0 l0 [] S G) : MtH y b nL ret hh fr lo mc ms as S G Qr := by
  intro lc δ ρ hst
  refine vx_ofWH (cc := b) (maxL := nL) (ret := ret) (hh := hh) hy rfl ?_
  intro p e s m args below meth c s₁ B hml hv
  obtain ⟨rfl, hN, hK, hA, hR⟩ := hv
  have hts0 := atoms_spec (ws := Cond.codeWith y b nL ret hh :: allW) B.pre
  have htab := vx_table (x := y) B (hts0 _ List.mem_cons_self)
  have X : CX (p, lc, e, (headSpec (Cond.codeWith y b nL ret hh :: allW) { frames := fr, cells := mc, slots := ms, locals := lo }).room, s, m, (as.map (cv ρ)).toArray, below, meth, c, vx_MQ below (PostR δ ρ S.1 Qr) (PostX δ ρ S.1 noX) (as.map (cv ρ)).toArray s mc ms (frA δ)) δ y.cls b nL ret :=
    ⟨B.exec, B.bytes, hml, findClass_of_methodNamed B.named, fun w hw => hts0 w (List.mem_cons_of_mem _ hw), B.returns, B.notSynchronized, hK, hN, hA, hst⟩
  have k := body _ δ ρ X ⟨rfl, rfl, htab⟩ hR.2.2.2.1
  rw [lg_entry_eq]
  subst hl
  exact k ρ s.heap [] _ (fun _ _ => rfl) hR va_S.rf (enL_HL hlen)
/-- the handler's first instruction stores what was caught -/
def asAt (b : ByteArray) (h n i : Nat) : Prop := (n = 2 ∧ decode b h = .ok (.astore i, 2)) ∨ ∃ kf : Fin 4, (kf : Nat) = i ∧ n = 1 ∧ decode b h = .ok (.astore_n kf, 1)
theorem HL.set1n {ρ : Nat → Nat} {n i : Nat} {l : AL} {ls ls' : Array Slot} {w : Value} (h : HL ρ n l ls) (ho : okP l i = true)
    (h' : lv_has ls' n ((i, w) :: (prs ρ l).filter (fun q => !(q.1 == i) && !(q.1 + 1 == i && q.2.category == 2)))) : HL ρ n (l.set i none) ls' := by
  refine ⟨by simp [h.1], h'.1, h'.2.1, fun j w hj => ?_⟩
  rw [List.getElem?_set] at hj
  by_cases hij : i = j
  · subst hij
    rw [if_pos rfl] at hj
    split at hj <;> cases hj
  · rw [if_neg hij] at hj
    refine h'.2.2 (j, cv ρ w) (List.mem_cons_of_mem _ ?_)
    rw [List.mem_filter]
    refine ⟨prs_mem.mpr ⟨w, hj, rfl⟩, ?_⟩
    simp only [Bool.and_eq_true, Bool.not_eq_true', beq_eq_false_iff_ne, ne_eq, Bool.and_eq_false_iff]
    refine ⟨fun e => hij e.symm, ?_⟩
    by_cases hj1 : j + 1 = i
    · right
      subst hj1
      have hc : cat2 (some w) = false := by
        simp only [okP, Nat.add_sub_cancel, List.getD_eq_getElem?_getD, hj, Option.getD_some] at ho
        simpa using ho
      rw [cat2_spec (ρ := ρ)] at hc
      simpa using hc
    · left; simpa using hj1
def dcv (x y : UInt64) : Int := (Op.cmpValue (FP.dcmp x y) .l).toInt
theorem dcv_inR {x y : UInt64} : inR (dcv x y) := inR_toInt _
def RmL (κ : Cx) : Prop := match κ with
  | (_, _, _, R, _) => R = { frames := 13, cells := 601024, slots := 7293033, locals := 470 }
/-- the law's script lies at the abstract address strB + 30 -/
def LawX (κ : Cx) (δ : Dx) (ρ0 : Nat → Nat) (L : Nat) (xs : Nat → Int32) : Prop := match κ with
  | (_, _, _, _, s, _) => va_X (ρ0 (strB + 30)) L xs s s.heap ∧ ρ0 (strB + 30) < s.heap.size ∧ ¬ frA δ (ρ0 (strB + 30)) ∧ L ≤ 2560
section ROWS7
variable {κ : Cx} {δ : Dx} {own : String} {b : ByteArray} {nL : Nat} {ret : Option FieldType} {ρ0 : Nat → Nat} {n0 cb sb pc fr lo mc ms : Nat} {l : AL} {st stk : List AV} {S : ASt} {G : GH} {Qr Qr' : Option AV → ASt → GH → Prop} {Qx' : String → ASt → GH → Prop} {hh : List (Nat × Nat × Nat × Nat)}
variable {y : MethodName} {b' : ByteArray} {nL' : Nat} {ret' : Option FieldType} {fr' lo' mc' ms' : Nat} {as : List AV}
theorem b_dcmp (X : CX κ δ own b nL ret) {x y : UInt64} (hd : decode b pc = .ok (.dcmp .l, 1)) (k : AW κ δ ρ0 n0 nL cb sb (pc + 1) l (vi (dcv x y) :: st) S G) : AW κ δ ρ0 n0 nL cb sb pc l (vd y :: vd x :: st) S G := a_dcmp X (dcv x y) hd (zI_of _).symm k
theorem a_ireturnH (X : CX κ δ own b nL ret) (E : EndH κ δ ρ0 n0 fr lo mc ms Qr hh) {ty : FieldType} {v : Int} (hret : ret = some ty) (hn : narrow ty (.int (zI v)) = .int (zI v)) (hc : cb ≤ mc) (hs : sb ≤ ms) (hd : decode b pc = .ok (.ireturn, 1)) (hq : Qr (some (vi v)) S G) : AW κ δ ρ0 n0 nL cb sb pc l [vi v] S G := by
  obtain ⟨p, lc, e, R, s, m, args, below, meth, c, Q⟩ := κ
  obtain ⟨hx, hb, hml, hown, hts, hr, hlk, hK, hN, hA, htr⟩ := X
  obtain ⟨rfl, -, -⟩ := E
  intro ρ H locs ls h1 h2 h3 h4
  refine W.widen hc hs (vx_ret ?_)
  refine W.zret (ty := ty) hx hb (hr.trans hret) hn (fun t ht hW => ?_) (fun q hq => h3.2.2 q hq) hd hlk
  exact ⟨⟨some (vi v), S, G, ρ, rfl, hq, h1, by rw [ht]; exact h2⟩, h3.F ht⟩
theorem a_callVH (X : CX κ δ RL b nL ret) (E : EndH κ δ ρ0 n0 fr lo mc ms Qr hh) {C : String} {T : u_T} {N ci idx a : Nat} {ty : Nat → FieldType} (M : Mt y b' nL' ret' fr' lo' mc' ms' (vr a :: as) S G (fun v S' G' => S' = S ∧ Qr' v S' G') (fun E S' G' => S' = S ∧ Qx' E S' G'))
    (hc : ClsOK ci C T N ty) (ha : isAt S a (.inr ci)) (hl : Cond.methodLink RL idx y ∈ allW) (hi : Cond.instanceMethod y ∈ allW) (hs : Cond.selects C y y ∈ allW) (hini : Cond.initialized y.cls ∈ allW) (hcode : Cond.code y b' nL' ret' ∈ allW) (hy : clsPlain y) (hn : pnum y = some as.length)
    (hstk : as.reverse ++ vr a :: st = stk) (hw : wsum st ≤ 8) (hr : fr' + 1 ≤ fr ∧ 8 + (nL' + 11) + lo' ≤ lo) (hm : cb + mc' ≤ mc ∧ sb + ms' ≤ ms) (hd : decode b pc = .ok (.invokevirtual idx, 3))
    (kx : ∀ E G', Qx' E S G' → GR G' → ∃ (pre : List ExceptionTableEntry) (x : ExceptionTableEntry) (suf : List ExceptionTableEntry) (i n : Nat), tableOf hh = pre ++ x :: suf ∧ covers x pc = true ∧ asAt b x.handlerPc n i ∧ i < nL ∧ okP l i = true ∧ (E = xIOB ∧ x.catchType = 19 ∧ pre = [] ∨ E = xIAE ∧ x.catchType = 13 ∧ ∀ z ∈ pre, z.catchType = 19) ∧ AW κ δ ρ0 n0 nL (cb + mc') (sb + ms') (x.handlerPc + n) (l.set i none) [] S G')
    (kk : ∀ v G', Qr' v S G' → GR G' → AW κ δ ρ0 n0 nL (cb + mc') (sb + ms') (pc + 3) l (v.toList ++ st) S G') : AW κ δ ρ0 n0 nL cb sb pc l stk S G := by
  obtain ⟨p, lc, e, R, s, m, args, below, meth, c, Q⟩ := κ
  obtain ⟨hx, hb, hml, hown, hts, hret, hlk, hK, hN, hA, htr⟩ := X
  obtain ⟨-, rfl, htab⟩ := E
  intro ρ H locs ls h1 h2 h3 h4
  subst hstk
  refine call_go (δ := δ) (ρ := ρ) (n1 := S.1) (Qr := fun v S' G' => S' = S ∧ Qr' v S' G') (Qx := fun E S' G' => S' = S ∧ Qx' E S' G') (a := (Value.ref (ρ a) :: as.map (cv ρ)).toArray) (rest := st.map (cv ρ)) (mc := mc') (ms := ms') ?_ h3 ?_ ?_
  · refine vx_runV (As := as.map (cv ρ)) (n := as.length) ⟨hx, hb, hml, hown, hts⟩ (M lc δ ρ htr)
      ⟨⟨rfl, rfl, hr.1, hr.2, payA hts hcode, List.mem_cons_self, hts _ hcode, hts _ hini, hy, pnum_len hn, hts _ hl⟩, hts _ hi, hts _ hs⟩
      ⟨PreA.blind, va_recv hK h2.1 hc.1 (wl_obj ha), fun U hU hW => ⟨rfl, by rw [hU]; exact Nat.le_trans hN h3.1, va_K.moved hW.alike hK, ?_, by rw [hU]; exact h2⟩⟩ rfl (by simp) h4.2.1 ?_ ?_ hd ⟨hm.1, hm.2⟩
    · rw [hU]; exact hA.move hW h3.2.1
    · show List.map (cv ρ) (as.reverse ++ vr a :: st) = _
      rw [List.map_append, List.map_reverse]; rfl
    · exact lv_room (by rw [wsum_ok]; exact hw)
  · intro E ce q9 S' G' ρ' H1 locs1 hq he hrep hS1 hce hcv hcl
    obtain ⟨rfl, hq⟩ := hq
    have hρ : ρ' = ρ := funext fun a => he a (by omega)
    subst hρ
    obtain ⟨pre, x, suf, i, n, e1, e2, e3, e4, e5, e6, k⟩ := kx E G' hq hrep.2.2.2.1
    have go : W p lc e { frames := fr, cells := mc, slots := ms, locals := lo } s m args below meth c H1 locs1 (cb + mc') (sb + ms') Q (F0 m x.handlerPc ls [.ref q9]) := by
      rcases e3 with ⟨rfl, d⟩ | ⟨kf, rfl, rfl, d⟩
      · exact lv_astore hx hb d h4.has e4 rfl (fun ls' h' => k ρ' H1 locs1 ls' h1 hrep hS1 (h4.set1n e5 h'))
      · exact lv_astore_n hx hb d rfl h4.has e4 rfl (fun ls' h' => k ρ' H1 locs1 ls' h1 hrep hS1 (h4.set1n e5 h'))
    obtain ⟨hU, hN2, -, -, -, -, -, -, hNc, -, hC1, hC2, -⟩ := id hA
    rcases e6 with ⟨rfl, e7, rfl⟩ | ⟨rfl, e7, e8⟩
    · exact vx_catch (name := xIOB) hown [] x suf (htab.trans e1) (fun z hz => nomatch hz) e2 (by rw [e7]; decide) (by rw [e7]; exact hts _ wC_L_19) (va_Nw.use rfl hC2) hce hcv hcl go
    · exact vx_catch (name := xIAE) hown pre x suf (htab.trans e1) (fun z hz => Or.inr ⟨by rw [e8 z hz]; decide, xIOB, by rw [e8 z hz]; exact hts _ wC_L_19, hNc⟩) e2 (by rw [e7]; decide) (by rw [e7]; exact hts _ wC_L_13) (va_Nw.use rfl hC1) hce hcv hcl go
  · intro v S' G' ρ' H1 locs1 hq he hrep hS1
    obtain ⟨rfl, hq⟩ := hq
    have hρ : ρ' = ρ := funext fun a => he a (by omega)
    subst hρ
    have k := kk v G' hq hrep.2.2.2.1 ρ' H1 locs1 ls h1 hrep hS1 h4
    rw [List.map_append] at k
    cases v <;> exact k
/-- the law calls a method of an object that doesn't throw -/
theorem a_callVL (X : CX κ δ own b nL ret) (E : RmL κ) {C : String} {T : u_T} {N ci idx a : Nat} {ty : Nat → FieldType} (M : Mt y b' nL' ret' fr' lo' mc' ms' (vr a :: as) S G (fun v S' G' => S' = S ∧ Qr' v S' G') (fun E S' G' => S' = S ∧ False))
    (hc : ClsOK ci C T N ty) (ha : isAt S a (.inr ci)) (hl : Cond.methodLink own idx y ∈ allW) (hi : Cond.instanceMethod y ∈ allW) (hs : Cond.selects C y y ∈ allW) (hini : Cond.initialized y.cls ∈ allW) (hcode : Cond.code y b' nL' ret' ∈ allW) (hy : clsPlain y) (hn : pnum y = some as.length)
    (hstk : as.reverse ++ vr a :: st = stk) (hw : wsum st ≤ 8) (hr : fr' + 1 ≤ 13 ∧ 8 + (nL' + 11) + lo' ≤ 470) (hm : cb + mc' ≤ 601024 ∧ sb + ms' ≤ 7293033) (hd : decode b pc = .ok (.invokevirtual idx, 3))
    (kk : ∀ v G', Qr' v S G' → GR G' → AW κ δ ρ0 n0 nL (cb + mc') (sb + ms') (pc + 3) l (v.toList ++ st) S G') : AW κ δ ρ0 n0 nL cb sb pc l stk S G := by
  obtain ⟨p, lc, e, R, s, m, args, below, meth, c, Q⟩ := κ
  obtain ⟨hx, hb, hml, hown, hts, hret, hlk, hK, hN, hA, htr⟩ := X
  subst E
  intro ρ H locs ls h1 h2 h3 h4
  subst hstk
  refine call_go (δ := δ) (ρ := ρ) (n1 := S.1) (Qr := fun v S' G' => S' = S ∧ Qr' v S' G') (Qx := fun E S' G' => S' = S ∧ False) (a := (Value.ref (ρ a) :: as.map (cv ρ)).toArray) (rest := st.map (cv ρ)) (mc := mc') (ms := ms') ?_ h3 ?_ ?_
  · refine vx_runV (As := as.map (cv ρ)) (n := as.length) ⟨hx, hb, hml, hown, hts⟩ (M lc δ ρ htr)
      ⟨⟨rfl, rfl, hr.1, hr.2, payA hts hcode, List.mem_cons_self, hts _ hcode, hts _ hini, hy, pnum_len hn, hts _ hl⟩, hts _ hi, hts _ hs⟩
      ⟨PreA.blind, va_recv hK h2.1 hc.1 (wl_obj ha), fun U hU hW => ⟨rfl, by rw [hU]; exact Nat.le_trans hN h3.1, va_K.moved hW.alike hK, ?_, by rw [hU]; exact h2⟩⟩ rfl (by simp) h4.2.1 ?_ ?_ hd ⟨hm.1, hm.2⟩
    · rw [hU]; exact hA.move hW h3.2.1
    · show List.map (cv ρ) (as.reverse ++ vr a :: st) = _
      rw [List.map_append, List.map_reverse]; rfl
    · exact lv_room (by rw [wsum_ok]; exact hw)
  · intro E ce q9 S' G' ρ' H1 locs1 hq
    exact hq.2.elim
  · intro v S' G' ρ' H1 locs1 hq he hrep hS1
    obtain ⟨rfl, hq⟩ := hq
    have hρ : ρ' = ρ := funext fun a => he a (by omega)
    subst hρ
    have k := kk v G' hq hrep.2.2.2.1 ρ' H1 locs1 ls h1 hrep hS1 h4
    rw [List.map_append] at k
    cases v <;> exact k
/-- the law calls its own static methods, which catch -/
theorem a_callSL (X : CX κ δ RL b nL ret) (E : RmL κ) {idx : Nat} (M : MtH y b' nL' ret' hh fr' lo' mc' ms' as S G (fun v S' G' => S' = S ∧ Qr' v S' G'))
    (hl : Cond.methodLink RL idx y ∈ allW) (hs : Cond.static y ∈ allW) (hini : Cond.initialized y.cls ∈ allW) (hcode : Cond.codeWith y b' nL' ret' hh ∈ allW) (hy : clsPlain y) (hn : pnum y = some as.length)
    (hstk : as.reverse ++ st = stk) (hw : wsum st ≤ 8) (hr : fr' + 1 ≤ 13 ∧ 8 + (nL' + 11) + lo' ≤ 470) (hm : cb + mc' ≤ 601024 ∧ sb + ms' ≤ 7293033) (hd : decode b pc = .ok (.invokestatic idx, 3))
    (kk : ∀ v G', Qr' v S G' → GR G' → AW κ δ ρ0 n0 nL (cb + mc') (sb + ms') (pc + 3) l (v.toList ++ st) S G') : AW κ δ ρ0 n0 nL cb sb pc l stk S G := by
  obtain ⟨p, lc, e, R, s, m, args, below, meth, c, Q⟩ := κ
  obtain ⟨hx, hb, hml, hown, hts, hret, hlk, hK, hN, hA, htr⟩ := X
  subst E
  intro ρ H locs ls h1 h2 h3 h4
  subst hstk
  have h1w : ∀ w ∈ (Cond.codeWith y b' nL' ret' hh :: allW), w ∈ allW := fun w h => (List.mem_cons.mp h).elim (fun e => e ▸ hcode) (fun h => h)
  refine call_go (δ := δ) (ρ := ρ) (n1 := S.1) (Qr := fun v S' G' => S' = S ∧ Qr' v S' G') (Qx := noX) (a := (as.map (cv ρ)).toArray) (rest := st.map (cv ρ)) (mc := mc') (ms := ms') ?_ h3 ?_ ?_
  · refine vx_runSX (hh := hh) (As := as.map (cv ρ)) (n := as.length) ⟨hx, hb, hml, hown, hts⟩ (M lc δ ρ htr)
      ⟨⟨rfl, rfl, hr.1, hr.2, fun w hw a' U hW => word_at hW (goodA (h1w w hw)) (hts w (h1w w hw)), List.mem_cons_self⟩, hts _ hcode, hts _ hini, hy, pnum_len hn, hts _ hl, hts _ hs⟩
      ⟨PreA.blind, fun U hU hW => ⟨rfl, by rw [hU]; exact Nat.le_trans hN h3.1, va_K.moved hW.alike hK, ?_, by rw [hU]; exact h2⟩⟩ rfl (by simp) h4.2.1 ?_ ?_ hd ⟨hm.1, hm.2⟩
    · rw [hU]; exact hA.move hW h3.2.1
    · show List.map (cv ρ) (as.reverse ++ st) = _
      rw [List.map_append, List.map_reverse]
    · exact lv_room (by rw [wsum_ok]; exact hw)
  · intro E ce q9 S' G' ρ' H1 locs1 hq
    exact hq.elim
  · intro v S' G' ρ' H1 locs1 hq he hrep hS1
    obtain ⟨rfl, hq⟩ := hq
    have hρ : ρ' = ρ := funext fun a => he a (by omega)
    subst hρ
    have k := kk v G' hq hrep.2.2.2.1 ρ' H1 locs1 ls h1 hrep hS1 h4
    rw [List.map_append] at k
    cases v <;> exact k
theorem kDp {cb' sb' pc' : Nat} {Q : UInt64 → Prop} (k : ∀ r, Q r → AW κ δ ρ0 n0 nL cb' sb' pc' l (vd r :: st) S G) : ∀ v G', qD (fun r G' => G' = G ∧ Q r) v S G' → GR G' → AW κ δ ρ0 n0 nL cb' sb' pc' l (v.toList ++ st) S G' := by
  rintro _ _ ⟨r, rfl, rfl, hq⟩ _
  exact k r hq
theorem kFp {cb' sb' pc' : Nat} {Q : UInt32 → Prop} (k : ∀ r, Q r → AW κ δ ρ0 n0 nL cb' sb' pc' l (vf r :: st) S G) : ∀ v G', qF (fun r G' => G' = G ∧ Q r) v S G' → GR G' → AW κ δ ρ0 n0 nL cb' sb' pc' l (v.toList ++ st) S G' := by
  rintro _ _ ⟨r, rfl, rfl, hq⟩ _
  exact k r hq
theorem scr_at {ρ : Nat → Nat} {n0 : Nat} {H : Heap} (h1 : ∀ a, ¬ (n0 ≤ a ∧ a < S.1) → ρ a = ρ0 a) (h2 : Rep δ ρ S G H) : ρ (strB + 30) = ρ0 (strB + 30) := h1 _ (by have := h2.2.2.1; omega)
theorem b_scr (X : CX κ δ own b nL ret) {L : Nat} {xs : Nat → Int32} (LX : LawX κ δ ρ0 L xs) {i : Int} (hi : 0 ≤ i ∧ i < (L : Int)) (hd : decode b pc = .ok (.iaload, 1)) (k : AW κ δ ρ0 n0 nL cb sb (pc + 1) l (vi (xs i.toNat).toInt :: st) S G) : AW κ δ ρ0 n0 nL cb sb pc l (vi i :: vr (strB + 30) :: st) S G := by
  obtain ⟨p, lc, e, R, s, m, args, below, meth, c, Q⟩ := κ
  obtain ⟨hx, hb, hml, hown, hts, hret, hlk, hK, hN, hA, htr⟩ := X
  obtain ⟨hX, hbl, hbA, hL⟩ := LX
  intro ρ H locs ls h1 h2 h3 h4
  have e9 := scr_at h1 h2
  have k9 := k ρ H locs ls h1 h2 h3 h4
  have e7 : (vi i :: vr (strB + 30) :: st).map (cv ρ) = .int (zI i) :: .ref (ρ0 (strB + 30)) :: st.map (cv ρ) := by rw [← e9]; rfl
  rw [e7]
  have e6 : (zI i).toNatClampNeg = i.toNat := zI_cl ⟨by omega, by omega⟩
  refine va_sld hx hb hX hbl hbA h3 (zI_ix hi.1 hi.2 (by omega)) hd ?_
  rw [e6]
  have e5 : (vi (xs i.toNat).toInt :: st).map (cv ρ) = .int (xs i.toNat) :: st.map (cv ρ) := by
    show Value.int (zI _) :: _ = _
    rw [zI_of]
  rw [e5] at k9
  exact k9
theorem b_scrlen (X : CX κ δ own b nL ret) {L : Nat} {xs : Nat → Int32} (LX : LawX κ δ ρ0 L xs) (hd : decode b pc = .ok (.arraylength, 1)) (k : AW κ δ ρ0 n0 nL cb sb (pc + 1) l (vi (L : Int) :: st) S G) : AW κ δ ρ0 n0 nL cb sb pc l (vr (strB + 30) :: st) S G := by
  obtain ⟨p, lc, e, R, s, m, args, below, meth, c, Q⟩ := κ
  obtain ⟨hx, hb, hml, hown, hts, hret, hlk, hK, hN, hA, htr⟩ := X
  obtain ⟨hX, hbl, hbA, hL⟩ := LX
  intro ρ H locs ls h1 h2 h3 h4
  have e9 := scr_at h1 h2
  have k9 := k ρ H locs ls h1 h2 h3 h4
  have e7 : (vr (strB + 30) :: st).map (cv ρ) = .ref (ρ0 (strB + 30)) :: st.map (cv ρ) := by rw [← e9]; rfl
  rw [e7]
  exact va_slen hx hb hX hbl hbA h3 hd k9
end ROWS7
