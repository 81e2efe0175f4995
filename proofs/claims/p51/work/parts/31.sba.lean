-- ===== the builder of the text: cells 272 (itself) and 273 to 277 (its rows of bytes, each twice as long and two more) =====
def capN : Nat → Nat
  | 0 => 22
  | 1 => 46
  | 2 => 94
  | 3 => 190
  | _ => 382
theorem capN_s {k : Nat} (h : k < 4) : capN (k + 1) = 2 * capN k + 2 := by
  match k, h with
  | 0, _ => rfl
  | 1, _ => rfl
  | 2, _ => rfl
  | 3, _ => rfl
theorem capN_rng (k : Nat) : 22 ≤ capN k ∧ capN k ≤ 382 := by
  unfold capN
  split <;> omega
def shB (a : Nat) : Sh := if a < 272 then shF a else if a = 272 then .inr 11 else .inl (2, capN (a - 273))
def rfB (k a j : Nat) : Option Nat := if a = 272 ∧ j = 0 then some (273 + k) else rfF a j
abbrev SB (k : Nat) : ASt := (273 + (k + 1), shB, rfB k)
theorem rfF_lt {a k q : Nat} (h : rfF a k = some q) : q < 272 := by
  have h1 : ∀ l ∈ rfL, ∀ o ∈ l, ∀ q, o = some q → q < 272 := by decide +kernel
  unfold rfF at h
  rw [List.getD_eq_getElem?_getD, List.getD_eq_getElem?_getD] at h
  cases h2 : rfL[a]? with
  | none => rw [h2] at h; simp at h
  | some l =>
    rw [h2] at h
    simp only [Option.getD_some] at h
    cases h3 : l[k]? with
    | none => rw [h3] at h; simp at h
    | some o =>
      rw [h3] at h
      simp only [Option.getD_some] at h
      exact h1 l (List.mem_of_getElem? h2) o (List.mem_of_getElem? h3) q h
theorem rfF_hi {a k : Nat} (h : 272 ≤ a) : rfF a k = none := by
  unfold rfF
  have e : rfL[a]? = none := List.getElem?_eq_none (Nat.le_trans (show rfL.length ≤ 272 by decide +kernel) h)
  have e2 : rfL.getD a [] = [] := by rw [List.getD_eq_getElem?_getD, e]; rfl
  rw [e2]
  rfl
theorem rfB_lt {k a j q : Nat} (h : rfB k a j = some q) : q < 273 + (k + 1) := by
  unfold rfB at h
  split at h
  · have := Option.some.inj h; omega
  · have := rfF_lt h; omega
theorem sb_is (k : Nat) : isAt (SB k) 272 (.inr 11) := ⟨by show 272 < 273 + (k + 1); omega, rfl⟩
theorem sb_ar (k : Nat) : isAt (SB k) (273 + k) (.inl (2, capN k)) := ⟨by show 273 + k < 273 + (k + 1); omega, by show shB (273 + k) = _; unfold shB; rw [if_neg (by omega), if_neg (by omega), show 273 + k - 273 = k by omega]⟩
theorem sb_rf (k : Nat) : (SB k).2.2 272 0 = some (273 + k) := by show rfB k 272 0 = _; exact if_pos ⟨rfl, rfl⟩
/-- what the builder holds -/
def BTx (k : Nat) (G : GH) (t : List Int) : Prop := G 272 1 = 0 ∧ G 272 3 = (t.length : Int) ∧ t.length ≤ capN k ∧ (∀ i, i < t.length → G (273 + k) i = t.getD i 0) ∧ ∀ i, 0 ≤ G (273 + k) i ∧ G (273 + k) i < 128
/-- the class's cells as they were -/
abbrev LowH (G' G : GH) : Prop := ∀ a, a < 272 → ∀ j, G' a j = G a j
-- ===== calls that may make cells =====
section GENC
variable {κ : Cx} {δ : Dx} {own : String} {b : ByteArray} {nL : Nat} {ret : Option FieldType} {ρ0 : Nat → Nat} {n0 cb sb pc fr lo mc ms : Nat} {l : AL} {st stk : List AV} {S : ASt} {G : GH}
variable {y : MethodName} {b' : ByteArray} {nL' : Nat} {ret' : Option FieldType} {fr' lo' mc' ms' : Nat} {as : List AV} {Qr' : Option AV → ASt → GH → Prop}
theorem after_gen {p : Program} {lc : Launch} {e : Env} {R : Room} {s : State} {m : MethodId} {args : Array Value} {below : List Frame} {meth : Method} {c : Code} {Q : State → Prop} {H : Heap} {locs : List Loc} {ls : Array Slot} {ρ : Nat → Nat} {av : Array Value} {st0 : List Value} (hn0 : n0 ≤ S.1) (hl : rltB S.1 l = true) (hst : rltB S.1 (st.map some) = true)
    (hext : ∀ a, ¬ (n0 ≤ a ∧ a < S.1) → ρ a = ρ0 a) (hS : va_S (frA δ) s.heap H locs) (hL : HL ρ nL l ls) (hge : ∀ v S' G', Qr' v S' G' → S.1 ≤ S'.1)
    (hr : vx_Run p lc e R s m args below meth c H locs cb sb mc' ms' (F0 m pc ls st0) (st.map (cv ρ)) (PostR δ ρ S.1 Qr' av) (PostX δ ρ S.1 noX) (frA δ))
    (kk : ∀ v S' G', Qr' v S' G' → GR G' → AW (p, lc, e, R, s, m, args, below, meth, c, Q) δ ρ0 n0 nL (cb + mc') (sb + ms') (pc + 3) l (v.toList ++ st) S' G') : W p lc e R s m args below meth c H locs cb sb Q (F0 m pc ls st0) := by
  refine call_go hr hS ?_ ?_
  · intro E ce q9 S' G' ρ' H1 locs1 hq
    exact hq.elim
  · intro v S' G' ρ' H1 locs1 hq he hrep hS1
    have hstr := hrep.2.2.1
    have hge9 := hge _ _ _ hq
    have hre : ∀ a, a < S.1 ∨ strB ≤ a → ρ' a = ρ a := fun a ha => he a (by omega)
    have k := kk v S' G' hq hrep.2.2.2.1 ρ' H1 locs1 ls (fun a ha => (he a (by omega)).trans (hext a (by omega))) hrep hS1 (hL.re hl hre)
    rw [List.map_append, st_re hst hre] at k
    cases v <;> exact k
theorem Mt.met {S : ASt} {Qr : Option AV → ASt → GH → Prop} (M : Mt y b' nL' ret' fr' lo' mc' ms' as S G Qr noX) {lc : Launch} {δ : Dx} {ρ : Nat → Nat} (hl : lc.stackTraces = false) : Met lc y (Cond.code y b' nL' ret' :: allW) { frames := fr', cells := mc', slots := ms', locals := lo' } (PreA δ ρ as S G) (PostR δ ρ S.1 Qr) mc' ms' (frA δ) := by
  intro p e a1 a2 a3 s m args below a4 a5 a6 a7
  obtain ⟨t, o, b1, b2, b3, b4⟩ := M lc δ ρ hl p e a1 a2 a3 s m args below a4 a5 a6 a7
  refine ⟨t, o, b1, b2, b3, ?_⟩
  rcases b4 with h | ⟨q, c1, E, ce, L, ⟨⟨S', G', ρ', c2, c3⟩, c4⟩, c5⟩
  · exact h
  · exact c2.elim
theorem Mt.nox {S : ASt} {Qr : Option AV → ASt → GH → Prop} (M : Mt y b' nL' ret' fr' lo' mc' ms' as S G Qr (fun E S' G' => S' = S ∧ False)) : Mt y b' nL' ret' fr' lo' mc' ms' as S G Qr noX := M.mono (fun _ _ _ h => h) (fun _ _ _ h => h.2)
theorem run_of {p : Program} {lc : Launch} {e : Env} {R : Room} {s : State} {m : MethodId} {args : Array Value} {below : List Frame} {meth : Method} {c : Code} {H : Heap} {locs : List Loc} {cells slots mc ms : Nat} {g : JFrame} {rest : List Value} {Qa : State → Outcome → State → Prop} {XC : String → State → State → Prop} {free : Addr → Prop} (h : va_Run p lc e R s m args below meth c H locs cells slots mc ms g rest Qa free) : vx_Run p lc e R s m args below meth c H locs cells slots mc ms g rest Qa XC free :=
  fun T hT X => Or.inl (h T hT X)
/-- a method of the receiver, selected where its class is another one's -/
theorem g_callV (X : CX κ δ own b nL ret) (hR : RmG κ fr lo mc ms) {C : String} {T : u_T} {N ci idx a : Nat} {ty : Nat → FieldType} (M : Mt y b' nL' ret' fr' lo' mc' ms' (vr a :: as) S G Qr' noX) (hn0 : n0 ≤ S.1) (hl9 : rltB S.1 l = true) (hst : rltB S.1 (st.map some) = true) (hge : ∀ v S' G', Qr' v S' G' → S.1 ≤ S'.1)
    (hc : ClsOK ci C T N ty) (ha : isAt S a (.inr ci)) (hl : Cond.methodLink own idx y ∈ allW) (hi : Cond.instanceMethod y ∈ allW) (hs : Cond.selects C y y ∈ allW) (hini : Cond.initialized y.cls ∈ allW) (hcode : Cond.code y b' nL' ret' ∈ allW) (hy : clsPlain y) (hn : pnum y = some as.length)
    (hstk : as.reverse ++ vr a :: st = stk) (hw : wsum st ≤ 8) (hr : fr' + 1 ≤ fr ∧ 8 + (nL' + 11) + lo' ≤ lo) (hm : cb + mc' ≤ mc ∧ sb + ms' ≤ ms) (hd : decode b pc = .ok (.invokevirtual idx, 3))
    (kk : ∀ v S' G', Qr' v S' G' → GR G' → AW κ δ ρ0 n0 nL (cb + mc') (sb + ms') (pc + 3) l (v.toList ++ st) S' G') : AW κ δ ρ0 n0 nL cb sb pc l stk S G := by
  obtain ⟨p, lc, e, R, s, m, args, below, meth, c, Q⟩ := κ
  obtain ⟨hx, hb, hml, hown, hts, hret, hlk, hK, hN, hA, htr⟩ := X
  subst hR
  intro ρ H locs ls h1 h2 h3 h4
  subst hstk
  refine after_gen hn0 hl9 hst h1 h3 h4 hge (av := (Value.ref (ρ a) :: as.map (cv ρ)).toArray) ?_ kk
  refine vx_runV (As := as.map (cv ρ)) (n := as.length) ⟨hx, hb, hml, hown, hts⟩ (M lc δ ρ htr)
    ⟨⟨rfl, rfl, hr.1, hr.2, payA hts hcode, List.mem_cons_self, hts _ hcode, hts _ hini, hy, pnum_len hn, hts _ hl⟩, hts _ hi, hts _ hs⟩
    ⟨PreA.blind, va_recv hK h2.1 hc.1 (wl_obj ha), fun U hU hW => ⟨rfl, by rw [hU]; exact Nat.le_trans hN h3.1, va_K.moved hW.alike hK, ?_, by rw [hU]; exact h2⟩⟩ rfl (by simp) h4.2.1 ?_ ?_ hd ⟨hm.1, hm.2⟩
  · rw [hU]; exact hA.move hW h3.2.1
  · show List.map (cv ρ) (as.reverse ++ vr a :: st) = _
    rw [List.map_append, List.map_reverse]; rfl
  · exact lv_room (by rw [wsum_ok]; exact hw)
/-- a method named by the class above, overridden -/
theorem g_callO (X : CX κ δ own b nL ret) (hR : RmG κ fr lo mc ms) {C owner nm ds : String} {T : u_T} {N ci idx a : Nat} {ty : Nat → FieldType} {b0 : ByteArray} {m0 : Nat} {r0 : Option FieldType} (M : Mt y b' nL' ret' fr' lo' mc' ms' (vr a :: as) S G Qr' noX) (hn0 : n0 ≤ S.1) (hl9 : rltB S.1 l = true) (hst : rltB S.1 (st.map some) = true) (hge : ∀ v S' G', Qr' v S' G' → S.1 ≤ S'.1)
    (hc : ClsOK ci C T N ty) (ha : isAt S a (.inr ci)) (hl : Cond.methodLink own idx ⟨owner, nm, ds⟩ ∈ allW) (hsm : Cond.sameMethod owner owner nm ds ∈ allW) (hi0 : Cond.instanceMethod ⟨owner, nm, ds⟩ ∈ allW) (hi : Cond.instanceMethod y ∈ allW) (hs : Cond.selects C ⟨owner, nm, ds⟩ y ∈ allW) (hini : Cond.initialized y.cls ∈ allW) (hcode : Cond.code y b' nL' ret' ∈ allW) (hcode0 : Cond.code ⟨owner, nm, ds⟩ b0 m0 r0 ∈ allW)
    (hd9 : owner ≠ "java/lang/invoke/MethodHandle" ∧ owner ≠ "java/lang/invoke/VarHandle" ∧ (parseMethodDescriptor ds).map (fun d => d.parameters.length) = some as.length)
    (hstk : as.reverse ++ vr a :: st = stk) (hw : wsum st ≤ 8) (hr : fr' + 1 ≤ fr ∧ 8 + (nL' + 11) + lo' ≤ lo) (hm : cb + mc' ≤ mc ∧ sb + ms' ≤ ms) (hd : decode b pc = .ok (.invokevirtual idx, 3))
    (kk : ∀ v S' G', Qr' v S' G' → GR G' → AW κ δ ρ0 n0 nL (cb + mc') (sb + ms') (pc + 3) l (v.toList ++ st) S' G') : AW κ δ ρ0 n0 nL cb sb pc l stk S G := by
  obtain ⟨p, lc, e, R, s, m, args, below, meth, c, Q⟩ := κ
  obtain ⟨hx, hb, hml, hown, hts, hret, hlk, hK, hN, hA, htr⟩ := X
  subst hR
  intro ρ H locs ls h1 h2 h3 h4
  subst hstk
  have hT : GoodIn allW (va_wsO own idx C owner ⟨owner, nm, ds⟩ y (Cond.code y b' nL' ret' :: allW)) := by
    intro w hw9
    have hm9 : w ∈ allW := by
      unfold va_wsO at hw9
      rcases List.mem_append.mp hw9 with q | q
      · simp only [List.mem_cons, List.not_mem_nil, or_false] at q
        rcases q with rfl | rfl | rfl | rfl | rfl | rfl
        · exact hl
        · exact hsm
        · exact hi0
        · exact hs
        · exact hi
        · exact hini
      · rcases List.mem_cons.mp q with rfl | q
        · exact hcode
        · exact q
    exact ⟨hm9, goodA hm9⟩
  refine after_gen hn0 hl9 hst h1 h3 h4 hge (av := (Value.ref (ρ a) :: as.map (cv ρ)).toArray) (run_of ?_) kk
  refine va_runU (As := as.map (cv ρ)) (n := as.length) (owner := owner) ⟨hx, hb, hml, hown, hts⟩ (M.met htr)
    (va_cwO (own := own) (C := C) (index := idx) (x := ⟨owner, nm, ds⟩) as.length hts hT rfl rfl rfl hcode0 hd9 ⟨hr.1, hr.2⟩)
    ⟨PreA.blind, va_recv hK h2.1 hc.1 (wl_obj ha), fun U hU hW => ⟨rfl, by rw [hU]; exact Nat.le_trans hN h3.1, va_K.moved hW.alike hK, ?_, by rw [hU]; exact h2⟩⟩ rfl (by simp) h4.2.1 ?_ ?_ hd ⟨hm.1, hm.2⟩
  · rw [hU]; exact hA.move hW h3.2.1
  · show List.map (cv ρ) (as.reverse ++ vr a :: st) = _
    rw [List.map_append, List.map_reverse]; rfl
  · exact lv_room (by rw [wsum_ok]; exact hw)
/-- super.m(..) -/
theorem g_callSU (X : CX κ δ own b nL ret) (hR : RmG κ fr lo mc ms) {C : String} {T : u_T} {N ci idx a : Nat} {ty : Nat → FieldType} (M : Mt y b' nL' ret' fr' lo' mc' ms' (vr a :: as) S G Qr' noX) (hn0 : n0 ≤ S.1) (hl9 : rltB S.1 l = true) (hst : rltB S.1 (st.map some) = true) (hge : ∀ v S' G', Qr' v S' G' → S.1 ≤ S'.1)
    (hc : ClsOK ci C T N ty) (ha : isAt S a (.inr ci)) (hl : Cond.methodLink own idx y ∈ allW) (hsm : Cond.sameMethod y.cls y.cls y.name y.desc ∈ allW) (hsup : Cond.superclass own y.cls ∈ allW) (hi : Cond.instanceMethod y ∈ allW) (hini : Cond.initialized y.cls ∈ allW) (hcode : Cond.code y b' nL' ret' ∈ allW) (hy9 : y.name ≠ "<init>" ∧ (parseMethodDescriptor y.desc).map (fun d => d.parameters.length) = some as.length)
    (hstk : as.reverse ++ vr a :: st = stk) (hw : wsum st ≤ 8) (hr : fr' + 1 ≤ fr ∧ 8 + (nL' + 11) + lo' ≤ lo) (hm : cb + mc' ≤ mc ∧ sb + ms' ≤ ms) (hd : decode b pc = .ok (.invokespecial idx, 3))
    (kk : ∀ v S' G', Qr' v S' G' → GR G' → AW κ δ ρ0 n0 nL (cb + mc') (sb + ms') (pc + 3) l (v.toList ++ st) S' G') : AW κ δ ρ0 n0 nL cb sb pc l stk S G := by
  obtain ⟨p, lc, e, R, s, m, args, below, meth, c, Q⟩ := κ
  obtain ⟨hx, hb, hml, hown, hts, hret, hlk, hK, hN, hA, htr⟩ := X
  subst hR
  intro ρ H locs ls h1 h2 h3 h4
  subst hstk
  have hT : GoodIn allW (va_wsSU own idx y (Cond.code y b' nL' ret' :: allW)) := by
    intro w hw9
    have hm9 : w ∈ allW := by
      unfold va_wsSU at hw9
      rcases List.mem_append.mp hw9 with q | q
      · simp only [List.mem_cons, List.not_mem_nil, or_false] at q
        rcases q with rfl | rfl | rfl | rfl | rfl
        · exact hl
        · exact hsm
        · exact hsup
        · exact hi
        · exact hini
      · rcases List.mem_cons.mp q with rfl | q
        · exact hcode
        · exact q
    exact ⟨hm9, goodA hm9⟩
  refine after_gen hn0 hl9 hst h1 h3 h4 hge (av := (Value.ref (ρ a) :: as.map (cv ρ)).toArray) (run_of ?_) kk
  refine va_runSU (As := as.map (cv ρ)) (n := as.length) (C := C) (cC := (δ.1 ci)) ?_ ⟨hx, hb, hml, hown, hts⟩ (M.met htr)
    (va_cwSU (own := own) (index := idx) as.length hts hT rfl rfl rfl hy9 ⟨hr.1, hr.2⟩)
    ⟨PreA.blind, va_recv hK h2.1 hc.1 (wl_obj ha), fun U hU hW => ⟨rfl, by rw [hU]; exact Nat.le_trans hN h3.1, va_K.moved hW.alike hK, ?_, by rw [hU]; exact h2⟩⟩ rfl (by simp) h4.2.1 ?_ ?_ hd ⟨hm.1, hm.2⟩
  · exact (hK.1 ci _ hc.1).2
  · rw [hU]; exact hA.move hW h3.2.1
  · show List.map (cv ρ) (as.reverse ++ vr a :: st) = _
    rw [List.map_append, List.map_reverse]; rfl
  · exact lv_room (by rw [wsum_ok]; exact hw)
/-- a constructor with arguments -/
theorem g_callI (X : CX κ δ own b nL ret) (hR : RmG κ fr lo mc ms) {idx a : Nat} (M : Mt y b' nL' none fr' lo' mc' ms' (vr a :: as) S G Qr' noX) (hn0 : n0 ≤ S.1) (hl9 : rltB S.1 l = true) (hst : rltB S.1 (st.map some) = true) (hge : ∀ v S' G', Qr' v S' G' → S.1 ≤ S'.1)
    (hl : Cond.methodLink own idx y ∈ allW) (hi : Cond.instanceMethod y ∈ allW) (hini : Cond.initialized y.cls ∈ allW) (hcode : Cond.code y b' nL' none ∈ allW) (hy : clsPlain y) (hn : pnum y = some as.length) (hyi : y.name = "<init>")
    (hstk : as.reverse ++ vr a :: st = stk) (hw : wsum st ≤ 8) (hr : fr' + 1 ≤ fr ∧ 8 + (nL' + 11) + lo' ≤ lo) (hm : cb + mc' ≤ mc ∧ sb + ms' ≤ ms) (hd : decode b pc = .ok (.invokespecial idx, 3))
    (kk : ∀ v S' G', Qr' v S' G' → GR G' → AW κ δ ρ0 n0 nL (cb + mc') (sb + ms') (pc + 3) l (v.toList ++ st) S' G') : AW κ δ ρ0 n0 nL cb sb pc l stk S G := by
  obtain ⟨p, lc, e, R, s, m, args, below, meth, c, Q⟩ := κ
  obtain ⟨hx, hb, hml, hown, hts, hret, hlk, hK, hN, hA, htr⟩ := X
  subst hR
  intro ρ H locs ls h1 h2 h3 h4
  subst hstk
  refine after_gen hn0 hl9 hst h1 h3 h4 hge (av := (Value.ref (ρ a) :: as.map (cv ρ)).toArray) ?_ kk
  refine vx_runI (As := as.map (cv ρ)) (n := as.length) ⟨hx, hb, hml, hown, hts⟩ (M lc δ ρ htr)
    ⟨⟨rfl, rfl, hr.1, hr.2, payA hts hcode, List.mem_cons_self, hts _ hcode, hts _ hini, hy, pnum_len hn, hts _ hl⟩, hyi, hts _ hi⟩
    ⟨PreA.blind, fun U hU hW => ⟨rfl, by rw [hU]; exact Nat.le_trans hN h3.1, va_K.moved hW.alike hK, ?_, by rw [hU]; exact h2⟩⟩ rfl (by simp) h4.2.1 ?_ ?_ hd ⟨hm.1, hm.2⟩
  · rw [hU]; exact hA.move hW h3.2.1
  · show List.map (cv ρ) (as.reverse ++ vr a :: st) = _
    rw [List.map_append, List.map_reverse]; rfl
  · exact lv_room (by rw [wsum_ok]; exact hw)
/-- a static method -/
theorem g_callS (X : CX κ δ own b nL ret) (hR : RmG κ fr lo mc ms) {idx : Nat} (M : Mt y b' nL' ret' fr' lo' mc' ms' as S G Qr' noX) (hn0 : n0 ≤ S.1) (hl9 : rltB S.1 l = true) (hst : rltB S.1 (st.map some) = true) (hge : ∀ v S' G', Qr' v S' G' → S.1 ≤ S'.1)
    (hl : Cond.methodLink own idx y ∈ allW) (hs : Cond.static y ∈ allW) (hini : Cond.initialized y.cls ∈ allW) (hcode : Cond.code y b' nL' ret' ∈ allW) (hy : clsPlain y) (hn : pnum y = some as.length)
    (hstk : as.reverse ++ st = stk) (hw : wsum st ≤ 8) (hr : fr' + 1 ≤ fr ∧ 8 + (nL' + 11) + lo' ≤ lo) (hm : cb + mc' ≤ mc ∧ sb + ms' ≤ ms) (hd : decode b pc = .ok (.invokestatic idx, 3))
    (kk : ∀ v S' G', Qr' v S' G' → GR G' → AW κ δ ρ0 n0 nL (cb + mc') (sb + ms') (pc + 3) l (v.toList ++ st) S' G') : AW κ δ ρ0 n0 nL cb sb pc l stk S G := by
  obtain ⟨p, lc, e, R, s, m, args, below, meth, c, Q⟩ := κ
  obtain ⟨hx, hb, hml, hown, hts, hret, hlk, hK, hN, hA, htr⟩ := X
  subst hR
  intro ρ H locs ls h1 h2 h3 h4
  subst hstk
  refine after_gen hn0 hl9 hst h1 h3 h4 hge (av := (as.map (cv ρ)).toArray) ?_ kk
  refine vx_runS (As := as.map (cv ρ)) (n := as.length) ⟨hx, hb, hml, hown, hts⟩ (M lc δ ρ htr)
    ⟨⟨rfl, rfl, hr.1, hr.2, payA hts hcode, List.mem_cons_self, hts _ hcode, hts _ hini, hy, pnum_len hn, hts _ hl⟩, hts _ hs⟩
    ⟨PreA.blind, fun U hU hW => ⟨rfl, by rw [hU]; exact Nat.le_trans hN h3.1, va_K.moved hW.alike hK, ?_, by rw [hU]; exact h2⟩⟩ rfl (by simp) h4.2.1 ?_ ?_ hd ⟨hm.1, hm.2⟩
  · rw [hU]; exact hA.move hW h3.2.1
  · show List.map (cv ρ) (as.reverse ++ st) = _
    rw [List.map_append, List.map_reverse]
  · exact lv_room (by rw [wsum_ok]; exact hw)
end GENC
-- ===== rows: null, a reference put, bytes copied, tables of digits, a clone =====
section SBROWS
variable {κ : Cx} {δ : Dx} {own : String} {b : ByteArray} {nL : Nat} {ret : Option FieldType} {ρ0 : Nat → Nat} {n0 cb sb pc fr lo mc ms n : Nat} {l : AL} {st : List AV} {S : ASt} {G : GH} {sh : Nat → Sh} {rf rf' : Nat → Nat → Option Nat}
theorem a_aconst (X : CX κ δ own b nL ret) (hd : decode b pc = .ok (.aconst_null, 1)) (k : AW κ δ ρ0 n0 nL cb sb (pc + 1) l (vq none :: st) S G) : AW κ δ ρ0 n0 nL cb sb pc l st S G := by
  obtain ⟨p, lc, e, R, s, m, args, below, meth, c, Q⟩ := κ
  obtain ⟨hx, hb, hml, hown, hts, hret, hlk, hK, hN, hA, htr⟩ := X
  intro ρ H locs ls h1 h2 h3 h4
  exact lv_null hx hb hd (k ρ H locs ls h1 h2 h3 h4)
theorem a_ifnonnull (X : CX κ δ own b nL ret) {a : Nat} {off : Int} {tgt : Nat} (hd : decode b pc = .ok (.ifnonnull off, 3)) (ht : (pc : Int) + off = (tgt : Int)) (k : AW κ δ ρ0 n0 nL cb sb tgt l st S G) : AW κ δ ρ0 n0 nL cb sb pc l (vr a :: st) S G := by
  obtain ⟨p, lc, e, R, s, m, args, below, meth, c, Q⟩ := κ
  obtain ⟨hx, hb, hml, hown, hts, hret, hlk, hK, hN, hA, htr⟩ := X
  intro ρ H locs ls h1 h2 h3 h4
  exact lv_ifnonnull hx hb hd ht (k ρ H locs ls h1 h2 h3 h4)
theorem a_dupx1 (X : CX κ δ own b nL ret) {v w : AV} (hd : decode b pc = .ok (.dup_x1, 1)) (hv : cat2 (some v) = false) (hw : cat2 (some w) = false) (k : AW κ δ ρ0 n0 nL cb sb (pc + 1) l (v :: w :: v :: st) S G) : AW κ δ ρ0 n0 nL cb sb pc l (v :: w :: st) S G := by
  obtain ⟨p, lc, e, R, s, m, args, below, meth, c, Q⟩ := κ
  obtain ⟨hx, hb, hml, hown, hts, hret, hlk, hK, hN, hA, htr⟩ := X
  intro ρ H locs ls h1 h2 h3 h4
  exact lv_dup_x1 hx hb hd (cat1_of hv) (cat1_of hw) (k ρ H locs ls h1 h2 h3 h4)
theorem b_compact (X : CX κ δ own b nL ret) {idx : Nat} (hw : Cond.fieldLink own idx "java/lang/String" "COMPACT_STRINGS" "Z" ∈ allW) (hd : decode b pc = .ok (.getstatic idx, 3)) (k : AW κ δ ρ0 n0 nL cb sb (pc + 3) l (vi 1 :: st) S G) : AW κ δ ρ0 n0 nL cb sb pc l st S G := by
  obtain ⟨p, lc, e, R, s, m, args, below, meth, c, Q⟩ := κ
  obtain ⟨hx, hb, hml, hown, hts, hret, hlk, hK, hN, hA, htr⟩ := X
  intro ρ H locs ls h1 h2 h3 h4
  exact va_gets hx hb hA.2.2.1 h3 hown (hts _ hw) (fun _ h => h) hd (k ρ H locs ls h1 h2 h3 h4)
/-- a reference is put into a field that isn't final -/
theorem a_putRn (X : CX κ δ own b nL ret) {C : String} {T : u_T} {N ci index a q : Nat} {ty : Nat → FieldType} (hc : ClsOK ci C T N ty) (k : Nat) (hf : (fk ci)[k]? = some 1) (hfin : (T k).2.2.2 = false) (hw : Cond.fieldLink own index (T k).1 (T k).2.1 (T k).2.2.1 ∈ allW) (ha : isAt (n, sh, rf) a (.inr ci)) (hty : ∀ r : Nat, narrow (ty k) (.ref r) = .ref r ∧ fits (ty k) (.ref r) = true)
    (hrf : ∀ a' k', rf' a' k' = if a' = a ∧ k' = k then some q else rf a' k') (hd : decode b pc = .ok (.putfield index, 3))
    (kk : AW κ δ ρ0 n0 nL cb sb (pc + 3) l st (n, sh, rf') G) : AW κ δ ρ0 n0 nL cb sb pc l (vr q :: vr a :: st) (n, sh, rf) G := by
  obtain ⟨p, lc, e, R, s, m, args, below, meth, c, Q⟩ := κ
  obtain ⟨hx, hb, hml, hown, hts, hret, hlk, hK, hN, hA, htr⟩ := X
  intro ρ H locs ls h1 h2 h3 h4
  have hk : k < N := by have := (List.getElem?_eq_some_iff.mp hf).1; rw [hc.2.2.2.2] at this; exact this
  have hl : k < (fvals ρ (n, sh, rf) G a ci).length := by rw [show (fvals ρ (n, sh, rf) G a ci).length = (fk ci).length by simp [fvals], hc.2.2.2.2]; exact hk
  refine va_put (v := .ref (ρ q)) hx hb hts hc.2.1 ty hc.2.2.1 hc.2.2.2.1 hown hK h2.1 h2.2.1 h3 a (wl_obj ha) hc.1 k hk (hts _ hw) (fun _ h => h) hfin (hc.2.2.1 k hk) (hty _).1 (hty _).2 hl hd (fun H1 locs1 e1 e2 e3 => ?_)
  rw [← wl_putR ha hf hrf] at e1 e2
  exact kk ρ H1 locs1 ls h1 ⟨e1, e2, h2.2.2⟩ e3 h4
/-- a final number is put, in a constructor -/
theorem a_putIF (hI : isInit κ) (X : CX κ δ own b nL ret) {C : String} {T : u_T} {N ci index a : Nat} {ty : Nat → FieldType} (hc : ClsOK ci C T N ty) (k : Nat) (hf : (fk ci)[k]? = some 0) (hfin : (T k).2.2.2 = true) (hdecl : (T k).1 = own) {v : Int} (hw : Cond.fieldLink own index (T k).1 (T k).2.1 (T k).2.2.1 ∈ allW) (ha : isAt S a (.inr ci)) (hd : decode b pc = .ok (.putfield index, 3)) (hv : inR v)
    (hfit : narrow (ty k) (.int (zI v)) = .int (zI v) ∧ fits (ty k) (.int (zI v)) = true)
    (kk : GR (upG G a k v) → AW κ δ ρ0 n0 nL cb sb (pc + 3) l st S (upG G a k v)) : AW κ δ ρ0 n0 nL cb sb pc l (vi v :: vr a :: st) S G := by
  obtain ⟨p, lc, e, R, s, m, args, below, meth, c, Q⟩ := κ
  obtain ⟨hx, hb, hml, hown, hts, hret, hlk, hK, hN, hA, htr⟩ := X
  intro ρ H locs ls h1 h2 h3 h4
  have hk : k < N := by have := (List.getElem?_eq_some_iff.mp hf).1; rw [hc.2.2.2.2] at this; exact this
  have hl : k < (fvals ρ S G a ci).length := by rw [show (fvals ρ S G a ci).length = (fk ci).length by simp [fvals], hc.2.2.2.2]; exact hk
  have hg := h2.2.2.2.1.up (a := a) (k := k) hv
  refine va_putF (v := .int (zI v)) hx hb hts hc.2.1 ty hc.2.2.1 hc.2.2.2.1 hown hK h2.1 h2.2.1 h3 a (wl_obj ha) hc.1 k hk (hts _ hw) (fun _ h => h) hfin hI hdecl (hc.2.2.1 k hk) hfit.1 hfit.2 hl hd (fun H1 locs1 e1 e2 e3 => ?_)
  rw [← wl_putI ha hf] at e1 e2
  exact kk hg ρ H1 locs1 ls h1 ⟨e1, e2, h2.2.2.1, hg, h2.2.2.2.2⟩ e3 h4
theorem cl_nat {k : Nat} (hk : k < 2147483648) : (zI (k : Int)).toNatClampNeg = k := by rw [zI_cl ⟨by omega, by omega⟩]; rfl
theorem nn_nat {k : Nat} (hk : k < 2147483648) : ¬ zI (k : Int) < 0 := fun h => by
  rw [← zI_0, zI_lt ⟨by omega, by omega⟩ inR_0] at h; omega
theorem fits_b {x : Int} (h : 0 ≤ x ∧ x < 128) : fits .byte (.int (zI x)) = true := by
  obtain ⟨n, rfl⟩ := Int.eq_ofNat_of_zero_le h.1
  have hc : ∀ n : Nat, n < 128 → fits .byte (.int (zI (n : Int))) = true := by decide +kernel
  exact hc n (by omega)
/-- System.arraycopy of bytes -/
theorem a_copyb (X : CX κ δ own b nL ret) (hR : RmG κ fr lo mc ms) {idx a0 a1 n0' n1' sp dp n : Nat} (hl : Cond.methodLink own idx arraycopyName ∈ allW) (ha0 : isAt S a0 (.inl (2, n0'))) (ha1 : isAt S a1 (.inl (2, n1'))) (h4 : sp + n ≤ n0') (h5 : dp + n ≤ n1') (hb0 : n0' < 2147483648) (hb1 : n1' < 2147483648) (hf : ∀ i, i < n → 0 ≤ G a0 (sp + i) ∧ G a0 (sp + i) < 128)
    (hfr : 1 ≤ fr) (hlo : wsum st + 40 ≤ lo) (hd : decode b pc = .ok (.invokestatic idx, 3)) (kk : AW κ δ ρ0 n0 nL cb sb (pc + 3) l st S (cpG G a0 sp a1 dp n)) : AW κ δ ρ0 n0 nL cb sb pc l (vi (n : Int) :: vi (dp : Int) :: vr a1 :: vi (sp : Int) :: vr a0 :: st) S G := by
  obtain ⟨p, lc, e, R, s, m, args, below, meth, c, Q⟩ := κ
  obtain ⟨hx, hb, hml, hown, hts, hret, hlk, hK, hN, hA, htr⟩ := X
  subst hR
  intro ρ H locs ls q1 q2 q3 q4
  have hg := q2.2.2.2.1
  refine va_copyi hx hb (hml.trans q4.2.1.symm) hown (hts _ hl) (hts _ w_native_arraycopyName) (hts _ w_static_arraycopyName) (hts _ w_initialized__java_lang_System_) hK q2.1 q2.2.1 q3 a0 a1 2 2 (wl_int ha0 (by decide)) (wl_int ha1 (by decide)) (tys_at _).2.2.1 (tys_at _).2.2.1 rfl (nn_nat (by omega)) (nn_nat (by omega)) (nn_nat (by omega)) (by rw [cl_nat (by omega), cl_nat (by omega)]; exact h4) (by rw [cl_nat (by omega), cl_nat (by omega)]; exact h5) (fun i hi => by rw [cl_nat (by omega)] at hi; rw [cl_nat (by omega)]; exact fits_b (hf i hi)) hfr ?_ hd (fun H1 locs1 e1 e2 e3 => ?_)
  · rw [wsum_ok]
    have := cpW
    show _ ≤ lo
    omega
  · rw [cl_nat (by omega), cl_nat (by omega), cl_nat (by omega), ← wl_cp ha1 (by decide)] at e1 e2
    exact kk ρ H1 locs1 ls q1 ⟨e1, e2, q2.2.2.1, hg.cp, q2.2.2.2.2⟩ e3 q4
/-- the letters of the constant w are put at dp of the row a1 -/
def tcG (G : GH) (w a1 dp n : Nat) : GH := fun a k => if a = a1 ∧ dp ≤ k ∧ k < dp + n then schr w (k - dp) else G a k
theorem GR.tc {G : GH} {w a1 dp n : Nat} (h : GR G) : GR (tcG G w a1 dp n) := by
  intro a k
  unfold tcG
  split
  · exact schr_inR
  · exact h _ _
theorem wl_tc {dA : Nat → ClassId} {ρ : Nat → Nat} {S : ASt} {G : GH} {w a1 dp n t n1 : Nat} (h : isAt S a1 (.inl (t, n1))) (ht : t < 3) : wl dA ρ S (tcG G w a1 dp n) = (wl dA ρ S G).set a1 (ρ a1, .inl (dA t, n1, .inl (va_cpy (fun j => (strT.getD w []).getD j 0) (fun j => zI (G a1 j)) 0 dp n))) := by
  refine wl_set h.1 ?_ (fun a' ha' k' => by simp [tcG, ha'])
  rw [cellOf, h.2]
  show avals _ _ _ _ _ _ _ = _
  rw [avals, if_neg (by omega), if_neg (by omega)]
  congr 4
  funext j
  unfold tcG va_cpy
  by_cases hj : dp ≤ j ∧ j < dp + n
  · rw [if_pos ⟨rfl, hj⟩, if_pos hj, Nat.zero_add]
    unfold schr
    exact zI_of _
  · rw [if_neg (fun q => hj q.2), if_neg hj]
theorem strT_fits : ∀ w, w < 15 → ∀ j, j < strL.getD w 0 → fits .byte (.int ((strT.getD w []).getD j 0)) = true := by decide +kernel
/-- System.arraycopy out of a String constant's bytes -/
theorem a_copyt (X : CX κ δ own b nL ret) (hR : RmG κ fr lo mc ms) {idx w a1 n1' dp : Nat} (hw : w < 15) (hl : Cond.methodLink own idx arraycopyName ∈ allW) (ha1 : isAt S a1 (.inl (2, n1'))) (h5 : dp + strL.getD w 0 ≤ n1') (hb1 : n1' < 2147483648)
    (hfr : 1 ≤ fr) (hlo : wsum st + 40 ≤ lo) (hd : decode b pc = .ok (.invokestatic idx, 3)) (kk : AW κ δ ρ0 n0 nL cb sb (pc + 3) l st S (tcG G w a1 dp (strL.getD w 0))) : AW κ δ ρ0 n0 nL cb sb pc l (vi (slen w) :: vi (dp : Int) :: vr a1 :: vi 0 :: vr (strB + 20 + w) :: st) S G := by
  obtain ⟨p, lc, e, R, s, m, args, below, meth, c, Q⟩ := κ
  obtain ⟨hx, hb, hml, hown, hts, hret, hlk, hK, hN, hA, htr⟩ := X
  subst hR
  intro ρ H locs ls q1 q2 q3 q4
  have hg := q2.2.2.2.1
  have hs9 := (slen_inR (w := w)).2
  unfold slen at hs9
  have e9 : ρ (strB + 20 + w) = dVV δ w := (q2.2.2.2.2.1 w hw).2
  have e7 : (vi (slen w) :: vi (dp : Int) :: vr a1 :: vi 0 :: vr (strB + 20 + w) :: st).map (cv ρ) = .int (zI ((strL.getD w 0 : Nat) : Int)) :: .int (zI (dp : Int)) :: .ref (ρ a1) :: .int (zI ((0 : Nat) : Int)) :: .ref (dVV δ w) :: st.map (cv ρ) := by rw [← e9]; rfl
  rw [e7]
  refine vk_copyt hx hb (hml.trans q4.2.1.symm) hown (hts _ hl) (hts _ w_native_arraycopyName) (hts _ w_static_arraycopyName) (hts _ w_initialized__java_lang_System_) hK q2.1 q2.2.1 q3 (hA.2.2.2.2.1.1 w hw).2.2.2 a1 2 (wl_int ha1 (by decide)) (tys_at _).2.2.1 (nn_nat (by omega)) (nn_nat (by omega)) (nn_nat (by omega)) ?_ ?_ ?_ hfr ?_ hd (fun H1 locs1 e1 e2 e3 => ?_)
  · rw [cl_nat (by omega), cl_nat (by omega)]; omega
  · rw [cl_nat (by omega), cl_nat (by omega)]; exact h5
  · intro i hi
    rw [cl_nat (by omega)] at hi
    rw [cl_nat (by omega), Nat.zero_add]
    exact strT_fits w hw i hi
  · rw [wsum_ok]
    have := cpW
    show _ ≤ lo
    omega
  · rw [cl_nat (by omega), cl_nat (by omega), cl_nat (by omega), ← wl_tc ha1 (by decide)] at e1 e2
    exact kk ρ H1 locs1 ls q1 ⟨e1, e2, q2.2.2.1, hg.tc, q2.2.2.2.2⟩ e3 q4
/-- the tables of digits -/
theorem b_ones (X : CX κ δ own b nL ret) {idx : Nat} (hw : Cond.fieldLink own idx "java/lang/Integer" "DigitOnes" "[B" ∈ allW) (hd : decode b pc = .ok (.getstatic idx, 3)) (k : AW κ δ ρ0 n0 nL cb sb (pc + 3) l (vr (strB + 50) :: st) S G) : AW κ δ ρ0 n0 nL cb sb pc l st S G := by
  obtain ⟨p, lc, e, R, s, m, args, below, meth, c, Q⟩ := κ
  obtain ⟨hx, hb, hml, hown, hts, hret, hlk, hK, hN, hA, htr⟩ := X
  intro ρ H locs ls h1 h2 h3 h4
  have k9 := k ρ H locs ls h1 h2 h3 h4
  have e9 : ρ (strB + 50) = dT1 δ := h2.2.2.2.2.2.2.1
  have e7 : (vr (strB + 50) :: st).map (cv ρ) = .ref (dT1 δ) :: st.map (cv ρ) := by rw [← e9]; rfl
  rw [e7] at k9
  exact va_gets hx hb hA.2.2.2.2.2.2.2.2.2.2.2.2.2.2.1.1 h3 hown (hts _ hw) (fun _ h => h) hd k9
theorem b_tens (X : CX κ δ own b nL ret) {idx : Nat} (hw : Cond.fieldLink own idx "java/lang/Integer" "DigitTens" "[B" ∈ allW) (hd : decode b pc = .ok (.getstatic idx, 3)) (k : AW κ δ ρ0 n0 nL cb sb (pc + 3) l (vr (strB + 51) :: st) S G) : AW κ δ ρ0 n0 nL cb sb pc l st S G := by
  obtain ⟨p, lc, e, R, s, m, args, below, meth, c, Q⟩ := κ
  obtain ⟨hx, hb, hml, hown, hts, hret, hlk, hK, hN, hA, htr⟩ := X
  intro ρ H locs ls h1 h2 h3 h4
  have k9 := k ρ H locs ls h1 h2 h3 h4
  have e9 : ρ (strB + 51) = dT2 δ := h2.2.2.2.2.2.2.2
  have e7 : (vr (strB + 51) :: st).map (cv ρ) = .ref (dT2 δ) :: st.map (cv ρ) := by rw [← e9]; rfl
  rw [e7] at k9
  exact va_gets hx hb hA.2.2.2.2.2.2.2.2.2.2.2.2.2.2.2.1.1 h3 hown (hts _ hw) (fun _ h => h) hd k9
theorem b_onesAt (X : CX κ δ own b nL ret) {i : Nat} (hi : i < 100) (hd : decode b pc = .ok (.baload, 1)) (k : AW κ δ ρ0 n0 nL cb sb (pc + 1) l (vi (dgO i) :: st) S G) : AW κ δ ρ0 n0 nL cb sb pc l (vi (i : Int) :: vr (strB + 50) :: st) S G := by
  obtain ⟨p, lc, e, R, s, m, args, below, meth, c, Q⟩ := κ
  obtain ⟨hx, hb, hml, hown, hts, hret, hlk, hK, hN, hA, htr⟩ := X
  intro ρ H locs ls h1 h2 h3 h4
  have k9 := k ρ H locs ls h1 h2 h3 h4
  have e9 : ρ (strB + 50) = dT1 δ := h2.2.2.2.2.2.2.1
  have e7 : (vi (i : Int) :: vr (strB + 50) :: st).map (cv ρ) = .int (zI (i : Int)) :: .ref (dT1 δ) :: st.map (cv ρ) := by rw [← e9]; rfl
  rw [e7]
  refine va_tb (v := .int (zI (dgO i))) hx hb hA.2.2.2.2.2.2.2.2.2.2.2.2.2.2.1.2 h3 (zI_ix (by omega) (by omega) (by omega)) ?_ hd k9
  rw [cl_nat (by omega)]
theorem b_tensAt (X : CX κ δ own b nL ret) {i : Nat} (hi : i < 100) (hd : decode b pc = .ok (.baload, 1)) (k : AW κ δ ρ0 n0 nL cb sb (pc + 1) l (vi (dgT i) :: st) S G) : AW κ δ ρ0 n0 nL cb sb pc l (vi (i : Int) :: vr (strB + 51) :: st) S G := by
  obtain ⟨p, lc, e, R, s, m, args, below, meth, c, Q⟩ := κ
  obtain ⟨hx, hb, hml, hown, hts, hret, hlk, hK, hN, hA, htr⟩ := X
  intro ρ H locs ls h1 h2 h3 h4
  have k9 := k ρ H locs ls h1 h2 h3 h4
  have e9 : ρ (strB + 51) = dT2 δ := h2.2.2.2.2.2.2.2
  have e7 : (vi (i : Int) :: vr (strB + 51) :: st).map (cv ρ) = .int (zI (i : Int)) :: .ref (dT2 δ) :: st.map (cv ρ) := by rw [← e9]; rfl
  rw [e7]
  refine va_tb (v := .int (zI (dgT i))) hx hb hA.2.2.2.2.2.2.2.2.2.2.2.2.2.2.2.1.2 h3 (zI_ix (by omega) (by omega) (by omega)) ?_ hd k9
  rw [cl_nat (by omega)]
theorem wl_clone {dA : Nat → ClassId} {ρ : Nat → Nat} {q a N : Nat} (hsh : sh n = .inl (2, N)) (hfw : ∀ a, a < n → ∀ k q', rf a k = some q' → q' < n) (ha : isAt (n, sh, rf) a (.inl (2, N))) : wl dA (fun x => if x = n then q else ρ x) (n + 1, sh, rf) (fun x k => if x = n then G a k else G x k) = wl dA ρ (n, sh, rf) G ++ [(q, .inl (dA 2, N, .inl fun j => zI (G a j)))] := by
  unfold wl
  show List.map _ (List.range (n + 1)) = List.map _ (List.range n) ++ _
  rw [List.range_succ, List.map_append]
  congr 1
  · apply List.map_congr_left
    intro x hx
    have hx := List.mem_range.mp hx
    simp only [if_neg (Nat.ne_of_lt hx)]
    rw [cellOf_re (ρ := ρ) (n := n) (G := G) (fun k => if_neg (Nat.ne_of_lt hx)) (fun k q' hq => by rw [if_neg (Nat.ne_of_lt (hfw x hx k q' hq))])]
  · simp only [List.map_cons, List.map_nil, if_true]
    congr 2
    unfold cellOf
    show (match sh n with | .inr ci => _ | .inl (t, n) => _) = _
    rw [hsh]
    show avals _ _ _ _ n 2 N = _
    unfold avals
    rw [if_neg (by decide), if_neg (by decide)]
    simp
/-- a row of bytes is cloned -/
theorem a_cloneb (X : CX κ δ RJ7 b nL ret) (hR : RmG κ fr lo mc ms) {a N : Nat} (ha : isAt (n, sh, rf) a (.inl (2, N))) (hsh : sh n = .inl (2, N)) (hfw : ∀ a, a < n → ∀ k q, rf a k = some q → q < n) (hn : n < strB) (hn0 : n0 ≤ n) (hl : rltB n l = true) (hst : rltB n (st.map some) = true) (hfb : ∀ i, i < N → fits .byte (.int (zI (G a i))) = true)
    (hfr : 1 ≤ fr) (hlo : wsum st + 14 ≤ lo) (hcap : cb + 1 ≤ mc ∧ sb + N ≤ ms) (hd : decode b pc = .ok (.invokevirtual 310, 3))
    (k : AW κ δ ρ0 n0 nL (cb + 1) (sb + N) (pc + 3) l (vr n :: st) (n + 1, sh, rf) (fun x k => if x = n then G a k else G x k)) : AW κ δ ρ0 n0 nL cb sb pc l (vr a :: st) (n, sh, rf) G := by
  obtain ⟨p, lc, e, R, s, m, args, below, meth, c, Q⟩ := κ
  obtain ⟨hx, hb, hml, hown, hts, hret, hlk9, hK, hN, hA, htr⟩ := X
  subst hR
  intro ρ H locs ls h1 h2 h3 h4
  have hra : va_RA s (δ.2.2.1 2) .byte := (hK.2 2 _ (tys_at _).2.2.1).2
  refine va_clone hx hb (hml.trans h4.2.1.symm) hown (hts _ wM_J7_310) (hts _ w_cloneSame) (hts _ w_cloneNat) (hts _ w_cloneInst) (hts _ w_cloneSel) hA.2.2.2.2.2.2.2.2.2.2.2.2.2.2.2.2 hK h2.1 h2.2.1 h3 (fun q hq => Nat.le_trans hN hq) a 2 (wl_int ha (by decide)) (tys_at _).2.2.1 (va_nm_byte hra) ?_ hfr ?_ hcap.1 hcap.2 hd (fun q H1 eK e1 e2 e3 => ?_)
  · intro i v hv
    have hlt : i < N := by
      have := (Array.getElem?_eq_some_iff.mp hv).1
      have e9 : (vp_cell (δ.2.2.1 2) (N, Sum.inl fun j => zI (G a j))).slots.size = N := arrV_size _ _ _
      omega
    have e9 : (vp_cell (δ.2.2.1 2) (N, Sum.inl fun j => zI (G a j))).slots[i]? = some (.int (zI (G a i))) := arrV_read _ _ hlt
    rw [e9] at hv
    cases hv
    exact hfb i hlt
  · rw [wsum_ok]; exact hlo
  · have hre : ∀ x, x < n ∨ strB ≤ x → (fun x => if x = n then q else ρ x) x = ρ x := fun x hx => by
      have : x ≠ n := by omega
      simp [this]
    have hw9 := wl_clone (dA := δ.2.2.1) (ρ := ρ) (q := q) (G := G) hsh hfw ha
    have k9 := k (fun x => if x = n then q else ρ x) H1 locs ls (fun x hx => by
        have h9 : x ≠ n := fun q9 => hx (by subst q9; exact ⟨hn0, Nat.lt_succ_self _⟩)
        simp only [h9, if_false]
        exact h1 x (fun q9 => hx ⟨q9.1, Nat.lt_succ_of_lt q9.2⟩))
      ⟨by rw [hw9]; exact e1, by rw [hw9]; exact e2, hn, fun x k => by
        show inR (if x = n then G a k else G x k)
        split
        · exact h2.2.2.2.1 _ _
        · exact h2.2.2.2.1 _ _, h2.2.2.2.2.re (fun x hx _ => hre x (Or.inr hx))⟩ e3 (h4.re hl hre)
    have e8 : (vr n :: st).map (cv (fun x => if x = n then q else ρ x)) = .ref q :: st.map (cv ρ) := by
      rw [List.map_cons, st_re hst hre]
      simp [cv, vq, va_rf]
    rw [e8] at k9
    exact k9
theorem a_castb (X : CX κ δ RJ7 b nL ret) {a N : Nat} (ha : isAt S a (.inl (2, N))) (hd : decode b pc = .ok (.checkcast 311, 3)) (k : AW κ δ ρ0 n0 nL cb sb (pc + 3) l (vr a :: st) S G) : AW κ δ ρ0 n0 nL cb sb pc l (vr a :: st) S G := by
  obtain ⟨p, lc, e, R, s, m, args, below, meth, c, Q⟩ := κ
  obtain ⟨hx, hb, hml, hown, hts, hret, hlk9, hK, hN, hA, htr⟩ := X
  intro ρ H locs ls h1 h2 h3 h4
  have hra : va_RA s (δ.2.2.1 2) .byte := (hK.2 2 _ (tys_at _).2.2.1).2
  exact va_castA hx hb hown (hts _ wC_J7_311) h2.1 a (wl_int ha (by decide)) (va_nm_byte hra) hd (k ρ H locs ls h1 h2 h3 h4)
end SBROWS
