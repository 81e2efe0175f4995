/-! THE CLAIM OUT OF ONE WALK OF THE LAW'S BODY. Your part is whole_start (and what it stands on); all else here is the same for every law, but numbers. -/
def R_law : String := "HymnBoardsLaw"
def lw_P (b : Addr) (xs : List Int32) (args : Array Value) (s : State) : Prop := args = #[.ref b] ∧ s.IntsAt b xs ∧ xs.length ≤ 2560 ∧ (Jvm.Cond.and given_1 narrow_1).before args s = true
/-- what a walk over the start with the record d0 says of its end, said of the start itself -/
theorem lw_closed {s t : State} {o : Outcome} {d0 : Drawn} {L : List Loc} {k n : Nat} (hd0 : s.drawn.sameBut d0 lw_cs) (hv : ∃ v, o = .returned v) (hW : (s.setDrawn d0).WarmedH t.vm) (hs : (s.setDrawn d0).sameButNew ({ t with vm := s.vm } : State) L k n) : State.butDraws s t lw_cs (fun t1 => Framed s o t1 L k n) := by
  have h2 : t.drawn = d0 := congrArg State.drawn hs.1
  refine ⟨⟨hv, hW, State.sameButNew.setDrawn hs s.drawn⟩, ?_, by decide⟩
  rw [h2]
  exact hd0
def lw_Q (_ : Array Value) (s : State) (o : Outcome) (t : State) : Prop := o = .returned (some (.int 1)) ∧ State.butDraws s t lw_cs (fun t1 => Framed s o t1 [] 601024 7293033)
def lw_Z (below : List Frame) (a : Array Value) (s : State) : State → Prop := fun t => ∃ o, t.status = .running ∧ Ended t below o ∧ lw_Q a s o t
/-- the law's own end, with 1 on the stack, nothing written that was there before, its room as the claim has it; d0: the record of draws at this point (at the entry s.drawn: begin with 'refine W.base ?_' and 'have hd0 := Drawn.sameBut.refl s.drawn lw_cs') -/
theorem lw_ret {p : Program} {l : Launch} {e : Env} {s : State} {m : MethodId} {below : List Frame} {meth : Method} {c : Code} {b : Nat} {d0 : Drawn} (hd0 : s.drawn.sameBut d0 lw_cs) (hx : p.tables.exec = Jvm.exec) (hb : c.code = code) (hr : meth.sig.returnType = ret) (hlocks : meth.locks = false) {pc : Nat} {H : Heap} {ls : Array Slot} (hdg : decode code pc = .ok (.ireturn, 1)) : W p l e room_1 (s.setDrawn d0) m #[Value.ref b] below meth c H [] 601024 7293033 (lw_Z below #[Value.ref b] s) (F0 m pc ls [.int 1]) := by
  intro T hT X
  obtain ⟨fs, hret, hrun, hended, hW, hframe⟩ := X.leave (v := some (.int 1)) (hlocks := hlocks) (fun h => by rw [hr] at h; cases h)
  have hmeth' : T.vm.method? m = some meth := X.method'
  refine ⟨T.setFrames fs, ?_, .returned (some (.int 1)), hrun, hended, rfl, lw_closed hd0 ⟨_, rfl⟩ hW hframe⟩
  jvm_step X.here [X.here.top, hx, hb, hdg, hmeth', hr, ret, narrow_b1]
  (try refine ⟨rfl, ?_⟩); (try refine ⟨rfl, ?_⟩)
  first | (intro acts; rw [hret _ acts rfl rfl rfl]) | rw [hret _ _ rfl rfl rfl]
  exact Steps.refl _
/-- what holds at the law's entry: the machine, the code, the tables' words (any of lw_tbl by 'hts w (by decide +kernel)'), the script of L ints xs at the cell b, what the Statement gives of the start (any of its parts by flat_of_before) -/
def lw_At (p : Program) (s : State) (m : MethodId) (meth : Method) (c : Code) (b L : Nat) (xs : Nat → Int32) : Prop :=
  p.tables.exec = Jvm.exec ∧ c.code = code ∧ meth.sig.returnType = ret ∧ c.maxLocals = 9 ∧ s.vm.findClass R_law = some m.cls ∧ (∀ w ∈ lw_tbl, w.before #[Value.ref b] s = true) ∧ va_X b L xs s s.heap ∧ b < s.heap.size ∧ meth.locks = false ∧ (Jvm.Cond.and given_1 narrow_1).before #[Value.ref b] s = true
-- ===== the law from its entry, over what the pure part gives =====
def lawArms (L : Nat) (xs : Nat → Int32) (i : Int) (G : GH) (K : GH → Prop) : Prop := f_law_0 L xs i G K ∧ f_law_1 L xs i G K ∧ f_law_2 L xs i G K ∧ f_law_3 L xs i G K ∧ f_law_4 L xs i G K ∧ f_law_5 L xs i G K ∧ f_law_6 L xs i G K ∧ f_law_7 L xs i G K ∧ f_law_8 L xs i G K ∧ f_law_9 L xs i G K ∧ f_law_10 L xs i G K ∧ f_law_11 L xs i G K ∧ f_law_12 L xs i G K ∧ f_law_13 L xs i G K ∧ f_law_14 L xs i G K ∧ f_law_15 L xs i G K ∧ f_law_16 L xs i G K ∧ f_law_17 L xs i G K ∧ f_law_18 L xs i G K ∧ f_law_19 L xs i G K ∧ f_law_20 L xs i G K ∧ f_law_21 L xs i G K ∧ f_law_22 L xs i G K ∧ f_law_23 L xs i G K ∧ f_law_24 L xs i G K ∧ f_law_25 L xs i G K ∧ f_law_26 L xs i G K ∧ f_law_27 L xs i G K ∧ f_law_28 L xs i G K ∧ f_law_29 L xs i G K ∧ f_law_30 L xs i G K ∧ f_law_31 L xs i G K ∧ f_law_32 L xs i G K ∧ f_law_33 L xs i G K ∧ f_law_34 L xs i G K ∧ f_law_35 L xs i G K ∧ f_law_36 L xs i G K ∧ f_law_37 L xs i G K ∧ f_law_38 L xs i G K ∧ f_law_39 L xs i G K ∧ f_law_40 L xs i G K ∧ f_law_41 L xs i G K ∧ f_law_42 L xs i G K ∧ f_law_43 L xs i G K ∧ f_law_44 L xs i G K ∧ f_law_45 L xs i G K ∧ f_law_46 L xs i G K ∧ f_law_47 L xs i G K
def PureIni (R0 : GH → Prop) : Prop := ∀ G1 : GH, ((∀ b k, b < 0 → G1 b k = zG (fun _ _ => 0) 0 b k) ∧ G1 41 1 = 0 ∧ G1 41 2 = 0 ∧ G1 41 3 = 0 ∧ G1 41 4 = 0 ∧ G1 41 5 = 0 ∧ G1 41 6 = 0 ∧ G1 41 7 = 0 ∧ G1 41 8 = 0 ∧ G1 41 9 = 0 ∧ G1 44 1 = 0 ∧ G1 44 2 = 0 ∧ G1 230 1 = 0 ∧ G1 207 0 = 0 ∧ G1 207 1 = 0) → f_X7_startAnew 1 G1 (fun G2 => ∀ G3, G3 = upG G2 1 0 1 → ∀ G4, G4 = upG G3 2 0 4 → ∀ G5 : GH, ((∀ b k, b < 272 → G5 b k = zG G4 272 b k) ∧ G5 272 0 = zG G4 272 272 0 ∧ G5 272 6 = zG G4 272 272 6 ∧ G5 272 8 = zG G4 272 272 8 ∧ G5 272 9 = zG G4 272 272 9 ∧ G5 272 10 = zG G4 272 272 10 ∧ G5 272 11 = zG G4 272 272 11 ∧ G5 272 12 = zG G4 272 272 12 ∧ G5 272 13 = zG G4 272 272 13 ∧ G5 272 14 = zG G4 272 272 14 ∧ G5 272 15 = (-1) ∧ G5 272 17 = (-1) ∧ G5 272 22 = zG G4 272 272 22 ∧ G5 272 23 = zG G4 272 272 23 ∧ G5 272 24 = zG G4 272 272 24 ∧ G5 272 25 = zG G4 272 272 25 ∧ G5 272 27 = zG G4 272 272 27 ∧ G5 276 0 = 0 ∧ G5 276 1 = 0) → f_X10_begins G5 (fun G6 => ∀ G7, G7 = upG G6 273 0 1 → ∀ G8, G8 = upG G7 273 12 4 → R0 (zG G8 285)))
def PureArms (Rel : Nat → GH → Prop) : Prop := ∀ (L : Nat) (xs : Nat → Int32) (j : Nat) (G : GH), Rel j G → GR G → j < 512 → 5 * j + 5 ≤ L → lawArms L xs ((5 * j : Nat) : Int) G (Rel (j + 1)) ∧ Rel (j + 1) G
section LAWEND
variable {p : Program} {l : Launch} {e : Env} {s : State} {m : MethodId} {below : List Frame} {meth : Method} {c : Code} {b : Nat} {δ : Dx} {ρ0 : Nat → Nat} {n0 cb sb : Nat} {al : AL} {S : ASt} {G : GH}
theorem a_lawret (X : CX (p, l, e, room_1, s, m, #[Value.ref b], below, meth, c, lw_Z below #[Value.ref b] s) δ RL cL_law 9 ret) (hδ : δ.2.2.2.1 = s.heap.size) (hc : cb ≤ 601024 ∧ sb ≤ 7293033) : AW (p, l, e, room_1, s, m, #[Value.ref b], below, meth, c, lw_Z below #[Value.ref b] s) δ ρ0 n0 9 cb sb 2625 al [vi 1] S G := by
  obtain ⟨hx, hb, hml, hown, hts, hr, hlk, hK, hN, hA, htr⟩ := X
  intro ρ H locs ls h1 h2 h3 h4
  refine va_forget (fun q hq => by rw [← hδ]; exact h3.2.2 q hq) ?_
  refine W.widen hc.1 hc.2 ?_
  refine W.base ?_
  exact lw_ret (Drawn.sameBut.refl s.drawn lw_cs) hx hb hr hlk dL_law_2625
theorem law_loop (X : CX (p, l, e, room_1, s, m, #[Value.ref b], below, meth, c, lw_Z below #[Value.ref b] s) δ RL cL_law 9 ret) (hδ : δ.2.2.2.1 = s.heap.size) {L : Nat} {xs : Nat → Int32} (LX : LawX (p, l, e, room_1, s, m, #[Value.ref b], below, meth, c, lw_Z below #[Value.ref b] s) δ ρ0 L xs) (hL : L ≤ 2560) (Rel : Nat → GH → Prop) (harm : PureArms Rel) :
    ∀ (k j : Nat) (G : GH), L < 5 * j + 5 * k → 5 * j ≤ 2560 → Rel j G → GR G → AW (p, l, e, room_1, s, m, #[Value.ref b], below, meth, c, lw_Z below #[Value.ref b] s) δ ρ0 n0 9 (300 + 4 * j) (17000 + 24 * j) 23 [some (vr (strB + 30)), some (vr 0), some (vr 272), some (vr 285), some (vi ((5 * j : Nat) : Int)), none, none, none, none] [] (SF 286) G := by
  have E : RmL (p, l, e, room_1, s, m, #[Value.ref b], below, meth, c, lw_Z below #[Value.ref b] s) := rfl
  intro k
  induction k with
  | zero =>
    intro j G h1 h2 hR hG
    refine a_iload (pc := 23) X dL_law_23 rfl ?_
    refine a_aload_n (pc := 25) X dL_law_25 rfl rfl ?_
    refine b_scrlen (pc := 26) X LX dL_law_26 ?_
    refine a_iconst (pc := 27) X dL_law_27 ?_
    refine a_isub (pc := 28) X dL_law_28 ?_
    refine a_icmp_gt (pc := 29) (tgt := 2624) X dL_law_29 rfl ⟨by omega, by omega⟩ ⟨by omega, by omega⟩ (fun c9 => ?_) (fun c9 => by omega)
    refine a_iconst (pc := 2624) X dL_law_2624 ?_
    exact a_lawret X hδ ⟨by omega, by omega⟩
  | succ k ih =>
    intro j G h1 h2 hR hG
    refine a_iload (pc := 23) X dL_law_23 rfl ?_
    refine a_aload_n (pc := 25) X dL_law_25 rfl rfl ?_
    refine b_scrlen (pc := 26) X LX dL_law_26 ?_
    refine a_iconst (pc := 27) X dL_law_27 ?_
    refine a_isub (pc := 28) X dL_law_28 ?_
    refine a_icmp_gt (pc := 29) (tgt := 2624) X dL_law_29 rfl ⟨by omega, by omega⟩ ⟨by omega, by omega⟩ (fun c9 => ?_) (fun c9 => ?_)
    · refine a_iconst (pc := 2624) X dL_law_2624 ?_
      exact a_lawret X hδ ⟨by omega, by omega⟩
    · have hi4 : inR ((5 * j : Nat) : Int) := ⟨by omega, by omega⟩
      have hlt : 5 * j + 5 ≤ L := by omega
      have hj : j < 512 := by omega
      have back : ∀ G9, Rel (j + 1) G9 → GR G9 → AW (p, l, e, room_1, s, m, #[Value.ref b], below, meth, c, lw_Z below #[Value.ref b] s) δ ρ0 n0 9 (300 + 4 * j + 4) (17000 + 24 * j + 24) 2618 [some (vr (strB + 30)), some (vr 0), some (vr 272), some (vr 285), some (vi ((5 * j : Nat) : Int)), none, none, none, none] [] (SF 286) G9 := by
        intro G9 hR9 hG9
        refine a_iinc (pc := 2618) X dL_law_2618 rfl (Nat.le_of_ble_eq_true rfl) rfl rfl ?_
        refine a_goto (pc := 2621) (tgt := 23) X dL_law_2621 rfl ?_
        have k9 := ih (j + 1) G9 (by omega) (by omega) hR9 hG9
        rw [show ((5 * (j + 1) : Nat) : Int) = ((5 * j : Nat) : Int) + 5 by omega] at k9
        exact k9
      have hcb : 300 + 4 * j + 4 ≤ 601024 ∧ 17000 + 24 * j + 24 ≤ 7293033 := ⟨by omega, by omega⟩
      obtain ⟨arms, skip9⟩ := harm L xs j G hR hG hj hlt
      unfold lawArms at arms
      refine a_aload_n (pc := 32) X dL_law_32 rfl rfl ?_
      refine a_iload (pc := 33) X dL_law_33 rfl ?_
      refine b_scr (pc := 35) X LX ⟨by omega, by omega⟩ dL_law_35 ?_
      refine a_bipush (pc := 36) X dL_law_36 rfl ?_
      refine b_iand (pc := 38) X dL_law_38 ?_
      have hx9 : inR (zAnd (xs ((5 * j : Nat) : Int).toNat).toInt 63) := inR_zAnd
      generalize zAnd (xs ((5 * j : Nat) : Int).toNat).toInt 63 = x9 at hx9 ⊢
      by_cases hd : x9 < 0 ∨ 47 < x9
      · refine a_tableOut (pc := 39) (tgt := 2618) X dL_law_39 hx9 hd rfl ?_
        refine AW.widen (cb' := 300 + 4 * j + 4) (sb' := 17000 + 24 * j + 24) (by omega) (by omega) ?_
        exact back G skip9 hG

      · have c9 : x9 = 0 ∨ x9 = 1 ∨ x9 = 2 ∨ x9 = 3 ∨ x9 = 4 ∨ x9 = 5 ∨ x9 = 6 ∨ x9 = 7 ∨ x9 = 8 ∨ x9 = 9 ∨ x9 = 10 ∨ x9 = 11 ∨ x9 = 12 ∨ x9 = 13 ∨ x9 = 14 ∨ x9 = 15 ∨ x9 = 16 ∨ x9 = 17 ∨ x9 = 18 ∨ x9 = 19 ∨ x9 = 20 ∨ x9 = 21 ∨ x9 = 22 ∨ x9 = 23 ∨ x9 = 24 ∨ x9 = 25 ∨ x9 = 26 ∨ x9 = 27 ∨ x9 = 28 ∨ x9 = 29 ∨ x9 = 30 ∨ x9 = 31 ∨ x9 = 32 ∨ x9 = 33 ∨ x9 = 34 ∨ x9 = 35 ∨ x9 = 36 ∨ x9 = 37 ∨ x9 = 38 ∨ x9 = 39 ∨ x9 = 40 ∨ x9 = 41 ∨ x9 = 42 ∨ x9 = 43 ∨ x9 = 44 ∨ x9 = 45 ∨ x9 = 46 ∨ x9 = 47 := by omega
        rcases c9 with c9 | c9 | c9 | c9 | c9 | c9 | c9 | c9 | c9 | c9 | c9 | c9 | c9 | c9 | c9 | c9 | c9 | c9 | c9 | c9 | c9 | c9 | c9 | c9 | c9 | c9 | c9 | c9 | c9 | c9 | c9 | c9 | c9 | c9 | c9 | c9 | c9 | c9 | c9 | c9 | c9 | c9 | c9 | c9 | c9 | c9 | c9 | c9
        · refine a_tableIn (pc := 39) (tgt := 244) X dL_law_39 hx9 (by omega) (by omega) (by rw [c9]; rfl) rfl ?_
          exact m_law_0 X E LX (Nat.le_refl _) hi4 hG hcb back arms.1
        · refine a_tableIn (pc := 39) (tgt := 301) X dL_law_39 hx9 (by omega) (by omega) (by rw [c9]; rfl) rfl ?_
          exact m_law_1 X E LX (Nat.le_refl _) hi4 hG hcb back arms.2.1
        · refine a_tableIn (pc := 39) (tgt := 314) X dL_law_39 hx9 (by omega) (by omega) (by rw [c9]; rfl) rfl ?_
          exact m_law_2 X E LX (Nat.le_refl _) hi4 hG hcb back arms.2.2.1
        · refine a_tableIn (pc := 39) (tgt := 327) X dL_law_39 hx9 (by omega) (by omega) (by rw [c9]; rfl) rfl ?_
          exact m_law_3 X E LX (Nat.le_refl _) hi4 hG hcb back arms.2.2.2.1
        · refine a_tableIn (pc := 39) (tgt := 340) X dL_law_39 hx9 (by omega) (by omega) (by rw [c9]; rfl) rfl ?_
          exact m_law_4 X E LX (Nat.le_refl _) hi4 hG hcb back arms.2.2.2.2.1
        · refine a_tableIn (pc := 39) (tgt := 396) X dL_law_39 hx9 (by omega) (by omega) (by rw [c9]; rfl) rfl ?_
          exact m_law_5 X E LX (Nat.le_refl _) hi4 hG hcb back arms.2.2.2.2.2.1
        · refine a_tableIn (pc := 39) (tgt := 464) X dL_law_39 hx9 (by omega) (by omega) (by rw [c9]; rfl) rfl ?_
          exact m_law_6 X E LX (Nat.le_refl _) hi4 hG hcb back arms.2.2.2.2.2.2.1
        · refine a_tableIn (pc := 39) (tgt := 532) X dL_law_39 hx9 (by omega) (by omega) (by rw [c9]; rfl) rfl ?_
          exact m_law_7 X E LX (Nat.le_refl _) hi4 hG hcb back arms.2.2.2.2.2.2.2.1
        · refine a_tableIn (pc := 39) (tgt := 600) X dL_law_39 hx9 (by omega) (by omega) (by rw [c9]; rfl) rfl ?_
          exact m_law_8 X E LX (Nat.le_refl _) hi4 hG hcb back arms.2.2.2.2.2.2.2.2.1
        · refine a_tableIn (pc := 39) (tgt := 668) X dL_law_39 hx9 (by omega) (by omega) (by rw [c9]; rfl) rfl ?_
          exact m_law_9 X E LX (Nat.le_refl _) hi4 hG hcb back arms.2.2.2.2.2.2.2.2.2.1
        · refine a_tableIn (pc := 39) (tgt := 724) X dL_law_39 hx9 (by omega) (by omega) (by rw [c9]; rfl) rfl ?_
          exact m_law_10 X E LX (Nat.le_refl _) hi4 hG hcb back arms.2.2.2.2.2.2.2.2.2.2.1
        · refine a_tableIn (pc := 39) (tgt := 780) X dL_law_39 hx9 (by omega) (by omega) (by rw [c9]; rfl) rfl ?_
          exact m_law_11 X E LX (Nat.le_refl _) hi4 hG hcb back arms.2.2.2.2.2.2.2.2.2.2.2.1
        · refine a_tableIn (pc := 39) (tgt := 848) X dL_law_39 hx9 (by omega) (by omega) (by rw [c9]; rfl) rfl ?_
          exact m_law_12 X E LX (Nat.le_refl _) hi4 hG hcb back arms.2.2.2.2.2.2.2.2.2.2.2.2.1
        · refine a_tableIn (pc := 39) (tgt := 940) X dL_law_39 hx9 (by omega) (by omega) (by rw [c9]; rfl) rfl ?_
          exact m_law_13 X E LX (Nat.le_refl _) hi4 hG hcb back arms.2.2.2.2.2.2.2.2.2.2.2.2.2.1
        · refine a_tableIn (pc := 39) (tgt := 1008) X dL_law_39 hx9 (by omega) (by omega) (by rw [c9]; rfl) rfl ?_
          exact m_law_14 X E LX (Nat.le_refl _) hi4 hG hcb back arms.2.2.2.2.2.2.2.2.2.2.2.2.2.2.1
        · refine a_tableIn (pc := 39) (tgt := 1021) X dL_law_39 hx9 (by omega) (by omega) (by rw [c9]; rfl) rfl ?_
          exact m_law_15 X E LX (Nat.le_refl _) hi4 hG hcb back arms.2.2.2.2.2.2.2.2.2.2.2.2.2.2.2.1
        · refine a_tableIn (pc := 39) (tgt := 1077) X dL_law_39 hx9 (by omega) (by omega) (by rw [c9]; rfl) rfl ?_
          exact m_law_16 X E LX (Nat.le_refl _) hi4 hG hcb back arms.2.2.2.2.2.2.2.2.2.2.2.2.2.2.2.2.1
        · refine a_tableIn (pc := 39) (tgt := 1140) X dL_law_39 hx9 (by omega) (by omega) (by rw [c9]; rfl) rfl ?_
          exact m_law_17 X E LX (Nat.le_refl _) hi4 hG hcb back arms.2.2.2.2.2.2.2.2.2.2.2.2.2.2.2.2.2.1
        · refine a_tableIn (pc := 39) (tgt := 1196) X dL_law_39 hx9 (by omega) (by omega) (by rw [c9]; rfl) rfl ?_
          exact m_law_18 X E LX (Nat.le_refl _) hi4 hG hcb back arms.2.2.2.2.2.2.2.2.2.2.2.2.2.2.2.2.2.2.1
        · refine a_tableIn (pc := 39) (tgt := 1264) X dL_law_39 hx9 (by omega) (by omega) (by rw [c9]; rfl) rfl ?_
          exact m_law_19 X E LX (Nat.le_refl _) hi4 hG hcb back arms.2.2.2.2.2.2.2.2.2.2.2.2.2.2.2.2.2.2.2.1
        · refine a_tableIn (pc := 39) (tgt := 1320) X dL_law_39 hx9 (by omega) (by omega) (by rw [c9]; rfl) rfl ?_
          exact m_law_20 X E LX (Nat.le_refl _) hi4 hG hcb back arms.2.2.2.2.2.2.2.2.2.2.2.2.2.2.2.2.2.2.2.2.1
        · refine a_tableIn (pc := 39) (tgt := 1376) X dL_law_39 hx9 (by omega) (by omega) (by rw [c9]; rfl) rfl ?_
          exact m_law_21 X E LX (Nat.le_refl _) hi4 hG hcb back arms.2.2.2.2.2.2.2.2.2.2.2.2.2.2.2.2.2.2.2.2.2.1
        · refine a_tableIn (pc := 39) (tgt := 1432) X dL_law_39 hx9 (by omega) (by omega) (by rw [c9]; rfl) rfl ?_
          exact m_law_22 X E LX (Nat.le_refl _) hi4 hG hcb back arms.2.2.2.2.2.2.2.2.2.2.2.2.2.2.2.2.2.2.2.2.2.2.1
        · refine a_tableIn (pc := 39) (tgt := 1445) X dL_law_39 hx9 (by omega) (by omega) (by rw [c9]; rfl) rfl ?_
          exact m_law_23 X E LX (Nat.le_refl _) hi4 hG hcb back arms.2.2.2.2.2.2.2.2.2.2.2.2.2.2.2.2.2.2.2.2.2.2.2.1
        · refine a_tableIn (pc := 39) (tgt := 1513) X dL_law_39 hx9 (by omega) (by omega) (by rw [c9]; rfl) rfl ?_
          exact m_law_24 X E LX (Nat.le_refl _) hi4 hG hcb back arms.2.2.2.2.2.2.2.2.2.2.2.2.2.2.2.2.2.2.2.2.2.2.2.2.1
        · refine a_tableIn (pc := 39) (tgt := 1526) X dL_law_39 hx9 (by omega) (by omega) (by rw [c9]; rfl) rfl ?_
          exact m_law_25 X E LX (Nat.le_refl _) hi4 hG hcb back arms.2.2.2.2.2.2.2.2.2.2.2.2.2.2.2.2.2.2.2.2.2.2.2.2.2.1
        · refine a_tableIn (pc := 39) (tgt := 1539) X dL_law_39 hx9 (by omega) (by omega) (by rw [c9]; rfl) rfl ?_
          exact m_law_26 X E LX (Nat.le_refl _) hi4 hG hcb back arms.2.2.2.2.2.2.2.2.2.2.2.2.2.2.2.2.2.2.2.2.2.2.2.2.2.2.1
        · refine a_tableIn (pc := 39) (tgt := 1595) X dL_law_39 hx9 (by omega) (by omega) (by rw [c9]; rfl) rfl ?_
          exact m_law_27 X E LX (Nat.le_refl _) hi4 hG hcb back arms.2.2.2.2.2.2.2.2.2.2.2.2.2.2.2.2.2.2.2.2.2.2.2.2.2.2.2.1
        · refine a_tableIn (pc := 39) (tgt := 1651) X dL_law_39 hx9 (by omega) (by omega) (by rw [c9]; rfl) rfl ?_
          exact m_law_28 X E LX (Nat.le_refl _) hi4 hG hcb back arms.2.2.2.2.2.2.2.2.2.2.2.2.2.2.2.2.2.2.2.2.2.2.2.2.2.2.2.2.1
        · refine a_tableIn (pc := 39) (tgt := 1664) X dL_law_39 hx9 (by omega) (by omega) (by rw [c9]; rfl) rfl ?_
          exact m_law_29 X E LX (Nat.le_refl _) hi4 hG hcb back arms.2.2.2.2.2.2.2.2.2.2.2.2.2.2.2.2.2.2.2.2.2.2.2.2.2.2.2.2.2.1
        · refine a_tableIn (pc := 39) (tgt := 1677) X dL_law_39 hx9 (by omega) (by omega) (by rw [c9]; rfl) rfl ?_
          exact m_law_30 X E LX (Nat.le_refl _) hi4 hG hcb back arms.2.2.2.2.2.2.2.2.2.2.2.2.2.2.2.2.2.2.2.2.2.2.2.2.2.2.2.2.2.2.1
        · refine a_tableIn (pc := 39) (tgt := 1757) X dL_law_39 hx9 (by omega) (by omega) (by rw [c9]; rfl) rfl ?_
          exact m_law_31 X E LX (Nat.le_refl _) hi4 hG hcb back arms.2.2.2.2.2.2.2.2.2.2.2.2.2.2.2.2.2.2.2.2.2.2.2.2.2.2.2.2.2.2.2.1
        · refine a_tableIn (pc := 39) (tgt := 1813) X dL_law_39 hx9 (by omega) (by omega) (by rw [c9]; rfl) rfl ?_
          exact m_law_32 X E LX (Nat.le_refl _) hi4 hG hcb back arms.2.2.2.2.2.2.2.2.2.2.2.2.2.2.2.2.2.2.2.2.2.2.2.2.2.2.2.2.2.2.2.2.1
        · refine a_tableIn (pc := 39) (tgt := 1881) X dL_law_39 hx9 (by omega) (by omega) (by rw [c9]; rfl) rfl ?_
          exact m_law_33 X E LX (Nat.le_refl _) hi4 hG hcb back arms.2.2.2.2.2.2.2.2.2.2.2.2.2.2.2.2.2.2.2.2.2.2.2.2.2.2.2.2.2.2.2.2.2.1
        · refine a_tableIn (pc := 39) (tgt := 1949) X dL_law_39 hx9 (by omega) (by omega) (by rw [c9]; rfl) rfl ?_
          exact m_law_34 X E LX (Nat.le_refl _) hi4 hG hcb back arms.2.2.2.2.2.2.2.2.2.2.2.2.2.2.2.2.2.2.2.2.2.2.2.2.2.2.2.2.2.2.2.2.2.2.1
        · refine a_tableIn (pc := 39) (tgt := 2029) X dL_law_39 hx9 (by omega) (by omega) (by rw [c9]; rfl) rfl ?_
          exact m_law_35 X E LX (Nat.le_refl _) hi4 hG hcb back arms.2.2.2.2.2.2.2.2.2.2.2.2.2.2.2.2.2.2.2.2.2.2.2.2.2.2.2.2.2.2.2.2.2.2.2.1
        · refine a_tableIn (pc := 39) (tgt := 2070) X dL_law_39 hx9 (by omega) (by omega) (by rw [c9]; rfl) rfl ?_
          exact m_law_36 X E LX (Nat.le_refl _) hi4 hG hcb back arms.2.2.2.2.2.2.2.2.2.2.2.2.2.2.2.2.2.2.2.2.2.2.2.2.2.2.2.2.2.2.2.2.2.2.2.2.1
        · refine a_tableIn (pc := 39) (tgt := 2111) X dL_law_39 hx9 (by omega) (by omega) (by rw [c9]; rfl) rfl ?_
          exact m_law_37 X E LX (Nat.le_refl _) hi4 hG hcb back arms.2.2.2.2.2.2.2.2.2.2.2.2.2.2.2.2.2.2.2.2.2.2.2.2.2.2.2.2.2.2.2.2.2.2.2.2.2.1
        · refine a_tableIn (pc := 39) (tgt := 2191) X dL_law_39 hx9 (by omega) (by omega) (by rw [c9]; rfl) rfl ?_
          exact m_law_38 X E LX (Nat.le_refl _) hi4 hG hcb back arms.2.2.2.2.2.2.2.2.2.2.2.2.2.2.2.2.2.2.2.2.2.2.2.2.2.2.2.2.2.2.2.2.2.2.2.2.2.2.1
        · refine a_tableIn (pc := 39) (tgt := 2259) X dL_law_39 hx9 (by omega) (by omega) (by rw [c9]; rfl) rfl ?_
          exact m_law_39 X E LX (Nat.le_refl _) hi4 hG hcb back arms.2.2.2.2.2.2.2.2.2.2.2.2.2.2.2.2.2.2.2.2.2.2.2.2.2.2.2.2.2.2.2.2.2.2.2.2.2.2.2.1
        · refine a_tableIn (pc := 39) (tgt := 2315) X dL_law_39 hx9 (by omega) (by omega) (by rw [c9]; rfl) rfl ?_
          exact m_law_40 X E LX (Nat.le_refl _) hi4 hG hcb back arms.2.2.2.2.2.2.2.2.2.2.2.2.2.2.2.2.2.2.2.2.2.2.2.2.2.2.2.2.2.2.2.2.2.2.2.2.2.2.2.2.1
        · refine a_tableIn (pc := 39) (tgt := 2356) X dL_law_39 hx9 (by omega) (by omega) (by rw [c9]; rfl) rfl ?_
          exact m_law_41 X E LX (Nat.le_refl _) hi4 hG hcb back arms.2.2.2.2.2.2.2.2.2.2.2.2.2.2.2.2.2.2.2.2.2.2.2.2.2.2.2.2.2.2.2.2.2.2.2.2.2.2.2.2.2.1
        · refine a_tableIn (pc := 39) (tgt := 2399) X dL_law_39 hx9 (by omega) (by omega) (by rw [c9]; rfl) rfl ?_
          exact m_law_42 X E LX (Nat.le_refl _) hi4 hG hcb back arms.2.2.2.2.2.2.2.2.2.2.2.2.2.2.2.2.2.2.2.2.2.2.2.2.2.2.2.2.2.2.2.2.2.2.2.2.2.2.2.2.2.2.1
        · refine a_tableIn (pc := 39) (tgt := 2412) X dL_law_39 hx9 (by omega) (by omega) (by rw [c9]; rfl) rfl ?_
          exact m_law_43 X E LX (Nat.le_refl _) hi4 hG hcb back arms.2.2.2.2.2.2.2.2.2.2.2.2.2.2.2.2.2.2.2.2.2.2.2.2.2.2.2.2.2.2.2.2.2.2.2.2.2.2.2.2.2.2.2.1
        · refine a_tableIn (pc := 39) (tgt := 2468) X dL_law_39 hx9 (by omega) (by omega) (by rw [c9]; rfl) rfl ?_
          exact m_law_44 X E LX (Nat.le_refl _) hi4 hG hcb back arms.2.2.2.2.2.2.2.2.2.2.2.2.2.2.2.2.2.2.2.2.2.2.2.2.2.2.2.2.2.2.2.2.2.2.2.2.2.2.2.2.2.2.2.2.1
        · refine a_tableIn (pc := 39) (tgt := 2493) X dL_law_39 hx9 (by omega) (by omega) (by rw [c9]; rfl) rfl ?_
          exact m_law_45 X E LX (Nat.le_refl _) hi4 hG hcb back arms.2.2.2.2.2.2.2.2.2.2.2.2.2.2.2.2.2.2.2.2.2.2.2.2.2.2.2.2.2.2.2.2.2.2.2.2.2.2.2.2.2.2.2.2.2.1
        · refine a_tableIn (pc := 39) (tgt := 2506) X dL_law_39 hx9 (by omega) (by omega) (by rw [c9]; rfl) rfl ?_
          exact m_law_46 X E LX (Nat.le_refl _) hi4 hG hcb back arms.2.2.2.2.2.2.2.2.2.2.2.2.2.2.2.2.2.2.2.2.2.2.2.2.2.2.2.2.2.2.2.2.2.2.2.2.2.2.2.2.2.2.2.2.2.2.1
        · refine a_tableIn (pc := 39) (tgt := 2562) X dL_law_39 hx9 (by omega) (by omega) (by rw [c9]; rfl) rfl ?_
          exact m_law_47 X E LX (Nat.le_refl _) hi4 hG hcb back arms.2.2.2.2.2.2.2.2.2.2.2.2.2.2.2.2.2.2.2.2.2.2.2.2.2.2.2.2.2.2.2.2.2.2.2.2.2.2.2.2.2.2.2.2.2.2.2
end LAWEND
