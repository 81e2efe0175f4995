-- ===== the walk of the law's text: written by wip/p51/mktext.py =====
set_option maxHeartbeats 1000000 in
set_option maxRecDepth 100000 in
theorem m_L_cellS {S : ASt} {L : Nat} {xs : Nat → Int32} {i1 : Int} {G : GH} {Q : Int → Prop} (hi1 : inR i1) (h : f_L_cell L xs i1 Q) : MtS L xs yL_cell cL_cell 2 (some .int) 1 16 0 0 [vr (strB + 60), vi i1] S G (fun v S' G' => S' = S ∧ qI (fun r9 G9 => G9 = G ∧ Q r9) v S' G') (fun E S' G' => S' = S ∧ False) := by
  refine MtS.of (l0 := [some (vr (strB + 60)), some (vi i1)]) (by decide) (Nat.le_of_ble_eq_true rfl) rfl ?_
  intro κ δ ρ0 X9 E hsc hG
  replace X9 : CX κ δ RL cL_cell 2 (some .int) := X9
  obtain ⟨h0, hQ⟩ := h
  have key : ∀ r : Int, 0 ≤ r → r < 100000 → Q r → AW κ δ ρ0 S.1 2 0 0 21 [some (vr (strB + 60)), some (vi i1)] [vi r] S G := fun r r0 r1 hq =>
    a_ireturn (pc := 21) X9 E rfl rfl (Nat.le_of_ble_eq_true rfl) (Nat.le_of_ble_eq_true rfl) dL_cell_21 ⟨rfl, _, rfl, ⟨by omega, by omega⟩, rfl, hq⟩
  refine a_aload_n (pc := 0) X9 dL_cell_0 rfl rfl ?_
  refine b_scrlen (pc := 1) X9 hsc dL_cell_1 (fun hL => ?_)
  refine a_if_ne (pc := 2) (tgt := 9) X9 dL_cell_2 rfl ⟨by omega, by omega⟩ (fun c => ?_) (fun c => ?_)
  · refine a_aload_n (pc := 9) X9 dL_cell_9 rfl rfl ?_
    refine a_iload_n (pc := 10) X9 dL_cell_10 rfl rfl ?_
    refine a_aload_n (pc := 11) X9 dL_cell_11 rfl rfl ?_
    refine b_scrlen (pc := 12) X9 hsc dL_cell_12 (fun _ => ?_)
    refine a_irem (pc := 13) X9 dL_cell_13 ⟨h0, hi1.2⟩ ⟨by omega, by omega⟩ ?_
    have r0 := Int.emod_nonneg i1 (show (L : Int) ≠ 0 by omega)
    have r1 := Int.emod_lt_of_pos i1 (show (0 : Int) < L by omega)
    refine b_scr (pc := 14) X9 hsc ⟨r0, r1⟩ dL_cell_14 ?_
    refine a_ldc (pc := 15) X9 (n := 100000) wCI_L_7 dL_cell_15 (by decide +kernel) ?_
    have hx : inR (xs (i1 % (L : Int)).toNat).toInt := inR_toInt _
    have e9 : cellV L xs i1 = (((xs (i1 % (L : Int)).toNat).toInt.natAbs % 100000 : Nat) : Int) := if_neg (by omega)
    rw [e9] at hQ
    generalize (xs (i1 % (L : Int)).toNat).toInt = x at hx hQ ⊢
    refine a_iremS (pc := 17) X9 dL_cell_17 hx (by decide) ?_
    have e8 : (if 0 ≤ x.tmod 100000 then x.tmod 100000 else 0 - x.tmod 100000) = ((x.natAbs % 100000 : Nat) : Int) := by
      have hn := Int.natAbs_tmod x 100000
      have h9 : (100000 : Int).natAbs = 100000 := rfl
      rw [h9] at hn
      omega
    refine a_abs (pc := 18) X9 E wM_L_8 ⟨?_, ?_⟩ (Nat.le_of_ble_eq_true rfl) (Nat.le_of_ble_eq_true rfl) ⟨Nat.le_of_ble_eq_true rfl, Nat.le_of_ble_eq_true rfl⟩ dL_cell_18 ?_
    · have hn := Int.natAbs_tmod x 100000
      have h9 : (100000 : Int).natAbs = 100000 := rfl
      rw [h9] at hn
      have := Nat.mod_lt x.natAbs (show 100000 > 0 by omega)
      omega
    · have hn := Int.natAbs_tmod x 100000
      have h9 : (100000 : Int).natAbs = 100000 := rfl
      rw [h9] at hn
      have := Nat.mod_lt x.natAbs (show 100000 > 0 by omega)
      omega
    · rw [e8]
      have := Nat.mod_lt x.natAbs (show 100000 > 0 by omega)
      exact key _ (by omega) (by omega) hQ
  · refine a_iconst (pc := 5) X9 dL_cell_5 ?_
    refine a_goto (pc := 6) (tgt := 21) X9 dL_cell_6 rfl ?_
    have e9 : cellV L xs i1 = 0 := if_pos (by omega)
    rw [e9] at hQ
    exact key 0 (by omega) (by omega) hQ

set_option maxHeartbeats 1000000 in
set_option maxRecDepth 100000 in
theorem m_L_hymnS {S : ASt} {L : Nat} {xs : Nat → Int32} {i0 : Int} {G : GH} {Q : Int → Prop} (hi0 : inR i0) (h : f_L_hymn i0 Q) : MtS L xs yL_hymn cL_hymn 1 (some .int) 0 0 0 0 [vi i0] S G (fun v S' G' => S' = S ∧ qI (fun r9 G9 => G9 = G ∧ Q r9) v S' G') (fun E S' G' => S' = S ∧ False) := by
  refine MtS.of (l0 := [some (vi i0)]) (by decide) (Nat.le_of_ble_eq_true rfl) rfl ?_
  intro κ δ ρ0 X9 E hsc hG
  replace X9 : CX κ δ RL cL_hymn 1 (some .int) := X9
  refine a_iload_n (pc := 0) X9 dL_hymn_0 rfl rfl ?_
  refine a_iconst (pc := 1) X9 dL_hymn_1 ?_
  obtain ⟨g_1, h⟩ := h
  refine a_irem (pc := 2) X9 dL_hymn_2 ⟨g_1, hi0.2⟩ ⟨(by decide), (by decide)⟩ ?_
  refine a_if_ne (pc := 3) (tgt := 17) X9 dL_hymn_3 rfl (inR_mod g_1 (by decide) (by decide)) (fun c => ?_) (fun c => ?_)
  · have c_1 := c
    have h := h.1 c_1
    refine a_iload_n (pc := 17) X9 dL_hymn_17 rfl rfl ?_
    refine a_iconst (pc := 18) X9 dL_hymn_18 ?_
    refine a_irem (pc := 19) X9 dL_hymn_19 ⟨g_1, hi0.2⟩ ⟨(by decide), (by decide)⟩ ?_
    refine a_iconst (pc := 20) X9 dL_hymn_20 ?_
    refine a_icmp_ne (pc := 21) (tgt := 36) X9 dL_hymn_21 rfl (inR_mod g_1 (by decide) (by decide)) (by decide) (fun c => ?_) (fun c => ?_)
    · have c_2 := c
      have h := h.1 c_2
      refine a_iconst (pc := 36) X9 dL_hymn_36 ?_
      refine a_iload_n (pc := 37) X9 dL_hymn_37 rfl rfl ?_
      refine a_iconst (pc := 38) X9 dL_hymn_38 ?_
      refine a_idiv (pc := 39) X9 dL_hymn_39 ⟨g_1, hi0.2⟩ ⟨(by decide), (by decide)⟩ ?_
      refine a_sipush (pc := 40) X9 dL_hymn_40 rfl ?_
      obtain ⟨g_2, h⟩ := h
      refine a_irem (pc := 43) X9 dL_hymn_43 ⟨g_2, (inR_div hi0 g_1 (by decide)).2⟩ ⟨(by decide), (by decide)⟩ ?_
      refine a_iadd (pc := 44) X9 dL_hymn_44 ?_
      obtain ⟨g_3, h⟩ := h
      exact a_ireturn (pc := 45) X9 E rfl rfl (Nat.le_of_ble_eq_true rfl) (Nat.le_of_ble_eq_true rfl) dL_hymn_45 ⟨rfl, _, rfl, g_3, rfl, h⟩
    · have c_2 := c
      have h := h.2 c_2
      refine a_bipush (pc := 24) X9 dL_hymn_24 rfl ?_
      refine a_iload_n (pc := 26) X9 dL_hymn_26 rfl rfl ?_
      refine a_iconst (pc := 27) X9 dL_hymn_27 ?_
      refine a_idiv (pc := 28) X9 dL_hymn_28 ⟨g_1, hi0.2⟩ ⟨(by decide), (by decide)⟩ ?_
      refine a_bipush (pc := 29) X9 dL_hymn_29 rfl ?_
      obtain ⟨g_4, h⟩ := h
      refine a_irem (pc := 31) X9 dL_hymn_31 ⟨g_4, (inR_div hi0 g_1 (by decide)).2⟩ ⟨(by decide), (by decide)⟩ ?_
      refine a_iadd (pc := 32) X9 dL_hymn_32 ?_
      refine a_goto (pc := 33) (tgt := 45) X9 dL_hymn_33 rfl ?_
      obtain ⟨g_5, h⟩ := h
      exact a_ireturn (pc := 45) X9 E rfl rfl (Nat.le_of_ble_eq_true rfl) (Nat.le_of_ble_eq_true rfl) dL_hymn_45 ⟨rfl, _, rfl, g_5, rfl, h⟩
  · have c_1 := c
    have h := h.2 c_1
    refine a_iconst (pc := 6) X9 dL_hymn_6 ?_
    refine a_iload_n (pc := 7) X9 dL_hymn_7 rfl rfl ?_
    refine a_iconst (pc := 8) X9 dL_hymn_8 ?_
    refine a_idiv (pc := 9) X9 dL_hymn_9 ⟨g_1, hi0.2⟩ ⟨(by decide), (by decide)⟩ ?_
    refine a_bipush (pc := 10) X9 dL_hymn_10 rfl ?_
    obtain ⟨g_6, h⟩ := h
    refine a_irem (pc := 12) X9 dL_hymn_12 ⟨g_6, (inR_div hi0 g_1 (by decide)).2⟩ ⟨(by decide), (by decide)⟩ ?_
    refine a_iadd (pc := 13) X9 dL_hymn_13 ?_
    refine a_goto (pc := 14) (tgt := 45) X9 dL_hymn_14 rfl ?_
    obtain ⟨g_7, h⟩ := h
    exact a_ireturn (pc := 45) X9 E rfl rfl (Nat.le_of_ble_eq_true rfl) (Nat.le_of_ble_eq_true rfl) dL_hymn_45 ⟨rfl, _, rfl, g_7, rfl, h⟩

/-- the script's cells as natural numbers -/
def cN (L : Nat) (xs : Nat → Int32) (i : Nat) : Nat := (cellV L xs (i : Int)).toNat
theorem cN_eq {L : Nat} {xs : Nat → Int32} {i : Nat} : cellV L xs (i : Int) = ((cN L xs i : Nat) : Int) := (Int.toNat_of_nonneg cellV_rng.1).symm
theorem cN_lt {L : Nat} {xs : Nat → Int32} {i : Nat} : cN L xs i < 100000 := by
  have h := (cellV_rng (L := L) (xs := xs) (i := (i : Int))).2
  rw [cN_eq] at h
  omega
/-- the law's hymn of a number -/
def hyN (v : Nat) : Nat := if v % 3 = 0 then 1 + v / 3 % 9 else if v % 3 = 1 then 66 + v / 3 % 34 else 1 + v / 3 % 999
theorem hyN_rng (v : Nat) : 1 ≤ hyN v ∧ hyN v < 1000 := by
  unfold hyN
  split
  · omega
  · split <;> omega
theorem hyN_f {v : Nat} (hv : v < 2147483648) : f_L_hymn (v : Int) (fun r => r = ((hyN v : Nat) : Int)) := by
  unfold f_L_hymn hyN
  refine ⟨by omega, fun h => ⟨fun h1 => ⟨by omega, ⟨by omega, by omega⟩, ?_⟩, fun h1 => ⟨by omega, ⟨by omega, by omega⟩, ?_⟩⟩, fun h => ⟨by omega, ⟨by omega, by omega⟩, ?_⟩⟩
  · rw [if_neg (by omega), if_neg (by omega)]; omega
  · rw [if_neg (by omega), if_pos (by omega)]; omega
  · rw [if_pos (by omega)]; omega
theorem rltB_mono {c c' : Nat} (hc : c ≤ c') : ∀ {l : AL}, rltB c l = true → rltB c' l = true
  | [], _ => rfl
  | some (.inr (.inr (.inl (some x)))) :: r, hb => by
    simp only [rltB, Bool.and_eq_true, Bool.or_eq_true, decide_eq_true_eq] at hb ⊢
    exact ⟨hb.1.imp (fun h => Nat.lt_of_lt_of_le h hc) id, rltB_mono hc hb.2⟩
  | none :: r, hb => rltB_mono (l := r) hc hb
  | some (.inl _) :: r, hb => rltB_mono (l := r) hc hb
  | some (.inr (.inl _)) :: r, hb => rltB_mono (l := r) hc hb
  | some (.inr (.inr (.inl none))) :: r, hb => rltB_mono (l := r) hc hb
  | some (.inr (.inr (.inr _))) :: r, hb => rltB_mono (l := r) hc hb
/-- the text that the law loads, of the script's cells -/
def txCard (v : Nat) : List Int := cT 11 ++ (dgs (if v % 4 = 0 then 6 else v / 4 % 10) ++ ((if v % 3 = 0 then cT 12 ++ dgs (if v % 5 = 0 then 9 else v / 7 % 10) else []) ++ ([32] ++ dgs (v / 11 % 6))))
def txCards (c : Nat → Nat) : Nat → List Int
  | 0 => []
  | k + 1 => txCards c k ++ txCard (c (6 + k))
def txFr (c : Nat → Nat) : Nat → List Int
  | 0 => []
  | k + 1 => txFr c k ++ ([32] ++ dgs (c (13 + k) % 4))
def txHy (c : Nat → Nat) (k : Nat) : Nat → List Int
  | 0 => []
  | i + 1 => txHy c k i ++ ([32] ++ dgs (hyN (c (27 + 4 * k + i))))
def txSv (c : Nat → Nat) (k : Nat) : List Int := cT 14 ++ (dgs (hyN (c (23 + k))) ++ txHy c k (c (25 + k) % 5))
def txHead (c : Nat → Nat) : List Int := cT 7 ++ (dgs (1 + c 0 % 4) ++ ((if c 1 % 3 = 0 then [] else [32] ++ dgs (1 + c 2 % 3)) ++ ((if c 3 % 2 = 0 then cT 8 else []) ++ (if c 4 % 2 = 0 then cT 10 else []))))
def txAll (c : Nat → Nat) : List Int := txHead c ++ (txCards c (1 + c 5 % 6) ++ (cT 13 ++ (dgs (1 + c 12 % 3) ++ (txFr c 10 ++ (txSv c 0 ++ txSv c 1)))))
theorem cT_9e : cT 9 = [] := rfl
section TXR
variable {κ : Cx} {δ : Dx} {own : String} {b : ByteArray} {nL : Nat} {ret : Option FieldType} {ρ0 : Nat → Nat} {n0 cb sb pc fr lo mc ms L : Nat} {xs : Nat → Int32} {l : AL} {st : List AV} {S : ASt} {G : GH} {Qr : Option AV → ASt → GH → Prop} {Qx : String → ASt → GH → Prop}
theorem n_irem (X : CX κ δ own b nL ret) {x : Nat} (m : Nat) (hx : x < 2147483648) (hm : 0 < m ∧ m ≤ 2147483647) (hd : decode b pc = .ok (.irem, 1)) (k : AW κ δ ρ0 n0 nL cb sb (pc + 1) l (vi ((x % m : Nat) : Int) :: st) S G) : AW κ δ ρ0 n0 nL cb sb pc l (vi (m : Int) :: vi (x : Int) :: st) S G := by
  refine a_irem X hd ⟨by omega, by omega⟩ ⟨by omega, by omega⟩ ?_
  rw [← Int.natCast_emod]; exact k
theorem n_idiv (X : CX κ δ own b nL ret) {x : Nat} (m : Nat) (hx : x < 2147483648) (hm : 0 < m ∧ m ≤ 2147483647) (hd : decode b pc = .ok (.idiv, 1)) (k : AW κ δ ρ0 n0 nL cb sb (pc + 1) l (vi ((x / m : Nat) : Int) :: st) S G) : AW κ δ ρ0 n0 nL cb sb pc l (vi (m : Int) :: vi (x : Int) :: st) S G := by
  refine a_idiv X hd ⟨by omega, by omega⟩ ⟨by omega, by omega⟩ ?_
  rw [← Int.natCast_ediv]; exact k
theorem n_iadd (X : CX κ δ own b nL ret) (x m : Nat) (hd : decode b pc = .ok (.iadd, 1)) (k : AW κ δ ρ0 n0 nL cb sb (pc + 1) l (vi ((x + m : Nat) : Int) :: st) S G) : AW κ δ ρ0 n0 nL cb sb pc l (vi (m : Int) :: vi (x : Int) :: st) S G := by
  refine a_iadd X hd ?_
  rw [← Int.natCast_add]; exact k
theorem n_imul (X : CX κ δ own b nL ret) (x m : Nat) (hd : decode b pc = .ok (.imul, 1)) (k : AW κ δ ρ0 n0 nL cb sb (pc + 1) l (vi ((x * m : Nat) : Int) :: st) S G) : AW κ δ ρ0 n0 nL cb sb pc l (vi (m : Int) :: vi (x : Int) :: st) S G := by
  refine a_imul X hd ?_
  rw [← Int.natCast_mul]; exact k
/-- the law's cell -/
theorem tw_cell (X : CX κ δ RL b nL ret) (E : EndR κ δ ρ0 n0 fr lo mc ms Qr Qx) (hsc : dSL δ = L ∧ dSx δ = xs) (i : Nat) (hi : i < 1000) (hr : 2 ≤ fr ∧ 40 ≤ lo) (hw : wsum st ≤ 8) (hm : cb ≤ mc ∧ sb ≤ ms) (hd : decode b pc = .ok (.invokestatic 40, 3)) (k : AW κ δ ρ0 n0 nL cb sb (pc + 3) l (vi ((cN L xs i : Nat) : Int) :: st) S G) : AW κ δ ρ0 n0 nL cb sb pc l (vi (i : Int) :: vr (strB + 60) :: st) S G := by
  refine a_callSL X E hsc (m_L_cellS (Q := fun r => r = cellV L xs (i : Int)) ⟨by omega, by omega⟩ ⟨by omega, rfl⟩) wM_L_40 w_static_L_cell w_initialized_RL w_code_L_cell cpL_cell pnL_cell rfl hw ⟨hr.1, by omega⟩ hm hd (fun _ _ q => False.elim q) (kIp (fun r hr h => ?_))
  subst h
  rw [cN_eq]
  exact k
theorem tw_hymn (X : CX κ δ RL b nL ret) (E : EndR κ δ ρ0 n0 fr lo mc ms Qr Qx) (hsc : dSL δ = L ∧ dSx δ = xs) (v : Nat) (hv : v < 100000) (hr : 1 ≤ fr ∧ 40 ≤ lo) (hw : wsum st ≤ 8) (hm : cb ≤ mc ∧ sb ≤ ms) (hd : decode b pc = .ok (.invokestatic 69, 3)) (k : AW κ δ ρ0 n0 nL cb sb (pc + 3) l (vi ((hyN v : Nat) : Int) :: st) S G) : AW κ δ ρ0 n0 nL cb sb pc l (vi (v : Int) :: st) S G := by
  refine a_callSL X E hsc (m_L_hymnS (L := L) (xs := xs) (Q := fun r => r = ((hyN v : Nat) : Int)) ⟨by omega, by omega⟩ (hyN_f (by omega))) wM_L_69 w_static_L_hymn w_initialized_RL w_code_L_hymn cpL_hymn pnL_hymn rfl hw ⟨hr.1, by omega⟩ hm hd (fun _ _ q => False.elim q) (kIp (fun r hr h => ?_))
  subst h
  exact k
variable {k q : Nat} {t : List Int}
theorem tw_str (X : CX κ δ RL b nL ret) (hR : RmG κ fr lo mc ms) (w n9 : Nat) (hw9 : w < 15) (hn9 : strL.getD w 0 = n9) (hk : k ≤ 4) (B : BTx k G t) (ht : t.length ≤ q) (hq : q ≤ 372) (hn0 : n0 ≤ 272) (hl9 : rltB 273 l = true) (hst : rltB 273 (st.map some) = true) (hr : 6 ≤ fr ∧ 140 ≤ lo) (hw : wsum st ≤ 8) (hm : cb + 1 ≤ mc ∧ sb + 382 ≤ ms) (hd : decode b pc = .ok (.invokevirtual 56, 3))
    (kk : ∀ k' G', k' ≤ 4 → BTx k' G' (t ++ cT w) → (t ++ cT w).length ≤ q + n9 → LowH G' G → AW κ δ ρ0 n0 nL (cb + 1) (sb + 382) (pc + 3) l (vr 272 :: st) (SB k') G') : AW κ δ ρ0 n0 nL cb sb pc l (vr (strB + w) :: vr 272 :: st) (SB k) G := by
  refine g_callV X hR (sb_apS4 hk hw9 B (by omega)) (by show n0 ≤ 273 + (k + 1); omega) (rltB_mono (show 273 ≤ (SB k).1 from Nat.le_add_right _ _) hl9) (rltB_mono (show 273 ≤ (SB k).1 from Nat.le_add_right _ _) hst) ApQ_ge okJ4 (sb_is k) wM_L_56 w_instanceMethod_J4_append_15ec4 w_selects_J4_append_15ec4 w_initialized_RJ4 w_code_J4_append_15ec4 cpB_apS4 pnB_apS4 rfl hw ⟨hr.1, by omega⟩ hm hd (fun v S' G' q9 hG' => ?_)
  obtain ⟨rfl, k1, hk1, hk14, rfl, B1, hL1⟩ := q9
  exact kk k1 G' hk14 B1 (by rw [List.length_append, cT_len w hw9, hn9]; omega) hL1
theorem tw_chr (X : CX κ δ RL b nL ret) (hR : RmG κ fr lo mc ms) (hk : k ≤ 4) (B : BTx k G t) (ht : t.length ≤ q) (hq : q ≤ 372) (hn0 : n0 ≤ 272) (hl9 : rltB 273 l = true) (hst : rltB 273 (st.map some) = true) (hr : 6 ≤ fr ∧ 140 ≤ lo) (hw : wsum st ≤ 8) (hm : cb + 1 ≤ mc ∧ sb + 382 ≤ ms) (hd : decode b pc = .ok (.invokevirtual 49, 3))
    (kk : ∀ k' G', k' ≤ 4 → BTx k' G' (t ++ [32]) → (t ++ [32]).length ≤ q + 1 → LowH G' G → AW κ δ ρ0 n0 nL (cb + 1) (sb + 382) (pc + 3) l (vr 272 :: st) (SB k') G') : AW κ δ ρ0 n0 nL cb sb pc l (vi 32 :: vr 272 :: st) (SB k) G := by
  refine g_callV X hR (sb_apC4 hk (by decide) B (by omega)) (by show n0 ≤ 273 + (k + 1); omega) (rltB_mono (show 273 ≤ (SB k).1 from Nat.le_add_right _ _) hl9) (rltB_mono (show 273 ≤ (SB k).1 from Nat.le_add_right _ _) hst) ApQ_ge okJ4 (sb_is k) wM_L_49 w_instanceMethod_J4_append_cf468 w_selects_J4_append_cf468 w_initialized_RJ4 w_code_J4_append_cf468 cpB_apC4 pnB_apC4 rfl hw ⟨hr.1, by omega⟩ hm hd (fun v S' G' q9 hG' => ?_)
  obtain ⟨rfl, k1, hk1, hk14, rfl, B1, hL1⟩ := q9
  exact kk k1 G' hk14 B1 (by rw [List.length_append]; show _ + 1 ≤ _; omega) hL1
theorem tw_int (X : CX κ δ RL b nL ret) (hR : RmG κ fr lo mc ms) (n : Nat) (hn : n < 1000) (hk : k ≤ 4) (B : BTx k G t) (ht : t.length ≤ q) (hq : q ≤ 372) (hn0 : n0 ≤ 272) (hl9 : rltB 273 l = true) (hst : rltB 273 (st.map some) = true) (hr : 6 ≤ fr ∧ 140 ≤ lo) (hw : wsum st ≤ 8) (hm : cb + 1 ≤ mc ∧ sb + 382 ≤ ms) (hd : decode b pc = .ok (.invokevirtual 46, 3))
    (kk : ∀ k' G', k' ≤ 4 → BTx k' G' (t ++ dgs n) → (t ++ dgs n).length ≤ q + 3 → LowH G' G → AW κ δ ρ0 n0 nL (cb + 1) (sb + 382) (pc + 3) l (vr 272 :: st) (SB k') G') : AW κ δ ρ0 n0 nL cb sb pc l (vi (n : Int) :: vr 272 :: st) (SB k) G := by
  refine g_callV X hR (sb_apI4 hk hn B (by omega)) (by show n0 ≤ 273 + (k + 1); omega) (rltB_mono (show 273 ≤ (SB k).1 from Nat.le_add_right _ _) hl9) (rltB_mono (show 273 ≤ (SB k).1 from Nat.le_add_right _ _) hst) ApQ_ge okJ4 (sb_is k) wM_L_46 w_instanceMethod_J4_append_bf812 w_selects_J4_append_bf812 w_initialized_RJ4 w_code_J4_append_bf812 cpB_apI4 pnB_apI4 rfl hw ⟨hr.1, by omega⟩ hm hd (fun v S' G' q9 hG' => ?_)
  obtain ⟨rfl, k1, hk1, hk14, rfl, B1, hL1⟩ := q9
  exact kk k1 G' hk14 B1 (by rw [List.length_append]; have := (dgs_len n).2; omega) hL1
end TXR
/-- from here the text goes on, whatever rows hold it -/
def TW (κ : Cx) (δ : Dx) (ρ0 : Nat → Nat) (G0 : GH) (j pc q : Nat) (x2 x3 : Option AV) (st : List AV) (t : List Int) : Prop := ∀ k G, k ≤ 4 → BTx k G t → t.length ≤ q → LowH G G0 → AW κ δ ρ0 272 4 (4 + j) (1000 + 382 * j) pc [some (vr (strB + 60)), some (vr 272), x2, x3] st (SB k) G
set_option maxHeartbeats 1000000 in
set_option maxRecDepth 100000 in
theorem tx_a {κ : Cx} {δ : Dx} {ρ0 : Nat → Nat} {L : Nat} {xs : Nat → Int32} {G0 : GH} {Qr : Option AV → ASt → GH → Prop} {Qx : String → ASt → GH → Prop} (X : CX κ δ RL cL_text 4 (some (.object "java/lang/String"))) (E : EndR κ δ ρ0 272 12 240 110 45000 Qr Qx) (hsc : dSL δ = L ∧ dSx δ = xs) (hL9 : L = L) {j q : Nat} {t : List Int} (hj : j ≤ 90) (hq : q ≤ 340) (h1 : cN L xs 1 % 3 = 0 → TW κ δ ρ0 G0 (j + 2) 51 (q + 4) none none [] t) (h2 : cN L xs 1 % 3 ≠ 0 → TW κ δ ρ0 G0 (j + 2) 51 (q + 4) none none [] (t ++ [32] ++ dgs (1 + cN L xs 2 % 3))) : TW κ δ ρ0 G0 j 22 q none none [] t := by
  intro k G hk B ht hL
  have hc1 := cN_lt (L := L) (xs := xs) (i := 1)
  have hc2 := cN_lt (L := L) (xs := xs) (i := 2)
  refine a_aload_n (pc := 22) X dL_text_22 rfl rfl ?_
  refine a_iconst (pc := 23) X dL_text_23 ?_
  refine tw_cell (pc := 24) X E hsc (1) (by omega) ⟨Nat.le_of_ble_eq_true rfl, Nat.le_of_ble_eq_true rfl⟩ (Nat.le_of_ble_eq_true rfl) ⟨by omega, by omega⟩ dL_text_24 ?_
  refine a_iconst (pc := 27) X dL_text_27 ?_
  refine n_irem (pc := 28) X 3 (by omega) (by decide) dL_text_28 ?_
  by_cases hc : cN L xs 1 % 3 = 0
  · refine a_if_le (pc := 29) (tgt := 51) X dL_text_29 rfl ⟨by omega, by omega⟩ (fun _ => ?_) (fun c9 => absurd c9 (by omega))
    exact AW.widen (by omega) (by omega) (h1 hc k G hk B (by omega) hL)
  refine a_if_le (pc := 29) (tgt := 51) X dL_text_29 rfl ⟨by omega, by omega⟩ (fun c9 => absurd c9 (by omega)) (fun _ => ?_)
  refine a_aload_n (pc := 32) X dL_text_32 rfl rfl ?_
  refine a_bipush (pc := 33) X dL_text_33 rfl ?_
  refine tw_chr (pc := 35) X E.rm hk B ht (by omega) (Nat.le_refl _) rfl rfl ⟨Nat.le_of_ble_eq_true rfl, Nat.le_of_ble_eq_true rfl⟩ (Nat.le_of_ble_eq_true rfl) ⟨by omega, by omega⟩ dL_text_35 (fun k9 G9 hk9 B9 ht9 hL9 => ?_)
  have hLz := hL9.tr hL
  clear hk B ht hL hL9
  have hk := hk9
  have B := B9
  have ht := ht9
  have hL := hLz
  clear hk9 B9 ht9 hLz
  refine a_iconst (pc := 38) X dL_text_38 ?_
  refine a_aload_n (pc := 39) X dL_text_39 rfl rfl ?_
  refine a_iconst (pc := 40) X dL_text_40 ?_
  refine tw_cell (pc := 41) X E hsc (2) (by omega) ⟨Nat.le_of_ble_eq_true rfl, Nat.le_of_ble_eq_true rfl⟩ (Nat.le_of_ble_eq_true rfl) ⟨by omega, by omega⟩ dL_text_41 ?_
  refine a_iconst (pc := 44) X dL_text_44 ?_
  refine n_irem (pc := 45) X 3 (by omega) (by decide) dL_text_45 ?_
  refine n_iadd (pc := 46) X (1) (cN L xs 2 % 3) dL_text_46 ?_
  refine tw_int (pc := 47) X E.rm (1 + cN L xs 2 % 3) (by omega) hk B ht (by omega) (Nat.le_refl _) rfl rfl ⟨Nat.le_of_ble_eq_true rfl, Nat.le_of_ble_eq_true rfl⟩ (Nat.le_of_ble_eq_true rfl) ⟨by omega, by omega⟩ dL_text_47 (fun k9 G9 hk9 B9 ht9 hL9 => ?_)
  have hLz := hL9.tr hL
  clear hk B ht hL hL9
  have hk := hk9
  have B := B9
  have ht := ht9
  have hL := hLz
  clear hk9 B9 ht9 hLz
  refine a_pop (pc := 50) X dL_text_50 rfl ?_
  exact AW.widen (by omega) (by omega) (h2 hc k9 G9 hk B (by omega) hL)
set_option maxHeartbeats 1000000 in
set_option maxRecDepth 100000 in
theorem tx_b {κ : Cx} {δ : Dx} {ρ0 : Nat → Nat} {L : Nat} {xs : Nat → Int32} {G0 : GH} {Qr : Option AV → ASt → GH → Prop} {Qx : String → ASt → GH → Prop} (X : CX κ δ RL cL_text 4 (some (.object "java/lang/String"))) (E : EndR κ δ ρ0 272 12 240 110 45000 Qr Qx) (hsc : dSL δ = L ∧ dSx δ = xs) {j q : Nat} {t : List Int} (hj : j ≤ 90) (hq : q ≤ 340) (h1 : cN L xs 3 % 2 = 0 → TW κ δ ρ0 G0 (j + 1) 72 (q + 6) none none [vr 272] (t ++ cT 8)) (h2 : cN L xs 3 % 2 ≠ 0 → TW κ δ ρ0 G0 (j + 1) 72 (q + 6) none none [vr 272] t) : TW κ δ ρ0 G0 j 51 q none none [] t := by
  intro k G hk B ht hL
  have hc1 := cN_lt (L := L) (xs := xs) (i := 3)
  refine a_aload_n (pc := 51) X dL_text_51 rfl rfl ?_
  refine a_aload_n (pc := 52) X dL_text_52 rfl rfl ?_
  refine a_iconst (pc := 53) X dL_text_53 ?_
  refine tw_cell (pc := 54) X E hsc (3) (by omega) ⟨Nat.le_of_ble_eq_true rfl, Nat.le_of_ble_eq_true rfl⟩ (Nat.le_of_ble_eq_true rfl) ⟨by omega, by omega⟩ dL_text_54 ?_
  refine a_iconst (pc := 57) X dL_text_57 ?_
  refine n_irem (pc := 58) X 2 (by omega) (by decide) dL_text_58 ?_
  by_cases hc : cN L xs 3 % 2 = 0
  · refine a_if_ne (pc := 59) (tgt := 67) X dL_text_59 rfl ⟨by omega, by omega⟩ (fun c9 => absurd c9 (by omega)) (fun _ => ?_)
    refine b_ldcs (pc := 62) (i := 8) (text := " turn") X (by decide) dL_text_62 ?_
    refine a_goto (pc := 64) (tgt := 69) X dL_text_64 rfl ?_
    refine tw_str (pc := 69) X E.rm 8 5 (by decide) rfl hk B ht (by omega) (Nat.le_refl _) rfl rfl ⟨Nat.le_of_ble_eq_true rfl, Nat.le_of_ble_eq_true rfl⟩ (Nat.le_of_ble_eq_true rfl) ⟨by omega, by omega⟩ dL_text_69 (fun k9 G9 hk9 B9 ht9 hL9 => ?_)
    have hLz := hL9.tr hL
    clear hk B ht hL hL9
    have hk := hk9
    have B := B9
    have ht := ht9
    have hL := hLz
    clear hk9 B9 ht9 hLz
    exact AW.widen (by omega) (by omega) (h1 hc k9 G9 hk B (by omega) hL)
  refine a_if_ne (pc := 59) (tgt := 67) X dL_text_59 rfl ⟨by omega, by omega⟩ (fun _ => ?_) (fun c9 => absurd (c9) (by omega))
  refine b_ldcs (pc := 67) (i := 9) (text := "") X (by decide) dL_text_67 ?_
  refine tw_str (pc := 69) X E.rm 9 0 (by decide) rfl hk B ht (by omega) (Nat.le_refl _) rfl rfl ⟨Nat.le_of_ble_eq_true rfl, Nat.le_of_ble_eq_true rfl⟩ (Nat.le_of_ble_eq_true rfl) ⟨by omega, by omega⟩ dL_text_69 (fun k9 G9 hk9 B9 ht9 hL9 => ?_)
  have hLz := hL9.tr hL
  clear hk B ht hL hL9
  have hk := hk9
  have B := B9
  have ht := ht9
  have hL := hLz
  clear hk9 B9 ht9 hLz
  rw [cT_9e, List.append_nil] at B ht
  exact AW.widen (by omega) (by omega) (h2 hc k9 G9 hk B (by omega) hL)
set_option maxHeartbeats 1000000 in
set_option maxRecDepth 100000 in
theorem tx_c {κ : Cx} {δ : Dx} {ρ0 : Nat → Nat} {L : Nat} {xs : Nat → Int32} {G0 : GH} {Qr : Option AV → ASt → GH → Prop} {Qx : String → ASt → GH → Prop} (X : CX κ δ RL cL_text 4 (some (.object "java/lang/String"))) (E : EndR κ δ ρ0 272 12 240 110 45000 Qr Qx) (hsc : dSL δ = L ∧ dSx δ = xs) {j q : Nat} {t : List Int} (hj : j ≤ 90) (hq : q ≤ 340) (h1 : cN L xs 4 % 2 = 0 → TW κ δ ρ0 G0 (j + 1) 92 (q + 6) none none [vr 272] (t ++ cT 10)) (h2 : cN L xs 4 % 2 ≠ 0 → TW κ δ ρ0 G0 (j + 1) 92 (q + 6) none none [vr 272] t) : TW κ δ ρ0 G0 j 72 q none none [vr 272] t := by
  intro k G hk B ht hL
  have hc1 := cN_lt (L := L) (xs := xs) (i := 4)
  refine a_aload_n (pc := 72) X dL_text_72 rfl rfl ?_
  refine a_iconst (pc := 73) X dL_text_73 ?_
  refine tw_cell (pc := 74) X E hsc (4) (by omega) ⟨Nat.le_of_ble_eq_true rfl, Nat.le_of_ble_eq_true rfl⟩ (Nat.le_of_ble_eq_true rfl) ⟨by omega, by omega⟩ dL_text_74 ?_
  refine a_iconst (pc := 77) X dL_text_77 ?_
  refine n_irem (pc := 78) X 2 (by omega) (by decide) dL_text_78 ?_
  by_cases hc : cN L xs 4 % 2 = 0
  · refine a_if_ne (pc := 79) (tgt := 87) X dL_text_79 rfl ⟨by omega, by omega⟩ (fun c9 => absurd c9 (by omega)) (fun _ => ?_)
    refine b_ldcs (pc := 82) (i := 10) (text := " split") X (by decide) dL_text_82 ?_
    refine a_goto (pc := 84) (tgt := 89) X dL_text_84 rfl ?_
    refine tw_str (pc := 89) X E.rm 10 6 (by decide) rfl hk B ht (by omega) (Nat.le_refl _) rfl rfl ⟨Nat.le_of_ble_eq_true rfl, Nat.le_of_ble_eq_true rfl⟩ (Nat.le_of_ble_eq_true rfl) ⟨by omega, by omega⟩ dL_text_89 (fun k9 G9 hk9 B9 ht9 hL9 => ?_)
    have hLz := hL9.tr hL
    clear hk B ht hL hL9
    have hk := hk9
    have B := B9
    have ht := ht9
    have hL := hLz
    clear hk9 B9 ht9 hLz
    exact AW.widen (by omega) (by omega) (h1 hc k9 G9 hk B (by omega) hL)
  refine a_if_ne (pc := 79) (tgt := 87) X dL_text_79 rfl ⟨by omega, by omega⟩ (fun _ => ?_) (fun c9 => absurd (c9) (by omega))
  refine b_ldcs (pc := 87) (i := 9) (text := "") X (by decide) dL_text_87 ?_
  refine tw_str (pc := 89) X E.rm 9 0 (by decide) rfl hk B ht (by omega) (Nat.le_refl _) rfl rfl ⟨Nat.le_of_ble_eq_true rfl, Nat.le_of_ble_eq_true rfl⟩ (Nat.le_of_ble_eq_true rfl) ⟨by omega, by omega⟩ dL_text_89 (fun k9 G9 hk9 B9 ht9 hL9 => ?_)
  have hLz := hL9.tr hL
  clear hk B ht hL hL9
  have hk := hk9
  have B := B9
  have ht := ht9
  have hL := hLz
  clear hk9 B9 ht9 hLz
  rw [cT_9e, List.append_nil] at B ht
  exact AW.widen (by omega) (by omega) (h2 hc k9 G9 hk B (by omega) hL)
set_option maxHeartbeats 1000000 in
set_option maxRecDepth 100000 in
theorem tx_d {κ : Cx} {δ : Dx} {ρ0 : Nat → Nat} {L : Nat} {xs : Nat → Int32} {G0 : GH} {Qr : Option AV → ASt → GH → Prop} {Qx : String → ASt → GH → Prop} (X : CX κ δ RL cL_text 4 (some (.object "java/lang/String"))) (E : EndR κ δ ρ0 272 12 240 110 45000 Qr Qx) (hsc : dSL δ = L ∧ dSx δ = xs) {j q i v : Nat} {t : List Int} (hj : j ≤ 90) (hq : q ≤ 340) (hv : v < 100000) (hi : i < 100) (h : TW κ δ ρ0 G0 (j + 2) 95 (q + 4) (some (vi ((i + 1 : Nat) : Int))) (some (vi (v : Int))) [] (t ++ [32] ++ dgs (v / 11 % 6))) : TW κ δ ρ0 G0 j 179 q (some (vi (i : Int))) (some (vi (v : Int))) [] t := by
  intro k G hk B ht hL
  refine a_aload_n (pc := 179) X dL_text_179 rfl rfl ?_
  refine a_bipush (pc := 180) X dL_text_180 rfl ?_
  refine tw_chr (pc := 182) X E.rm hk B ht (by omega) (Nat.le_refl _) rfl rfl ⟨Nat.le_of_ble_eq_true rfl, Nat.le_of_ble_eq_true rfl⟩ (Nat.le_of_ble_eq_true rfl) ⟨by omega, by omega⟩ dL_text_182 (fun k9 G9 hk9 B9 ht9 hL9 => ?_)
  have hLz := hL9.tr hL
  clear hk B ht hL hL9
  have hk := hk9
  have B := B9
  have ht := ht9
  have hL := hLz
  clear hk9 B9 ht9 hLz
  refine a_iload_n (pc := 185) X dL_text_185 rfl rfl ?_
  refine a_bipush (pc := 186) X dL_text_186 rfl ?_
  refine n_idiv (pc := 188) X 11 (by omega) (by decide) dL_text_188 ?_
  refine a_bipush (pc := 189) X dL_text_189 rfl ?_
  refine n_irem (pc := 191) X 6 (by omega) (by decide) dL_text_191 ?_
  refine tw_int (pc := 192) X E.rm (v / 11 % 6) (by omega) hk B ht (by omega) (Nat.le_refl _) rfl rfl ⟨Nat.le_of_ble_eq_true rfl, Nat.le_of_ble_eq_true rfl⟩ (Nat.le_of_ble_eq_true rfl) ⟨by omega, by omega⟩ dL_text_192 (fun k9 G9 hk9 B9 ht9 hL9 => ?_)
  have hLz := hL9.tr hL
  clear hk B ht hL hL9
  have hk := hk9
  have B := B9
  have ht := ht9
  have hL := hLz
  clear hk9 B9 ht9 hLz
  refine a_pop (pc := 195) X dL_text_195 rfl ?_
  refine a_iinc (pc := 196) X dL_text_196 rfl (Nat.le_of_ble_eq_true rfl) rfl rfl ?_
  refine a_goto (pc := 199) (tgt := 95) X dL_text_199 rfl ?_
  exact AW.widen (by omega) (by omega) (h k9 G9 hk B (by omega) hL)
set_option maxHeartbeats 1000000 in
set_option maxRecDepth 100000 in
theorem tx_e {κ : Cx} {δ : Dx} {ρ0 : Nat → Nat} {L : Nat} {xs : Nat → Int32} {G0 : GH} {Qr : Option AV → ASt → GH → Prop} {Qx : String → ASt → GH → Prop} (X : CX κ δ RL cL_text 4 (some (.object "java/lang/String"))) (E : EndR κ δ ρ0 272 12 240 110 45000 Qr Qx) (hsc : dSL δ = L ∧ dSx δ = xs) {j q i v : Nat} {t : List Int} (hj : j ≤ 90) (hq : q ≤ 340) (hv : v < 100000) (h1 : v % 3 = 0 → TW κ δ ρ0 G0 (j + 2) 179 (q + 9) (some (vi (i : Int))) (some (vi (v : Int))) [] (t ++ cT 12 ++ dgs (if v % 5 = 0 then 9 else v / 7 % 10))) (h2 : v % 3 ≠ 0 → TW κ δ ρ0 G0 (j + 2) 179 (q + 9) (some (vi (i : Int))) (some (vi (v : Int))) [] t) : TW κ δ ρ0 G0 j 145 q (some (vi (i : Int))) (some (vi (v : Int))) [] t := by
  intro k G hk B ht hL
  refine a_iload_n (pc := 145) X dL_text_145 rfl rfl ?_
  refine a_iconst (pc := 146) X dL_text_146 ?_
  refine n_irem (pc := 147) X 3 (by omega) (by decide) dL_text_147 ?_
  by_cases hc : v % 3 = 0
  · refine a_if_ne (pc := 148) (tgt := 179) X dL_text_148 rfl ⟨by omega, by omega⟩ (fun c9 => absurd c9 (by omega)) (fun _ => ?_)
    refine a_aload_n (pc := 151) X dL_text_151 rfl rfl ?_
    refine b_ldcs (pc := 152) (i := 12) (text := " back ") X (by decide) dL_text_152 ?_
    refine tw_str (pc := 154) X E.rm 12 6 (by decide) rfl hk B ht (by omega) (Nat.le_refl _) rfl rfl ⟨Nat.le_of_ble_eq_true rfl, Nat.le_of_ble_eq_true rfl⟩ (Nat.le_of_ble_eq_true rfl) ⟨by omega, by omega⟩ dL_text_154 (fun k9 G9 hk9 B9 ht9 hL9 => ?_)
    have hLz := hL9.tr hL
    clear hk B ht hL hL9
    have hk := hk9
    have B := B9
    have ht := ht9
    have hL := hLz
    clear hk9 B9 ht9 hLz
    refine a_iload_n (pc := 157) X dL_text_157 rfl rfl ?_
    refine a_iconst (pc := 158) X dL_text_158 ?_
    refine n_irem (pc := 159) X 5 (by omega) (by decide) dL_text_159 ?_
    by_cases hc5 : v % 5 = 0
    · refine a_if_ne (pc := 160) (tgt := 168) X dL_text_160 rfl ⟨by omega, by omega⟩ (fun c9 => absurd c9 (by omega)) (fun _ => ?_)
      refine a_bipush (pc := 163) X dL_text_163 rfl ?_
      refine a_goto (pc := 165) (tgt := 175) X dL_text_165 rfl ?_
      refine tw_int (pc := 175) X E.rm (9) (by omega) hk B ht (by omega) (Nat.le_refl _) rfl rfl ⟨Nat.le_of_ble_eq_true rfl, Nat.le_of_ble_eq_true rfl⟩ (Nat.le_of_ble_eq_true rfl) ⟨by omega, by omega⟩ dL_text_175 (fun k9 G9 hk9 B9 ht9 hL9 => ?_)
      have hLz := hL9.tr hL
      clear hk B ht hL hL9
      have hk := hk9
      have B := B9
      have ht := ht9
      have hL := hLz
      clear hk9 B9 ht9 hLz
      refine a_pop (pc := 178) X dL_text_178 rfl ?_
      have h9 := h1 hc k9 G9 hk (by rw [if_pos hc5]; exact B) (by rw [if_pos hc5]; omega) hL
      exact AW.widen (by omega) (by omega) h9
    refine a_if_ne (pc := 160) (tgt := 168) X dL_text_160 rfl ⟨by omega, by omega⟩ (fun _ => ?_) (fun c9 => absurd c9 (by omega))
    refine a_iload_n (pc := 168) X dL_text_168 rfl rfl ?_
    refine a_bipush (pc := 169) X dL_text_169 rfl ?_
    refine n_idiv (pc := 171) X 7 (by omega) (by decide) dL_text_171 ?_
    refine a_bipush (pc := 172) X dL_text_172 rfl ?_
    refine n_irem (pc := 174) X 10 (by omega) (by decide) dL_text_174 ?_
    refine tw_int (pc := 175) X E.rm (v / 7 % 10) (by omega) hk B ht (by omega) (Nat.le_refl _) rfl rfl ⟨Nat.le_of_ble_eq_true rfl, Nat.le_of_ble_eq_true rfl⟩ (Nat.le_of_ble_eq_true rfl) ⟨by omega, by omega⟩ dL_text_175 (fun k9 G9 hk9 B9 ht9 hL9 => ?_)
    have hLz := hL9.tr hL
    clear hk B ht hL hL9
    have hk := hk9
    have B := B9
    have ht := ht9
    have hL := hLz
    clear hk9 B9 ht9 hLz
    refine a_pop (pc := 178) X dL_text_178 rfl ?_
    have h9 := h1 hc k9 G9 hk (by rw [if_neg hc5]; exact B) (by rw [if_neg hc5]; omega) hL
    exact AW.widen (by omega) (by omega) h9
  refine a_if_ne (pc := 148) (tgt := 179) X dL_text_148 rfl ⟨by omega, by omega⟩ (fun _ => ?_) (fun c9 => absurd c9 (by omega))
  exact AW.widen (by omega) (by omega) (h2 hc k G hk B (by omega) hL)
set_option maxHeartbeats 1000000 in
set_option maxRecDepth 100000 in
theorem tx_f {κ : Cx} {δ : Dx} {ρ0 : Nat → Nat} {L : Nat} {xs : Nat → Int32} {G0 : GH} {Qr : Option AV → ASt → GH → Prop} {Qx : String → ASt → GH → Prop} (X : CX κ δ RL cL_text 4 (some (.object "java/lang/String"))) (E : EndR κ δ ρ0 272 12 240 110 45000 Qr Qx) (hsc : dSL δ = L ∧ dSx δ = xs) {j q i : Nat} {x3 : Option AV} {t : List Int} (hj : j ≤ 90) (hq : q ≤ 340) (hi : i < 100) (h : TW κ δ ρ0 G0 (j + 2) 145 (q + 9) (some (vi (i : Int))) (some (vi ((cN L xs (6 + i) : Nat) : Int))) [] (t ++ cT 11 ++ dgs (if cN L xs (6 + i) % 4 = 0 then 6 else cN L xs (6 + i) / 4 % 10))) : TW κ δ ρ0 G0 j 109 q (some (vi (i : Int))) x3 [] t := by
  intro k G hk B ht hL
  have hv := cN_lt (L := L) (xs := xs) (i := 6 + i)
  refine a_aload_n (pc := 109) X dL_text_109 rfl rfl ?_
  refine a_bipush (pc := 110) X dL_text_110 rfl ?_
  refine a_iload_n (pc := 112) X dL_text_112 rfl rfl ?_
  refine n_iadd (pc := 113) X (6) (i) dL_text_113 ?_
  refine tw_cell (pc := 114) X E hsc (6 + i) (by omega) ⟨Nat.le_of_ble_eq_true rfl, Nat.le_of_ble_eq_true rfl⟩ (Nat.le_of_ble_eq_true rfl) ⟨by omega, by omega⟩ dL_text_114 ?_
  generalize cN L xs (6 + i) = v at hv h ⊢
  refine a_istore_n (pc := 117) (i := 3) X dL_text_117 rfl (Nat.le_of_ble_eq_true rfl) rfl rfl ?_
  refine a_aload_n (pc := 118) X dL_text_118 rfl rfl ?_
  refine b_ldcs (pc := 119) (i := 11) (text := ";card ") X (by decide) dL_text_119 ?_
  refine tw_str (pc := 121) X E.rm 11 6 (by decide) rfl hk B ht (by omega) (Nat.le_refl _) rfl rfl ⟨Nat.le_of_ble_eq_true rfl, Nat.le_of_ble_eq_true rfl⟩ (Nat.le_of_ble_eq_true rfl) ⟨by omega, by omega⟩ dL_text_121 (fun k9 G9 hk9 B9 ht9 hL9 => ?_)
  have hLz := hL9.tr hL
  clear hk B ht hL hL9
  have hk := hk9
  have B := B9
  have ht := ht9
  have hL := hLz
  clear hk9 B9 ht9 hLz
  refine a_iload_n (pc := 124) X dL_text_124 rfl rfl ?_
  refine a_iconst (pc := 125) X dL_text_125 ?_
  refine n_irem (pc := 126) X 4 (by omega) (by decide) dL_text_126 ?_
  by_cases hc : v % 4 = 0
  · refine a_if_ne (pc := 127) (tgt := 135) X dL_text_127 rfl ⟨by omega, by omega⟩ (fun c9 => absurd c9 (by omega)) (fun _ => ?_)
    refine a_bipush (pc := 130) X dL_text_130 rfl ?_
    refine a_goto (pc := 132) (tgt := 141) X dL_text_132 rfl ?_
    refine tw_int (pc := 141) X E.rm (6) (by omega) hk B ht (by omega) (Nat.le_refl _) rfl rfl ⟨Nat.le_of_ble_eq_true rfl, Nat.le_of_ble_eq_true rfl⟩ (Nat.le_of_ble_eq_true rfl) ⟨by omega, by omega⟩ dL_text_141 (fun k9 G9 hk9 B9 ht9 hL9 => ?_)
    have hLz := hL9.tr hL
    clear hk B ht hL hL9
    have hk := hk9
    have B := B9
    have ht := ht9
    have hL := hLz
    clear hk9 B9 ht9 hLz
    refine a_pop (pc := 144) X dL_text_144 rfl ?_
    have h9 := h k9 G9 hk (by rw [if_pos hc]; exact B) (by rw [if_pos hc]; omega) hL
    exact AW.widen (by omega) (by omega) h9
  refine a_if_ne (pc := 127) (tgt := 135) X dL_text_127 rfl ⟨by omega, by omega⟩ (fun _ => ?_) (fun c9 => absurd c9 (by omega))
  refine a_iload_n (pc := 135) X dL_text_135 rfl rfl ?_
  refine a_iconst (pc := 136) X dL_text_136 ?_
  refine n_idiv (pc := 137) X 4 (by omega) (by decide) dL_text_137 ?_
  refine a_bipush (pc := 138) X dL_text_138 rfl ?_
  refine n_irem (pc := 140) X 10 (by omega) (by decide) dL_text_140 ?_
  refine tw_int (pc := 141) X E.rm (v / 4 % 10) (by omega) hk B ht (by omega) (Nat.le_refl _) rfl rfl ⟨Nat.le_of_ble_eq_true rfl, Nat.le_of_ble_eq_true rfl⟩ (Nat.le_of_ble_eq_true rfl) ⟨by omega, by omega⟩ dL_text_141 (fun k9 G9 hk9 B9 ht9 hL9 => ?_)
  have hLz := hL9.tr hL
  clear hk B ht hL hL9
  have hk := hk9
  have B := B9
  have ht := ht9
  have hL := hLz
  clear hk9 B9 ht9 hLz
  refine a_pop (pc := 144) X dL_text_144 rfl ?_
  have h9 := h k9 G9 hk (by rw [if_neg hc]; exact B) (by rw [if_neg hc]; omega) hL
  exact AW.widen (by omega) (by omega) h9
set_option maxHeartbeats 1000000 in
set_option maxRecDepth 100000 in
theorem tx_cards {κ : Cx} {δ : Dx} {ρ0 : Nat → Nat} {L : Nat} {xs : Nat → Int32} {G0 : GH} {Qr : Option AV → ASt → GH → Prop} {Qx : String → ASt → GH → Prop} (X : CX κ δ RL cL_text 4 (some (.object "java/lang/String"))) (E : EndR κ δ ρ0 272 12 240 110 45000 Qr Qx) (hsc : dSL δ = L ∧ dSx δ = xs) {t : List Int} (h : ∀ x3, rltB 273 [x3] = true → TW κ δ ρ0 G0 60 202 190 (some (vi ((1 + cN L xs 5 % 6 : Nat) : Int))) x3 [] (t ++ txCards (cN L xs) (1 + cN L xs 5 % 6))) : ∀ (n i : Nat) (x3 : Option AV), rltB 273 [x3] = true → i + n = 1 + cN L xs 5 % 6 → TW κ δ ρ0 G0 (10 + 6 * i) 95 (30 + 22 * i) (some (vi (i : Int))) x3 [] (t ++ txCards (cN L xs) i) := by
  have hc5 := cN_lt (L := L) (xs := xs) (i := 5)
  intro n
  induction n with
  | zero =>
    intro i x3 hx3 hi
    intro k G hk B ht hL
    refine a_iload_n (pc := 95) X dL_text_95 rfl rfl ?_
    refine a_iconst (pc := 96) X dL_text_96 ?_
    refine a_aload_n (pc := 97) X dL_text_97 rfl rfl ?_
    refine a_iconst (pc := 98) X dL_text_98 ?_
    refine tw_cell (pc := 99) X E hsc (5) (by omega) ⟨Nat.le_of_ble_eq_true rfl, Nat.le_of_ble_eq_true rfl⟩ (Nat.le_of_ble_eq_true rfl) ⟨by omega, by omega⟩ dL_text_99 ?_
    refine a_bipush (pc := 102) X dL_text_102 rfl ?_
    refine n_irem (pc := 104) X 6 (by omega) (by decide) dL_text_104 ?_
    refine n_iadd (pc := 105) X (1) (cN L xs 5 % 6) dL_text_105 ?_
    refine a_icmp_ge (pc := 106) (tgt := 202) X dL_text_106 rfl ⟨by omega, by omega⟩ ⟨by omega, by omega⟩ (fun _ => ?_) (fun c9 => absurd c9 (by omega))
    have e : i = 1 + cN L xs 5 % 6 := by omega
    subst e
    exact AW.widen (by omega) (by omega) (h x3 hx3 k G hk B (by omega) hL)
  | succ n ih =>
    intro i x3 hx3 hi
    intro k G hk B ht hL
    refine a_iload_n (pc := 95) X dL_text_95 rfl rfl ?_
    refine a_iconst (pc := 96) X dL_text_96 ?_
    refine a_aload_n (pc := 97) X dL_text_97 rfl rfl ?_
    refine a_iconst (pc := 98) X dL_text_98 ?_
    refine tw_cell (pc := 99) X E hsc (5) (by omega) ⟨Nat.le_of_ble_eq_true rfl, Nat.le_of_ble_eq_true rfl⟩ (Nat.le_of_ble_eq_true rfl) ⟨by omega, by omega⟩ dL_text_99 ?_
    refine a_bipush (pc := 102) X dL_text_102 rfl ?_
    refine n_irem (pc := 104) X 6 (by omega) (by decide) dL_text_104 ?_
    refine n_iadd (pc := 105) X (1) (cN L xs 5 % 6) dL_text_105 ?_
    refine a_icmp_ge (pc := 106) (tgt := 202) X dL_text_106 rfl ⟨by omega, by omega⟩ ⟨by omega, by omega⟩ (fun c9 => absurd c9 (by omega)) (fun _ => ?_)
    have hv := cN_lt (L := L) (xs := xs) (i := 6 + i)
    have ih1 := ih (i + 1) (some (vi ((cN L xs (6 + i) : Nat) : Int))) rfl (by omega)
    have e9 : txCards (cN L xs) (i + 1) = txCards (cN L xs) i ++ txCard (cN L xs (6 + i)) := rfl
    rw [e9] at ih1
    unfold txCard at ih1
    refine tx_f X E hsc (j := 10 + 6 * i) (q := 30 + 22 * i) (by omega) (by omega) (by omega) ?_ k G hk B ht hL
    refine tx_e X E hsc (by omega) (by omega) hv (fun hc => ?_) (fun hc => ?_)
    · rw [if_pos hc] at ih1
      refine tx_d X E hsc (by omega) (by omega) hv (by omega) ?_
      intro k2 G2 hk2 B2 ht2 hL2
      refine AW.widen (by omega) (by omega) (ih1 k2 G2 hk2 ?_ ?_ hL2)
      · simpa only [List.append_assoc] using B2
      · simp only [List.append_assoc, List.length_append] at ht2 ⊢; omega
    · rw [if_neg hc] at ih1
      refine tx_d X E hsc (by omega) (by omega) hv (by omega) ?_
      intro k2 G2 hk2 B2 ht2 hL2
      refine AW.widen (by omega) (by omega) (ih1 k2 G2 hk2 ?_ ?_ hL2)
      · simpa only [List.append_assoc, List.nil_append] using B2
      · simp only [List.append_assoc, List.nil_append, List.length_append] at ht2 ⊢; omega
set_option maxHeartbeats 1000000 in
set_option maxRecDepth 100000 in
theorem tx_g {κ : Cx} {δ : Dx} {ρ0 : Nat → Nat} {L : Nat} {xs : Nat → Int32} {G0 : GH} {Qr : Option AV → ASt → GH → Prop} {Qx : String → ASt → GH → Prop} (X : CX κ δ RL cL_text 4 (some (.object "java/lang/String"))) (E : EndR κ δ ρ0 272 12 240 110 45000 Qr Qx) (hsc : dSL δ = L ∧ dSx δ = xs) {j q : Nat} {x2 x3 : Option AV} {t : List Int} (hx : rltB 273 [x2, x3] = true) (hj : j ≤ 90) (hq : q ≤ 340) (h : TW κ δ ρ0 G0 (j + 2) 224 (q + 11) (some (vi 0)) x3 [] (t ++ cT 13 ++ dgs (1 + cN L xs 12 % 3))) : TW κ δ ρ0 G0 j 202 q x2 x3 [] t := by
  intro k G hk B ht hL
  have hc1 := cN_lt (L := L) (xs := xs) (i := 12)
  refine a_aload_n (pc := 202) X dL_text_202 rfl rfl ?_
  refine b_ldcs (pc := 203) (i := 13) (text := ";friend ") X (by decide) dL_text_203 ?_
  refine tw_str (pc := 205) X E.rm 13 8 (by decide) rfl hk B ht (by omega) (Nat.le_refl _) hx rfl ⟨Nat.le_of_ble_eq_true rfl, Nat.le_of_ble_eq_true rfl⟩ (Nat.le_of_ble_eq_true rfl) ⟨by omega, by omega⟩ dL_text_205 (fun k9 G9 hk9 B9 ht9 hL9 => ?_)
  have hLz := hL9.tr hL
  clear hk B ht hL hL9
  have hk := hk9
  have B := B9
  have ht := ht9
  have hL := hLz
  clear hk9 B9 ht9 hLz
  refine a_iconst (pc := 208) X dL_text_208 ?_
  refine a_aload_n (pc := 209) X dL_text_209 rfl rfl ?_
  refine a_bipush (pc := 210) X dL_text_210 rfl ?_
  refine tw_cell (pc := 212) X E hsc (12) (by omega) ⟨Nat.le_of_ble_eq_true rfl, Nat.le_of_ble_eq_true rfl⟩ (Nat.le_of_ble_eq_true rfl) ⟨by omega, by omega⟩ dL_text_212 ?_
  refine a_iconst (pc := 215) X dL_text_215 ?_
  refine n_irem (pc := 216) X 3 (by omega) (by decide) dL_text_216 ?_
  refine n_iadd (pc := 217) X (1) (cN L xs 12 % 3) dL_text_217 ?_
  refine tw_int (pc := 218) X E.rm (1 + cN L xs 12 % 3) (by omega) hk B ht (by omega) (Nat.le_refl _) hx rfl ⟨Nat.le_of_ble_eq_true rfl, Nat.le_of_ble_eq_true rfl⟩ (Nat.le_of_ble_eq_true rfl) ⟨by omega, by omega⟩ dL_text_218 (fun k9 G9 hk9 B9 ht9 hL9 => ?_)
  have hLz := hL9.tr hL
  clear hk B ht hL hL9
  have hk := hk9
  have B := B9
  have ht := ht9
  have hL := hLz
  clear hk9 B9 ht9 hLz
  refine a_pop (pc := 221) X dL_text_221 rfl ?_
  refine a_iconst (pc := 222) X dL_text_222 ?_
  refine a_istore_n (pc := 223) (i := 2) X dL_text_223 rfl (Nat.le_of_ble_eq_true rfl) rfl rfl ?_
  exact AW.widen (by omega) (by omega) (h k9 G9 hk B (by omega) hL)
set_option maxHeartbeats 1000000 in
set_option maxRecDepth 100000 in
theorem tx_fr {κ : Cx} {δ : Dx} {ρ0 : Nat → Nat} {L : Nat} {xs : Nat → Int32} {G0 : GH} {Qr : Option AV → ASt → GH → Prop} {Qx : String → ASt → GH → Prop} (X : CX κ δ RL cL_text 4 (some (.object "java/lang/String"))) (E : EndR κ δ ρ0 272 12 240 110 45000 Qr Qx) (hsc : dSL δ = L ∧ dSx δ = xs) {t : List Int} {x3 : Option AV} (hx3 : rltB 273 [x3] = true) (h : TW κ δ ρ0 G0 82 256 241 (some (vi (10 : Int))) x3 [] (t ++ txFr (cN L xs) 10)) : ∀ (n i : Nat), i + n = 10 → TW κ δ ρ0 G0 (62 + 2 * i) 224 (201 + 4 * i) (some (vi (i : Int))) x3 [] (t ++ txFr (cN L xs) i) := by
  intro n
  induction n with
  | zero =>
    intro i hi
    intro k G hk B ht hL
    refine a_iload_n (pc := 224) X dL_text_224 rfl rfl ?_
    refine a_bipush (pc := 225) X dL_text_225 rfl ?_
    refine a_icmp_ge (pc := 227) (tgt := 256) X dL_text_227 rfl ⟨by omega, by omega⟩ (by decide) (fun _ => ?_) (fun c9 => absurd c9 (by omega))
    have e : i = 10 := by omega
    subst e
    exact AW.widen (by omega) (by omega) (h k G hk B (by omega) hL)
  | succ n ih =>
    intro i hi
    intro k G hk B ht hL
    have hv := cN_lt (L := L) (xs := xs) (i := 13 + i)
    refine a_iload_n (pc := 224) X dL_text_224 rfl rfl ?_
    refine a_bipush (pc := 225) X dL_text_225 rfl ?_
    refine a_icmp_ge (pc := 227) (tgt := 256) X dL_text_227 rfl ⟨by omega, by omega⟩ (by decide) (fun c9 => absurd c9 (by omega)) (fun _ => ?_)
    refine a_aload_n (pc := 230) X dL_text_230 rfl rfl ?_
    refine a_bipush (pc := 231) X dL_text_231 rfl ?_
    refine tw_chr (pc := 233) X E.rm hk B ht (by omega) (Nat.le_refl _) hx3 rfl ⟨Nat.le_of_ble_eq_true rfl, Nat.le_of_ble_eq_true rfl⟩ (Nat.le_of_ble_eq_true rfl) ⟨by omega, by omega⟩ dL_text_233 (fun k9 G9 hk9 B9 ht9 hL9 => ?_)
    have hLz := hL9.tr hL
    clear hk B ht hL hL9
    have hk := hk9
    have B := B9
    have ht := ht9
    have hL := hLz
    clear hk9 B9 ht9 hLz
    refine a_aload_n (pc := 236) X dL_text_236 rfl rfl ?_
    refine a_bipush (pc := 237) X dL_text_237 rfl ?_
    refine a_iload_n (pc := 239) X dL_text_239 rfl rfl ?_
    refine n_iadd (pc := 240) X (13) (i) dL_text_240 ?_
    refine tw_cell (pc := 241) X E hsc (13 + i) (by omega) ⟨Nat.le_of_ble_eq_true rfl, Nat.le_of_ble_eq_true rfl⟩ (Nat.le_of_ble_eq_true rfl) ⟨by omega, by omega⟩ dL_text_241 ?_
    refine a_iconst (pc := 244) X dL_text_244 ?_
    refine n_irem (pc := 245) X 4 (by omega) (by decide) dL_text_245 ?_
    refine tw_int (pc := 246) X E.rm (cN L xs (13 + i) % 4) (by omega) hk B ht (by omega) (Nat.le_refl _) hx3 rfl ⟨Nat.le_of_ble_eq_true rfl, Nat.le_of_ble_eq_true rfl⟩ (Nat.le_of_ble_eq_true rfl) ⟨by omega, by omega⟩ dL_text_246 (fun k9 G9 hk9 B9 ht9 hL9 => ?_)
    have hLz := hL9.tr hL
    clear hk B ht hL hL9
    have hk := hk9
    have B := B9
    have ht := ht9
    have hL := hLz
    clear hk9 B9 ht9 hLz
    refine a_pop (pc := 249) X dL_text_249 rfl ?_
    refine a_iinc (pc := 250) X dL_text_250 rfl (Nat.le_of_ble_eq_true rfl) rfl rfl ?_
    refine a_goto (pc := 253) (tgt := 224) X dL_text_253 rfl ?_
    have ih1 := ih (i + 1) (by omega)
    have e9 : txFr (cN L xs) (i + 1) = txFr (cN L xs) i ++ ([32] ++ dgs (cN L xs (13 + i) % 4)) := rfl
    rw [e9] at ih1
    refine AW.widen (by omega) (by omega) (ih1 k9 G9 hk ?_ ?_ hL)
    · simpa only [List.append_assoc] using B
    · simp only [List.append_assoc, List.length_append] at ht ⊢; omega
set_option maxHeartbeats 1000000 in
set_option maxRecDepth 100000 in
theorem tx_hy {κ : Cx} {δ : Dx} {ρ0 : Nat → Nat} {L : Nat} {xs : Nat → Int32} {G0 : GH} {Qr : Option AV → ASt → GH → Prop} {Qx : String → ASt → GH → Prop} (X : CX κ δ RL cL_text 4 (some (.object "java/lang/String"))) (E : EndR κ δ ρ0 272 12 240 110 45000 Qr Qx) (hsc : dSL δ = L ∧ dSx δ = xs) {t : List Int} {s j0 q0 : Nat} (hs : s < 2) (hj : j0 ≤ 94) (hq : q0 ≤ 330) (h : TW κ δ ρ0 G0 (j0 + 8) 331 (q0 + 16) (some (vi (s : Int))) (some (vi ((cN L xs (25 + s) % 5 : Nat) : Int))) [] (t ++ txHy (cN L xs) s (cN L xs (25 + s) % 5))) : ∀ (n i : Nat), i + n = cN L xs (25 + s) % 5 → TW κ δ ρ0 G0 (j0 + 2 * i) 286 (q0 + 4 * i) (some (vi (s : Int))) (some (vi (i : Int))) [] (t ++ txHy (cN L xs) s i) := by
  have hc5 := cN_lt (L := L) (xs := xs) (i := 25 + s)
  intro n
  induction n with
  | zero =>
    intro i hi
    intro k G hk B ht hL
    refine a_iload_n (pc := 286) X dL_text_286 rfl rfl ?_
    refine a_aload_n (pc := 287) X dL_text_287 rfl rfl ?_
    refine a_bipush (pc := 288) X dL_text_288 rfl ?_
    refine a_iload_n (pc := 290) X dL_text_290 rfl rfl ?_
    refine n_iadd (pc := 291) X (25) (s) dL_text_291 ?_
    refine tw_cell (pc := 292) X E hsc (25 + s) (by omega) ⟨Nat.le_of_ble_eq_true rfl, Nat.le_of_ble_eq_true rfl⟩ (Nat.le_of_ble_eq_true rfl) ⟨by omega, by omega⟩ dL_text_292 ?_
    refine a_iconst (pc := 295) X dL_text_295 ?_
    refine n_irem (pc := 296) X 5 (by omega) (by decide) dL_text_296 ?_
    refine a_icmp_ge (pc := 297) (tgt := 331) X dL_text_297 rfl ⟨by omega, by omega⟩ ⟨by omega, by omega⟩ (fun _ => ?_) (fun c9 => absurd c9 (by omega))
    have e : i = cN L xs (25 + s) % 5 := by omega
    subst e
    exact AW.widen (by omega) (by omega) (h k G hk B (by omega) hL)
  | succ n ih =>
    intro i hi
    intro k G hk B ht hL
    have hv := cN_lt (L := L) (xs := xs) (i := 27 + 4 * s + i)
    have hy9 := hyN_rng (cN L xs (27 + 4 * s + i))
    refine a_iload_n (pc := 286) X dL_text_286 rfl rfl ?_
    refine a_aload_n (pc := 287) X dL_text_287 rfl rfl ?_
    refine a_bipush (pc := 288) X dL_text_288 rfl ?_
    refine a_iload_n (pc := 290) X dL_text_290 rfl rfl ?_
    refine n_iadd (pc := 291) X (25) (s) dL_text_291 ?_
    refine tw_cell (pc := 292) X E hsc (25 + s) (by omega) ⟨Nat.le_of_ble_eq_true rfl, Nat.le_of_ble_eq_true rfl⟩ (Nat.le_of_ble_eq_true rfl) ⟨by omega, by omega⟩ dL_text_292 ?_
    refine a_iconst (pc := 295) X dL_text_295 ?_
    refine n_irem (pc := 296) X 5 (by omega) (by decide) dL_text_296 ?_
    refine a_icmp_ge (pc := 297) (tgt := 331) X dL_text_297 rfl ⟨by omega, by omega⟩ ⟨by omega, by omega⟩ (fun c9 => absurd c9 (by omega)) (fun _ => ?_)
    refine a_aload_n (pc := 300) X dL_text_300 rfl rfl ?_
    refine a_bipush (pc := 301) X dL_text_301 rfl ?_
    refine tw_chr (pc := 303) X E.rm hk B ht (by omega) (Nat.le_refl _) rfl rfl ⟨Nat.le_of_ble_eq_true rfl, Nat.le_of_ble_eq_true rfl⟩ (Nat.le_of_ble_eq_true rfl) ⟨by omega, by omega⟩ dL_text_303 (fun k9 G9 hk9 B9 ht9 hL9 => ?_)
    have hLz := hL9.tr hL
    clear hk B ht hL hL9
    have hk := hk9
    have B := B9
    have ht := ht9
    have hL := hLz
    clear hk9 B9 ht9 hLz
    refine a_aload_n (pc := 306) X dL_text_306 rfl rfl ?_
    refine a_bipush (pc := 307) X dL_text_307 rfl ?_
    refine a_iconst (pc := 309) X dL_text_309 ?_
    refine a_iload_n (pc := 310) X dL_text_310 rfl rfl ?_
    refine n_imul (pc := 311) X 4 s dL_text_311 ?_
    refine n_iadd (pc := 312) X (27) (4 * s) dL_text_312 ?_
    refine a_iload_n (pc := 313) X dL_text_313 rfl rfl ?_
    refine n_iadd (pc := 314) X (27 + 4 * s) (i) dL_text_314 ?_
    refine tw_cell (pc := 315) X E hsc (27 + 4 * s + i) (by omega) ⟨Nat.le_of_ble_eq_true rfl, Nat.le_of_ble_eq_true rfl⟩ (Nat.le_of_ble_eq_true rfl) ⟨by omega, by omega⟩ dL_text_315 ?_
    refine tw_hymn (pc := 318) X E hsc (cN L xs (27 + 4 * s + i)) hv ⟨Nat.le_of_ble_eq_true rfl, Nat.le_of_ble_eq_true rfl⟩ (Nat.le_of_ble_eq_true rfl) ⟨by omega, by omega⟩ dL_text_318 ?_
    refine tw_int (pc := 321) X E.rm (hyN (cN L xs (27 + 4 * s + i))) (by omega) hk B ht (by omega) (Nat.le_refl _) rfl rfl ⟨Nat.le_of_ble_eq_true rfl, Nat.le_of_ble_eq_true rfl⟩ (Nat.le_of_ble_eq_true rfl) ⟨by omega, by omega⟩ dL_text_321 (fun k9 G9 hk9 B9 ht9 hL9 => ?_)
    have hLz := hL9.tr hL
    clear hk B ht hL hL9
    have hk := hk9
    have B := B9
    have ht := ht9
    have hL := hLz
    clear hk9 B9 ht9 hLz
    refine a_pop (pc := 324) X dL_text_324 rfl ?_
    refine a_iinc (pc := 325) X dL_text_325 rfl (Nat.le_of_ble_eq_true rfl) rfl rfl ?_
    refine a_goto (pc := 328) (tgt := 286) X dL_text_328 rfl ?_
    have ih1 := ih (i + 1) (by omega)
    have e9 : txHy (cN L xs) s (i + 1) = txHy (cN L xs) s i ++ ([32] ++ dgs (hyN (cN L xs (27 + 4 * s + i)))) := rfl
    rw [e9] at ih1
    refine AW.widen (by omega) (by omega) (ih1 k9 G9 hk ?_ ?_ hL)
    · simpa only [List.append_assoc] using B
    · simp only [List.append_assoc, List.length_append] at ht ⊢; omega
set_option maxHeartbeats 1000000 in
set_option maxRecDepth 100000 in
theorem tx_sv {κ : Cx} {δ : Dx} {ρ0 : Nat → Nat} {L : Nat} {xs : Nat → Int32} {G0 : GH} {Qr : Option AV → ASt → GH → Prop} {Qx : String → ASt → GH → Prop} (X : CX κ δ RL cL_text 4 (some (.object "java/lang/String"))) (E : EndR κ δ ρ0 272 12 240 110 45000 Qr Qx) (hsc : dSL δ = L ∧ dSx δ = xs) {t : List Int} {s j q : Nat} {x3 : Option AV} (hx3 : rltB 273 [x3] = true) (hs : s < 2) (hj : j ≤ 92) (hq : q ≤ 310) (h : TW κ δ ρ0 G0 (j + 10) 258 (q + 28) (some (vi ((s + 1 : Nat) : Int))) (some (vi ((cN L xs (25 + s) % 5 : Nat) : Int))) [] (t ++ txSv (cN L xs) s)) : TW κ δ ρ0 G0 j 258 q (some (vi (s : Int))) x3 [] t := by
  intro k G hk B ht hL
  have hv := cN_lt (L := L) (xs := xs) (i := 23 + s)
  have hy9 := hyN_rng (cN L xs (23 + s))
  refine a_iload_n (pc := 258) X dL_text_258 rfl rfl ?_
  refine a_iconst (pc := 259) X dL_text_259 ?_
  refine a_icmp_ge (pc := 260) (tgt := 337) X dL_text_260 rfl ⟨by omega, by omega⟩ (by decide) (fun c9 => absurd c9 (by omega)) (fun _ => ?_)
  refine a_aload_n (pc := 263) X dL_text_263 rfl rfl ?_
  refine b_ldcs (pc := 264) (i := 14) (text := ";service ") X (by decide) dL_text_264 ?_
  refine tw_str (pc := 266) X E.rm 14 9 (by decide) rfl hk B ht (by omega) (Nat.le_refl _) hx3 rfl ⟨Nat.le_of_ble_eq_true rfl, Nat.le_of_ble_eq_true rfl⟩ (Nat.le_of_ble_eq_true rfl) ⟨by omega, by omega⟩ dL_text_266 (fun k9 G9 hk9 B9 ht9 hL9 => ?_)
  have hLz := hL9.tr hL
  clear hk B ht hL hL9
  have hk := hk9
  have B := B9
  have ht := ht9
  have hL := hLz
  clear hk9 B9 ht9 hLz
  refine a_aload_n (pc := 269) X dL_text_269 rfl rfl ?_
  refine a_bipush (pc := 270) X dL_text_270 rfl ?_
  refine a_iload_n (pc := 272) X dL_text_272 rfl rfl ?_
  refine n_iadd (pc := 273) X (23) (s) dL_text_273 ?_
  refine tw_cell (pc := 274) X E hsc (23 + s) (by omega) ⟨Nat.le_of_ble_eq_true rfl, Nat.le_of_ble_eq_true rfl⟩ (Nat.le_of_ble_eq_true rfl) ⟨by omega, by omega⟩ dL_text_274 ?_
  refine tw_hymn (pc := 277) X E hsc (cN L xs (23 + s)) hv ⟨Nat.le_of_ble_eq_true rfl, Nat.le_of_ble_eq_true rfl⟩ (Nat.le_of_ble_eq_true rfl) ⟨by omega, by omega⟩ dL_text_277 ?_
  refine tw_int (pc := 280) X E.rm (hyN (cN L xs (23 + s))) (by omega) hk B ht (by omega) (Nat.le_refl _) hx3 rfl ⟨Nat.le_of_ble_eq_true rfl, Nat.le_of_ble_eq_true rfl⟩ (Nat.le_of_ble_eq_true rfl) ⟨by omega, by omega⟩ dL_text_280 (fun k9 G9 hk9 B9 ht9 hL9 => ?_)
  have hLz := hL9.tr hL
  clear hk B ht hL hL9
  have hk := hk9
  have B := B9
  have ht := ht9
  have hL := hLz
  clear hk9 B9 ht9 hLz
  refine a_pop (pc := 283) X dL_text_283 rfl ?_
  refine a_iconst (pc := 284) X dL_text_284 ?_
  refine a_istore_n (pc := 285) (i := 3) X dL_text_285 rfl (Nat.le_of_ble_eq_true rfl) rfl rfl ?_
  refine AW.widen (by omega) (by omega) (tx_hy X E hsc (t := t ++ cT 14 ++ dgs (hyN (cN L xs (23 + s)))) (j0 := j + 2) (q0 := q + 12) hs (by omega) (by omega) ?_ (cN L xs (25 + s) % 5) 0 (by omega) k9 G9 hk (by rw [show txHy (cN L xs) s 0 = [] from rfl, List.append_nil]; exact B) (by rw [show txHy (cN L xs) s 0 = [] from rfl, List.append_nil]; omega) hL)
  intro k2 G2 hk2 B2 ht2 hL2
  refine a_iinc (pc := 331) X dL_text_331 rfl (Nat.le_of_ble_eq_true rfl) rfl rfl ?_
  refine a_goto (pc := 334) (tgt := 258) X dL_text_334 rfl ?_
  refine AW.widen (by omega) (by omega) (h k2 G2 hk2 ?_ ?_ hL2)
  · unfold txSv; simpa only [List.append_assoc] using B2
  · unfold txSv; simp only [List.append_assoc, List.length_append] at ht2 ⊢; omega
