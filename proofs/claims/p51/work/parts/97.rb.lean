-- ===== p51, PURE LAYER: the law's whole: a number that W says =====
def itr (f : Int → Int → Int) (a : Int) : Nat → Int
  | 0 => a
  | k + 1 => f (itr f a k) (k : Int)
theorem itr_s {f : Int → Int → Int} {a x : Int} (h : 0 ≤ x) : itr f a (x + 1).toNat = f (itr f a x.toNat) x := by
  have e : itr f a (x.toNat + 1) = f (itr f a x.toNat) ((x.toNat : Nat) : Int) := rfl
  rw [show (x + 1).toNat = x.toNat + 1 by omega, e, show ((x.toNat : Nat) : Int) = x by omega]
theorem it_loop {b : (Int → Int → Prop) → Int → Int → Prop} (f : Int → Int → Int) (n : Int) (a : Int) (hn : 0 ≤ n) (hs : ∀ (k : Int → Int → Prop) x i, 0 ≤ i ∧ i ≤ n → (i = n → x = itr f a n.toNat) → (i < n → k (f x i) (i + 1)) → b k x i) : loop2 b a 0 := by
  refine loopI2 (I := fun x i => (0 ≤ i ∧ i ≤ n) ∧ x = itr f a i.toNat) (μ := fun _ i => (n - i).toNat) (fun k x i hI ih => hs k x i hI.1 (fun c => by rw [hI.2, c]) (fun c => ih _ _ ⟨by omega, ?_⟩ (by omega))) a 0 ⟨by omega, rfl⟩
  rw [itr_s hI.1.1, ← hI.2]
def wA (W : WT) : Int := itr (fun a i => 31 * a + szW W i) 3 14
def wB (W : WT) : Int := itr (fun a k => itr (fun a i => 31 * a + cdW W k i) a 4) (wA W) (W 3).toNat
def wC (W : WT) : Int := itr (fun a d => ((31 * a) + (7 * friW W 0 (1 + d))) + cdW W (12 + d) 2) (wB W) 10
def wD (W : WT) : Int := itr (fun a l => itr (fun a i => 31 * a + loanW W l i) a 4) (wC W) (W 6).toNat
def wE (W : WT) : Int := itr (fun a b => itr (fun a r => itr (fun a p => 31 * a + plcW W (3 * (frstW W b + r) + p / 3) (p % 3)) (31 * a + hunW W (frstW W b + r)) 9) a (rowW W b).toNat) (wD W) (W 0).toNat
def whV (W : WT) : Int := itr (fun a s => itr (fun a i => 31 * a + servW W s (1 + i)) a (servW W s 0).toNat) (wE W) (W 5).toNat
section RB
variable {j : Int} {G : GH} {W : WT} {Q : Int → Prop}
theorem whole_ok (hW : WF j W) (h4 : W 4 = 1) (hR : RepS G 1 W) (q : Q (whV W)) : f_L_whole G Q := by
  have how := hW.ow
  have hlo := hW.lo
  have hbo := hW.bo
  have hse := hW.se
  unfold f_L_whole
  refine it_loop (fun a i => 31 * a + szW W i) 14 3 (by omega) (fun k1 x1 i1 hi1 hx1 kk1 => ⟨fun c => ?_, fun c => e_size (by omega) hW hR (kk1 (by omega))⟩)
  have e1 : x1 = wA W := hx1 (by omega)
  subst e1
  refine it_loop (fun a k => itr (fun a i => 31 * a + cdW W k i) a 4) (W 3) _ how.1 (fun k2 x2 i2 hi2 hx2 kk2 => e_size (by omega) hW hR ?_)
  show (W 3 ≤ i2 → _) ∧ (i2 < W 3 → _)
  refine ⟨fun c2 => ?_, fun c2 => ?_⟩
  case refine_2 =>
    refine it_loop (fun a i => 31 * a + cdW W i2 i) 4 _ (by omega) (fun k x i hi hx kk => ⟨fun c => ?_, fun c => ?_⟩)
    · rw [hx (by omega)]; exact kk2 c2
    · refine e_card hW hR (Or.inl ⟨hi2.1, c2⟩) (by omega) ?_
      rw [sort_own (by omega)]; exact kk (by omega)
  have e2 : x2 = wB W := hx2 (by omega)
  subst e2
  refine it_loop (fun a d => ((31 * a) + (7 * friW W 0 (1 + d))) + cdW W (12 + d) 2) 10 _ (by omega) (fun k3 x3 i3 hi3 hx3 kk3 => ⟨fun c3 => ?_, fun c3 => ?_⟩)
  case refine_2 =>
    refine e_lends hW hR (by omega) (by omega) ⟨⟨by omega, by omega⟩, e_card hW hR (Or.inr ⟨by omega, by omega⟩) (by omega) ?_⟩
    rw [sort_fr hi3.1]; exact kk3 c3
  have e3 : x3 = wC W := hx3 (by omega)
  subst e3
  refine it_loop (fun a l => itr (fun a i => 31 * a + loanW W l i) a 4) (W 6) _ hlo.1 (fun k4 x4 i4 hi4 hx4 kk4 => e_size (by omega) hW hR ?_)
  show (W 6 ≤ i4 → _) ∧ (i4 < W 6 → _)
  refine ⟨fun c4 => ?_, fun c4 => ?_⟩
  case refine_2 =>
    refine it_loop (fun a i => 31 * a + loanW W i4 i) 4 _ (by omega) (fun k x i hi hx kk => ⟨fun c => ?_, fun c => ?_⟩)
    · rw [hx (by omega)]; exact kk4 c4
    · exact e_loan hW hR ⟨hi4.1, c4⟩ (by omega) (kk (by omega))
  have e4 : x4 = wD W := hx4 (by omega)
  subst e4
  refine it_loop (fun a b => itr (fun a r => itr (fun a p => 31 * a + plcW W (3 * (frstW W b + r) + p / 3) (p % 3)) (31 * a + hunW W (frstW W b + r)) 9) a (rowW W b).toNat) (W 0) _ (by omega) (fun k5 x5 i5 hi5 hx5 kk5 => e_size (by omega) hW hR ?_)
  show (W 0 ≤ i5 → _) ∧ (i5 < W 0 → _)
  refine ⟨fun c5 => ?_, fun c5 => ?_⟩
  case refine_2 =>
    have ro := hW.ro i5 hi5.1 c5
    refine it_loop (fun a r => itr (fun a p => 31 * a + plcW W (3 * (frstW W i5 + r) + p / 3) (p % 3)) (31 * a + hunW W (frstW W i5 + r)) 9) (rowW W i5) _ (by omega) (fun k x i hi hx kk => e_rows hW hR ⟨hi5.1, c5⟩ ⟨fun c => ?_, fun c => ?_⟩)
    · rw [hx (by omega)]; exact kk5 c5
    · have a : (0 ≤ i5 ∧ i5 < W 0) ∧ 0 ≤ i ∧ i < rowW W i5 := ⟨⟨hi5.1, c5⟩, hi.1, c⟩
      refine e_hung hW hR a ?_
      refine it_loop (fun a p => 31 * a + plcW W (3 * (frstW W i5 + i) + p / 3) (p % 3)) 9 _ (by omega) (fun k' x' i' hi' hx' kk' => ⟨fun c' => ?_, fun c' => ⟨hi'.1, ?_⟩⟩)
      · rw [hx' (by omega)]; exact kk c
      · exact e_place hW hR a (by omega) (by omega) (kk' c')
  have e5 : x5 = wE W := hx5 (by omega)
  subst e5
  refine it_loop (fun a s => itr (fun a i => 31 * a + servW W s (1 + i)) a (servW W s 0).toNat) (W 5) _ hse.1 (fun k6 x6 i6 hi6 hx6 kk6 => e_size (by omega) hW hR ?_)
  show (W 5 ≤ i6 → _) ∧ (i6 < W 5 → _)
  refine ⟨fun c6 => ?_, fun c6 => ?_⟩
  · rw [hx6 (by omega)]; exact q
  · have sv := hW.sv i6 hi6.1 c6
    refine it_loop (fun a i => 31 * a + servW W i6 (1 + i)) (servW W i6 0) _ (by omega) (fun k x i hi hx kk => e_hymns hW hR ⟨hi6.1, c6⟩ ⟨fun c => ?_, fun c => ?_⟩)
    · rw [hx (by omega)]; exact kk6 c6
    · refine e_hymn hW hR ⟨hi6.1, c6⟩ ⟨by omega, by omega⟩ ?_
      rw [if_pos ⟨hi.1, c⟩]; exact kk c
end RB
