-- ===== PURE LAYER: only the first 456 places of W count =====
section CW
variable {W W' : WT}
def EqW (W' W : WT) : Prop := ∀ k, k < 456 → W' k = W k
theorem EqW.at (e : EqW W' W) {i : Int} (h : i < 456) : W' i.toNat = W i.toNat := e _ (by omega)
theorem EqW.row (e : EqW W' W) {b : Int} (h : b < 3) : rowW W' b = rowW W b := e _ (by omega)
theorem EqW.card (e : EqW W' W) {k h : Int} (hk : k < 12) (hh : h < 3) : cardW W' k h = cardW W k h := e _ (by omega)
theorem EqW.fri (e : EqW W' W) {k h : Int} (hk : k < 3) (hh : h < 11) : friW W' k h = friW W k h := e _ (by omega)
theorem EqW.loan (e : EqW W' W) {k h : Int} (hk : k < 12) (hh : h < 4) : loanW W' k h = loanW W k h := e _ (by omega)
theorem EqW.serv (e : EqW W' W) {k h : Int} (hk : k < 16) (hh : h < 9) : servW W' k h = servW W k h := e _ (by omega)
theorem EqW.pla (e : EqW W' W) {k h : Int} (hk : k < 54) (hh : h < 3) : plaW W' k h = plaW W k h := e _ (by omega)
theorem EqW.hun (e : EqW W' W) {k : Int} (hk : k < 18) : hunW W' k = hunW W k := e _ (by omega)
theorem EqW.frst (e : EqW W' W) {b : Int} (h : b ≤ 3) : frstW W' b = frstW W b := sumZ_congr (fun i h0 h1 => e.row (by omega))
theorem EqW.allR (e : EqW W' W) (h : W 0 ≤ 3) : allRW W' = allRW W := by
  unfold allRW
  rw [e 0 (by omega)]
  exact e.frst h
theorem EqW.bor (e : EqW W' W) (h : W 6 ≤ 12) {f d : Int} : borW W' f d = borW W f d := by
  unfold borW
  rw [e 6 (by omega)]
  refine sumZ_congr (fun l h0 h1 => ?_)
  rw [e.loan (by omega) (by omega), e.loan (by omega) (by omega), e.loan (by omega) (by omega)]
theorem EqW.hg (e : EqW W' W) {s : Int} : hgW W' s = hgW W s := sumZ_congr (fun p h0 h1 => by
  rw [e.pla h1 (by omega)])
theorem EqW.cnt (e : EqW W' W) (h3 : W 3 ≤ 12) (h : W 6 ≤ 12) {s : Int} : cntW (-1) W' s = cntW (-1) W s := by
  unfold cntW
  split
  · rfl
  · split
    · rw [e 3 (by omega), e.card (by omega) (by omega)]
    · exact e.bor h
theorem EqW.symm (e : EqW W' W) : EqW W W' := fun k h => (e k h).symm
theorem EqW.trans {W'' : WT} (e : EqW W' W) (e2 : EqW W'' W') : EqW W'' W := fun k h => (e2 k h).trans (e k h)
theorem EqW.wf {j : Int} (e : EqW W' W) (h : WF j W) : WF j W' := by
  have bo := h.bo; have ow := h.ow; have fr := h.fr; have lo := h.lo; have se := h.se
  have ar := e.allR bo.2
  refine ⟨?_, ?_, ?_, ?_, ?_, ?_, ?_, ?_, ?_, ?_, ?_, ?_, ?_, ?_, ?_, ?_, ?_, ?_, ?_, ?_, ?_, ?_, ?_⟩
  · rw [e 0 (by omega)]; exact h.bo
  · rw [e 1 (by omega)]; exact h.tu
  · rw [e 2 (by omega)]; exact h.sp
  · rw [e 3 (by omega)]; exact h.ow
  · rw [e 4 (by omega)]; exact h.fr
  · rw [e 5 (by omega)]; exact h.se
  · rw [e 6 (by omega)]; exact h.lo
  · rw [e 7 (by omega)]; exact h.ha
  · rw [e 8 (by omega)]; exact h.he
  · rw [e 9 (by omega)]; exact h.wo
  · rw [e 10 (by omega)]; exact h.hu
  · rw [e 11 (by omega)]; exact h.ou
  · intro b h0 h1
    rw [e 0 (by omega)] at h1
    rw [e.row (by omega)]; exact h.ro b h0 h1
  · intro k h0 h1
    rw [e 3 (by omega)] at h1
    rw [e.card (by omega) (by omega), e.card (by omega) (by omega), e.card (by omega) (by omega)]; exact h.ca k h0 h1
  · intro f h0 h1
    rw [e 4 (by omega)] at h1
    rw [e.fri (by omega) (by omega)]
    refine ⟨(h.fd f h0 h1).1, fun d d0 d1 => ?_⟩
    rw [e.fri (by omega) (by omega), e.bor lo.2]; exact (h.fd f h0 h1).2 d d0 d1
  · intro l h0 h1
    rw [e 6 (by omega)] at h1
    rw [e.loan (by omega) (by omega), e.loan (by omega) (by omega), e.loan (by omega) (by omega), e.loan (by omega) (by omega), e 4 (by omega)]; exact h.ln l h0 h1
  · intro s h0 h1
    rw [e 5 (by omega)] at h1
    have sv := h.sv s h0 h1
    rw [e.serv (by omega) (by omega)]
    refine ⟨sv.1, fun i i0 i1 => ?_⟩
    rw [e.serv (by omega) (by omega)]; exact sv.2 i i0 i1
  · intro p h0 h1
    rw [e.pla (by omega) (by omega), e.pla (by omega) (by omega), e.pla (by omega) (by omega)]; exact h.pl p h0 h1
  · intro p h0 h1
    rw [ar] at h0
    rw [e.pla (by omega) (by omega)]; exact h.pf p h0 h1
  · intro r h0 h1
    rw [e.hun h1]; exact h.hr r h0 h1
  · intro r h0 h1
    rw [ar] at h0
    rw [e.hun h1]; exact h.hf r h0 h1
  · intro s h0 h1
    rw [e.hg, e.cnt ow.2 lo.2]; exact h.hc s h0 h1
  · intro h7 p h0 h1
    rw [e 7 (by omega)] at h7
    rw [e.pla (by omega) (by omega)]; exact h.nh h7 p h0 h1
theorem EqW.rep {j : Int} {G : GH} {a : Nat} (e : EqW W' W) (h : WF j W) (r : RepS G a W) : RepS G a W' := by
  have bo := h.bo; have ow := h.ow; have fr := h.fr; have lo := h.lo; have se := h.se
  have act : ∀ m b i : Int, b < 3 → (actv W' m b i ↔ actv W m b i) := fun m b i hb => by
    unfold actv
    rw [e 0 (by omega), e.row hb]
  refine ⟨?_, ?_, ?_, ?_, ?_, ?_, ?_, ?_, ?_, ?_, ?_, ?_, ?_, ?_, ?_, ?_, ?_, ?_, ?_, ?_⟩
  · rw [e 0 (by omega)]; exact r.bo
  · intro b h0 h1
    rw [e 0 (by omega)] at h1
    rw [e.row (by omega)]; exact r.ro b h0 h1
  · rw [e 2 (by omega)]; exact r.sp
  · rw [e 1 (by omega)]; exact r.tu
  · rw [e 3 (by omega)]; exact r.ow
  · rw [e 4 (by omega)]; exact r.fr
  · rw [e 6 (by omega)]; exact r.lo
  · intro k h0 h1
    rw [e 3 (by omega)] at h1
    rw [e.card (by omega) (by omega), e.card (by omega) (by omega)]; exact r.ca k h0 h1
  · intro s h0 h1
    rw [e.cnt ow.2 lo.2]; exact r.ct s h0 h1
  · intro f h0 h1
    rw [e 4 (by omega)] at h1
    rw [e.fri (by omega) (by omega)]
    refine ⟨(r.fd f h0 h1).1, fun d d0 d1 => ?_⟩
    rw [e.fri (by omega) (by omega)]; exact (r.fd f h0 h1).2 d d0 d1
  · intro l h0 h1
    rw [e 6 (by omega)] at h1
    rw [e.loan (by omega) (by omega), e.loan (by omega) (by omega), e.loan (by omega) (by omega), e.loan (by omega) (by omega)]; exact r.ln l h0 h1
  · rw [e 5 (by omega)]; exact r.se
  · intro s h0 h1
    rw [e 5 (by omega)] at h1
    have sv := h.sv s h0 h1
    rw [e.serv (by omega) (by omega)]
    refine ⟨(r.sv s h0 h1).1, fun i i0 i1 => ?_⟩
    rw [e.serv (by omega) (by omega)]; exact (r.sv s h0 h1).2 i i0 i1
  · rw [e 7 (by omega)]; exact r.ha
  · refine ⟨fun b x b0 b1 x0 x1 => ⟨fun q => ?_, fun q => ?_⟩, fun b x b0 b1 x0 x1 => ⟨fun q => ?_, fun q => ?_⟩⟩
    · have q := (act 1 b x b1).mp q
      have f := h.frst b0 (by have := q.1; omega)
      rw [e.frst (by omega), e.hun (by omega)]; exact (r.hs.1 b x b0 b1 x0 x1).1 q
    · exact (r.hs.1 b x b0 b1 x0 x1).2 (fun q2 => q ((act 1 b x b1).mpr q2))
    · have q := (act 3 b x b1).mp q
      have f := h.frst b0 (by have := q.1; omega)
      rw [e.frst (by omega), e.pla (by omega) (by omega), e.pla (by omega) (by omega), e.pla (by omega) (by omega)]; exact (r.hs.2 b x b0 b1 x0 x1).1 q
    · exact (r.hs.2 b x b0 b1 x0 x1).2 (fun q2 => q ((act 3 b x b1).mpr q2))
  · intro s h0 h1
    rw [e.hg]; exact r.hg s h0 h1
  · rw [e 8 (by omega)]; exact r.he
  · rw [e 9 (by omega)]; exact r.wo
  · rw [e 10 (by omega)]; exact r.hu
  · rw [e 11 (by omega)]; exact r.ou
end CW
