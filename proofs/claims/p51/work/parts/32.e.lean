-- ===== the start: written by wip/p51/mkmain.py =====
theorem tb_e1a : (preF.drop 14).take 100 = (List.range 100).map fun j => Cond.eq (.elem (dgTm "DigitOnes") (.int (Int32.ofNat j))) (.int (zI (dgO j))) := by decide +kernel
theorem tb_e2a : (preF.drop 117).take 100 = (List.range 100).map fun j => Cond.eq (.elem (dgTm "DigitTens") (.int (Int32.ofNat j))) (.int (zI (dgT j))) := by decide +kernel
theorem tb_e1 : ∀ j, j < 100 → Cond.eq (.elem (dgTm "DigitOnes") (.int (Int32.ofNat j))) (.int (zI (dgO j))) ∈ preF := fun _ hj => blk_in (f := fun j => Cond.eq (.elem (dgTm "DigitOnes") (.int (Int32.ofNat j))) (.int (zI (dgO j)))) tb_e1a hj
theorem tb_e2 : ∀ j, j < 100 → Cond.eq (.elem (dgTm "DigitTens") (.int (Int32.ofNat j))) (.int (zI (dgT j))) ∈ preF := fun _ hj => blk_in (f := fun j => Cond.eq (.elem (dgTm "DigitTens") (.int (Int32.ofNat j))) (.int (zI (dgT j)))) tb_e2a hj
