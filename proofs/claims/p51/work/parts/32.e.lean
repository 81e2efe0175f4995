-- ===== the start: written by wip/p51/mkmain.py =====
theorem tb_e1 : ∀ j, j < 100 → Cond.eq (.elem (dgTm "DigitOnes") (.int (Int32.ofNat j))) (.int (zI (dgO j))) ∈ preF := by decide +kernel
