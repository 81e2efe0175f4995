-- ===== the start: written by wip/p51/mkmain.py =====
theorem tb_e2 : ∀ j, j < 100 → Cond.eq (.elem (dgTm "DigitTens") (.int (Int32.ofNat j))) (.int (zI (dgT j))) ∈ preF := by decide +kernel
