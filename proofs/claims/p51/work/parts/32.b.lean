-- ===== the start: written by wip/p51/mkmain.py =====
theorem st_el : ∀ i, i < 15 → ∀ j, j < strL.getD i 0 → Cond.eq (.elem (.field (strTm i) "java/lang/String" "value" "[B") (.int (Int32.ofNat j))) (.int ((strT.getD i []).getD j 0)) ∈ preF := by decide +kernel
