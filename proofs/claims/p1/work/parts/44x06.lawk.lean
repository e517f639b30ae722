/-! the law's code checked (written by wip/whole/genlaw.py) -/
theorem lok_49 : lokB Pl_49 := by decide +kernel
theorem lok_50 : lokB Pl_50 := by decide +kernel
theorem lok_51 : lokB Pl_51 := by decide +kernel
theorem lok_52 : lokB Pl_52 := by decide +kernel
