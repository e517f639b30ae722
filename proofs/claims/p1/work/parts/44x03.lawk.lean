/-! the law's code checked (written by wip/whole/genlaw.py) -/
theorem lok_29 : lokB Pl_29 := by decide +kernel
theorem lok_30 : lokB Pl_30 := by decide +kernel
theorem lok_31 : lokB Pl_31 := by decide +kernel
theorem lok_32 : lokB Pl_32 := by decide +kernel
