/-! the law's code checked (written by wip/whole/genlaw.py) -/
theorem lok_53 : lokB Pl_53 := by decide +kernel
theorem lok_54 : lokB Pl_54 := by decide +kernel
theorem lok_55 : lokB Pl_55 := by decide +kernel
theorem lok_56 : lokB Pl_56 := by decide +kernel
theorem lok_57 : lokB Pl_57 := by decide +kernel
