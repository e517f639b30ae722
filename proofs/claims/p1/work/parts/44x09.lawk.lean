/-! the law's code checked (written by wip/whole/genlaw.py) -/
theorem lok_63 : lokB Pl_63 := by decide +kernel
theorem lok_64 : lokB Pl_64 := by decide +kernel
theorem lok_65 : lokB Pl_65 := by decide +kernel
theorem lok_66 : lokB Pl_66 := by decide +kernel
theorem lok_67 : lokB Pl_67 := by decide +kernel
