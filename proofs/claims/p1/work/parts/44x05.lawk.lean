/-! the law's code checked (written by wip/whole/genlaw.py) -/
theorem lok_43 : lokB Pl_43 := by decide +kernel
theorem lok_44 : lokB Pl_44 := by decide +kernel
theorem lok_45 : lokB Pl_45 := by decide +kernel
theorem lok_46 : lokB Pl_46 := by decide +kernel
theorem lok_47 : lokB Pl_47 := by decide +kernel
theorem lok_48 : lokB Pl_48 := by decide +kernel
