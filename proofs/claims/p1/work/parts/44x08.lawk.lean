/-! the law's code checked (written by wip/whole/genlaw.py) -/
theorem lok_58 : lokB Pl_58 := by decide +kernel
theorem lok_59 : lokB Pl_59 := by decide +kernel
theorem lok_60 : lokB Pl_60 := by decide +kernel
theorem lok_61 : lokB Pl_61 := by decide +kernel
theorem lok_62 : lokB Pl_62 := by decide +kernel
