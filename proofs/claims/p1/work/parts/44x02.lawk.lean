/-! the law's code checked (written by wip/whole/genlaw.py) -/
theorem lok_27 : lokB Pl_27 := by decide +kernel
theorem lok_28 : lokB Pl_28 := by decide +kernel
