/-! The constructors, run. -/
set_option maxRecDepth 100000 in
theorem kc_all_ok : kc_all = true := by decide +kernel
