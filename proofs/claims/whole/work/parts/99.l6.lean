set_option maxRecDepth 1000000 in
theorem evt0 : (ev tbs mxs 300 0 0 (lv_args 0 [.ref 0, .int 6]) [] [(0, dfl 0)]).isSome = true := by decide +kernel
