theorem evt7 : (ev tbs mxs 3000 7 0 (lv_args 0 [.ref 0]) [] [(7, dfl 7)]).isSome = true := by decide +kernel
