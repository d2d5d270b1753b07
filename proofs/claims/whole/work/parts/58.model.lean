set_option maxRecDepth 1000000 in
theorem c_X12_sh : (c_X12_63 241 xM2).1.1 = xSh0 := by decide +kernel
set_option maxRecDepth 1000000 in
theorem c_X12_rfb : xrfb xSh0 xRf0 (c_X12_63 241 xM2).1.2 = true := by decide +kernel
