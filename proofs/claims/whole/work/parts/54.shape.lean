set_option maxRecDepth 1000000 in
theorem c_X11_sh : (c_X11 0 xM0).1.1 = xSh0.take 241 := by decide +kernel
set_option maxRecDepth 1000000 in
theorem c_X11_rfb : xrfb (xSh0.take 241) xRf0 (c_X11 0 xM0).1.2 = true := by decide +kernel

