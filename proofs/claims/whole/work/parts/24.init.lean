set_option maxRecDepth 20000 in
theorem sk_fin : rsAll SC149 0 (SK 65) SHC = true := by decide +kernel
set_option maxRecDepth 20000 in
theorem mk_fin : rsAll SM43 0 (MK 28) SHM = true := by decide +kernel
