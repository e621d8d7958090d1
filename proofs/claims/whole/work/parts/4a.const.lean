set_option maxRecDepth 100000 in
theorem ct_X10_283 : Cond.constant RX10 283 (Int32.ofInt (-2147483648)) ∈ GB := gb_in (by decide +kernel) (by decide +kernel)
set_option maxRecDepth 100000 in
theorem ct_X10_293 : Cond.constant RX10 293 (Int32.ofInt 99999) ∈ GB := gb_in (by decide +kernel) (by decide +kernel)
set_option maxRecDepth 100000 in
theorem ct_X11_283 : Cond.constant RX11 283 (Int32.ofInt 1000000) ∈ GB := gb_in (by decide +kernel) (by decide +kernel)
set_option maxRecDepth 100000 in
theorem ct_X11_386 : Cond.constant RX11 386 (Int32.ofInt (-2147483648)) ∈ GB := gb_in (by decide +kernel) (by decide +kernel)
set_option maxRecDepth 100000 in
theorem ct_X11_402 : Cond.constant RX11 402 (Int32.ofInt 99999) ∈ GB := gb_in (by decide +kernel) (by decide +kernel)
