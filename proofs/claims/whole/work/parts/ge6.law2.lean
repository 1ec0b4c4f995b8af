/-! the law's own code -/
set_option maxRecDepth 100000 in
theorem tnl_13 : tl_13.all (fun x => decide (decode code x.1 = .ok (x.2.1, x.2.2.1))) = true := by decide +kernel
set_option maxRecDepth 100000 in
theorem tnl_14 : tl_14.all (fun x => decide (decode code x.1 = .ok (x.2.1, x.2.2.1))) = true := by decide +kernel
set_option maxRecDepth 100000 in
theorem tnl_15 : tl_15.all (fun x => decide (decode code x.1 = .ok (x.2.1, x.2.2.1))) = true := by decide +kernel
set_option maxRecDepth 100000 in
theorem tnl_16 : tl_16.all (fun x => decide (decode code x.1 = .ok (x.2.1, x.2.2.1))) = true := by decide +kernel
set_option maxRecDepth 100000 in
theorem tnl_17 : tl_17.all (fun x => decide (decode code x.1 = .ok (x.2.1, x.2.2.1))) = true := by decide +kernel
set_option maxRecDepth 100000 in
theorem tnl_18 : tl_18.all (fun x => decide (decode code x.1 = .ok (x.2.1, x.2.2.1))) = true := by decide +kernel
set_option maxRecDepth 100000 in
theorem tnl_19 : tl_19.all (fun x => decide (decode code x.1 = .ok (x.2.1, x.2.2.1))) = true := by decide +kernel
set_option maxRecDepth 100000 in
theorem tnl_20 : tl_20.all (fun x => decide (decode code x.1 = .ok (x.2.1, x.2.2.1))) = true := by decide +kernel
set_option maxRecDepth 100000 in
theorem tnl_21 : tl_21.all (fun x => decide (decode code x.1 = .ok (x.2.1, x.2.2.1))) = true := by decide +kernel
set_option maxRecDepth 100000 in
theorem tnl_22 : tl_22.all (fun x => decide (decode code x.1 = .ok (x.2.1, x.2.2.1))) = true := by decide +kernel
set_option maxRecDepth 100000 in
theorem tnl_23 : tl_23.all (fun x => decide (decode code x.1 = .ok (x.2.1, x.2.2.1))) = true := by decide +kernel
set_option maxRecDepth 100000 in
theorem tnl_24 : tl_24.all (fun x => decide (decode code x.1 = .ok (x.2.1, x.2.2.1))) = true := by decide +kernel
set_option maxRecDepth 100000 in
theorem tnl_25 : tl_25.all (fun x => decide (decode code x.1 = .ok (x.2.1, x.2.2.1))) = true := by decide +kernel
