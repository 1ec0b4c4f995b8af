/-! the law's own code -/
set_option maxRecDepth 100000 in
theorem tnl_0 : tl_0.all (fun x => decide (decode code x.1 = .ok (x.2.1, x.2.2.1))) = true := by decide +kernel
set_option maxRecDepth 100000 in
theorem tnl_1 : tl_1.all (fun x => decide (decode code x.1 = .ok (x.2.1, x.2.2.1))) = true := by decide +kernel
set_option maxRecDepth 100000 in
theorem tnl_2 : tl_2.all (fun x => decide (decode code x.1 = .ok (x.2.1, x.2.2.1))) = true := by decide +kernel
set_option maxRecDepth 100000 in
theorem tnl_3 : tl_3.all (fun x => decide (decode code x.1 = .ok (x.2.1, x.2.2.1))) = true := by decide +kernel
set_option maxRecDepth 100000 in
theorem tnl_4 : tl_4.all (fun x => decide (decode code x.1 = .ok (x.2.1, x.2.2.1))) = true := by decide +kernel
set_option maxRecDepth 100000 in
theorem tnl_5 : tl_5.all (fun x => decide (decode code x.1 = .ok (x.2.1, x.2.2.1))) = true := by decide +kernel
set_option maxRecDepth 100000 in
theorem tnl_6 : tl_6.all (fun x => decide (decode code x.1 = .ok (x.2.1, x.2.2.1))) = true := by decide +kernel
set_option maxRecDepth 100000 in
theorem tnl_7 : tl_7.all (fun x => decide (decode code x.1 = .ok (x.2.1, x.2.2.1))) = true := by decide +kernel
set_option maxRecDepth 100000 in
theorem tnl_8 : tl_8.all (fun x => decide (decode code x.1 = .ok (x.2.1, x.2.2.1))) = true := by decide +kernel
set_option maxRecDepth 100000 in
theorem tnl_9 : tl_9.all (fun x => decide (decode code x.1 = .ok (x.2.1, x.2.2.1))) = true := by decide +kernel
set_option maxRecDepth 100000 in
theorem tnl_10 : tl_10.all (fun x => decide (decode code x.1 = .ok (x.2.1, x.2.2.1))) = true := by decide +kernel
set_option maxRecDepth 100000 in
theorem tnl_11 : tl_11.all (fun x => decide (decode code x.1 = .ok (x.2.1, x.2.2.1))) = true := by decide +kernel
set_option maxRecDepth 100000 in
theorem tnl_12 : tl_12.all (fun x => decide (decode code x.1 = .ok (x.2.1, x.2.2.1))) = true := by decide +kernel
