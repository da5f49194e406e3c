set_option maxRecDepth 100000 in
theorem a_ckg0 : ((List.range 16).map (fun k => a_ckM (k + 0))).all id = true := by decide +kernel
set_option maxRecDepth 100000 in
theorem a_ckg1 : ((List.range 16).map (fun k => a_ckM (k + 16))).all id = true := by decide +kernel
set_option maxRecDepth 100000 in
theorem a_ckg2 : ((List.range 16).map (fun k => a_ckM (k + 32))).all id = true := by decide +kernel
set_option maxRecDepth 100000 in
theorem a_ckg3 : ((List.range 16).map (fun k => a_ckM (k + 48))).all id = true := by decide +kernel
set_option maxRecDepth 100000 in
theorem a_ckg4 : ((List.range 16).map (fun k => a_ckM (k + 64))).all id = true := by decide +kernel
set_option maxRecDepth 100000 in
theorem a_ckg5 : ((List.range 16).map (fun k => a_ckM (k + 80))).all id = true := by decide +kernel
set_option maxRecDepth 100000 in
theorem a_ckg6 : ((List.range 16).map (fun k => a_ckM (k + 96))).all id = true := by decide +kernel
set_option maxRecDepth 100000 in
theorem a_ckg7 : ((List.range 16).map (fun k => a_ckM (k + 112))).all id = true := by decide +kernel
set_option maxRecDepth 100000 in
theorem a_ckg8 : ((List.range 16).map (fun k => a_ckM (k + 128))).all id = true := by decide +kernel
set_option maxRecDepth 100000 in
theorem a_ckg9 : ((List.range 16).map (fun k => a_ckM (k + 144))).all id = true := by decide +kernel
set_option maxRecDepth 100000 in
theorem a_ckg10 : ((List.range 16).map (fun k => a_ckM (k + 160))).all id = true := by decide +kernel
set_option maxRecDepth 100000 in
theorem a_ckg11 : ((List.range 16).map (fun k => a_ckM (k + 176))).all id = true := by decide +kernel
set_option maxRecDepth 100000 in
theorem a_ckg12 : ((List.range 16).map (fun k => a_ckM (k + 192))).all id = true := by decide +kernel
