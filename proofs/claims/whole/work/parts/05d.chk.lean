set_option maxRecDepth 100000 in
theorem ok_ld : ((List.range' 500 100).all (okB 155)) = true := by decide +kernel
set_option maxRecDepth 100000 in
theorem ok_le : ((List.range' 600 100).all (okB 155)) = true := by decide +kernel
set_option maxRecDepth 100000 in
theorem ok_lf : ((List.range' 700 107).all (okB 155)) = true := by decide +kernel
