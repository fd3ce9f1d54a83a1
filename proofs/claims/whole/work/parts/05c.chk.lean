set_option maxRecDepth 100000 in
theorem ok_la : ((List.range' 0 250).all (okB 155)) = true := by decide +kernel
set_option maxRecDepth 100000 in
theorem ok_lb : ((List.range' 250 150).all (okB 155)) = true := by decide +kernel
set_option maxRecDepth 100000 in
theorem ok_lc : ((List.range' 400 100).all (okB 155)) = true := by decide +kernel
