set_option maxRecDepth 100000 in
theorem ok_11 : ((List.range' 110 10).all fun m => (List.range (szT m)).all (okB m)) = true := by decide +kernel
set_option maxRecDepth 100000 in
theorem ok_12 : ((List.range' 120 10).all fun m => (List.range (szT m)).all (okB m)) = true := by decide +kernel
set_option maxRecDepth 100000 in
theorem ok_13 : ((List.range' 130 10).all fun m => (List.range (szT m)).all (okB m)) = true := by decide +kernel
set_option maxRecDepth 100000 in
theorem ok_14 : ((List.range' 140 10).all fun m => (List.range (szT m)).all (okB m)) = true := by decide +kernel
set_option maxRecDepth 100000 in
theorem ok_15 : ((List.range' 150 5).all fun m => (List.range (szT m)).all (okB m)) = true := by decide +kernel
