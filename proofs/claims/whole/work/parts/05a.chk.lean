set_option maxRecDepth 100000 in
theorem ok_6 : ((List.range' 60 10).all fun m => (List.range (szT m)).all (okB m)) = true := by decide +kernel
set_option maxRecDepth 100000 in
theorem ok_7 : ((List.range' 70 10).all fun m => (List.range (szT m)).all (okB m)) = true := by decide +kernel
set_option maxRecDepth 100000 in
theorem ok_8 : ((List.range' 80 10).all fun m => (List.range (szT m)).all (okB m)) = true := by decide +kernel
set_option maxRecDepth 100000 in
theorem ok_9 : ((List.range' 90 10).all fun m => (List.range (szT m)).all (okB m)) = true := by decide +kernel
set_option maxRecDepth 100000 in
theorem ok_10 : ((List.range' 100 10).all fun m => (List.range (szT m)).all (okB m)) = true := by decide +kernel
