theorem kc_minl : Cond.code Lib.MathLoose.min_long.x Lib.MathLoose.min_long.code 4 (some .long) ∈ lw_tbl := List.mem_of_getElem? (i := 1362) (by decide +kernel)
theorem ki_minl : Cond.static Lib.MathLoose.min_long.x ∈ lw_tbl := List.mem_of_getElem? (i := 1361) (by decide +kernel)
theorem klX12_490m : Cond.methodLink RX12 490 Lib.MathLoose.min_long.x ∈ lw_tbl := List.mem_of_getElem? (i := 1360) (by decide +kernel)
