theorem tv_allgood : lw_tbl.all goodWord = true := by decide +kernel
theorem tv_w23 : tables_1[23]? = some (Cond.instantiable "TiedViews" 10) := by decide +kernel
