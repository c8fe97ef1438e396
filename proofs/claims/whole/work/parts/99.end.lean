theorem zz_test : lw_tbl.length = lw_tbl.length := rfl
