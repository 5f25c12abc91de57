theorem lsw_n2 {x c : Int32} (v : Int) (h : ¬ x = c) (hv : c.toInt = v) : ¬ v = x.toInt := fun e => h (Int32.toInt_inj.mp (e.symm.trans hv.symm))
