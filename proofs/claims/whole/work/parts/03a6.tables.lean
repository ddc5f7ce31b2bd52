/-! tables, more of them (written by wip/whole/gen1.py) -/
set_option maxRecDepth 100000 in
theorem zzMp_40 : (([1358, 1354, 1363, 1369, 1373] : List Nat).map fun i => lw_tbl[i]?) = (zzMs_40).map fun r => some (Jvm.Cond.code r.1 r.2.1 r.2.2.1 r.2.2.2.1) := by decide +kernel
set_option maxRecDepth 100000 in
theorem zzMp_41 : (([1377, 1303, 1349, 1383, 1387] : List Nat).map fun i => lw_tbl[i]?) = (zzMs_41).map fun r => some (Jvm.Cond.code r.1 r.2.1 r.2.2.1 r.2.2.2.1) := by decide +kernel
set_option maxRecDepth 100000 in
theorem zzMp_42 : (([1391, 1400, 1397] : List Nat).map fun i => lw_tbl[i]?) = (zzMs_42).map fun r => some (Jvm.Cond.code r.1 r.2.1 r.2.2.1 r.2.2.2.1) := by decide +kernel
