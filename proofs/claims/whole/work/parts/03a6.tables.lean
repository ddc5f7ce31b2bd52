/-! tables, more of them (written by wip/whole/gen1.py) -/
set_option maxRecDepth 100000 in
theorem zzMp_40 : (([1357, 1353, 1362, 1368, 1372] : List Nat).map fun i => lw_tbl[i]?) = (zzMs_40).map fun r => some (Jvm.Cond.code r.1 r.2.1 r.2.2.1 r.2.2.2.1) := by decide +kernel
set_option maxRecDepth 100000 in
theorem zzMp_41 : (([1376, 1302, 1348, 1382, 1386] : List Nat).map fun i => lw_tbl[i]?) = (zzMs_41).map fun r => some (Jvm.Cond.code r.1 r.2.1 r.2.2.1 r.2.2.2.1) := by decide +kernel
set_option maxRecDepth 100000 in
theorem zzMp_42 : (([1390, 1399, 1396] : List Nat).map fun i => lw_tbl[i]?) = (zzMs_42).map fun r => some (Jvm.Cond.code r.1 r.2.1 r.2.2.1 r.2.2.2.1) := by decide +kernel
