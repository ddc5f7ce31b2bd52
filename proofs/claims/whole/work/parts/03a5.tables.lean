/-! tables, more of them (written by wip/whole/gen1.py) -/
set_option maxRecDepth 100000 in
theorem zzMp_32 : (([1184, 1180, 1172, 1168, 1164] : List Nat).map fun i => lw_tbl[i]?) = (zzMs_32).map fun r => some (Jvm.Cond.code r.1 r.2.1 r.2.2.1 r.2.2.2.1) := by decide +kernel
set_option maxRecDepth 100000 in
theorem zzMp_33 : (([1156, 1131, 1240, 1244, 1111] : List Nat).map fun i => lw_tbl[i]?) = (zzMs_33).map fun r => some (Jvm.Cond.code r.1 r.2.1 r.2.2.1 r.2.2.2.1) := by decide +kernel
set_option maxRecDepth 100000 in
theorem zzMp_34 : (([1123, 1115, 1107, 1127, 1119] : List Nat).map fun i => lw_tbl[i]?) = (zzMs_34).map fun r => some (Jvm.Cond.code r.1 r.2.1 r.2.2.1 r.2.2.2.1) := by decide +kernel
set_option maxRecDepth 100000 in
theorem zzMp_35 : (([1103, 1205, 1262, 1254, 1258] : List Nat).map fun i => lw_tbl[i]?) = (zzMs_35).map fun r => some (Jvm.Cond.code r.1 r.2.1 r.2.2.1 r.2.2.2.1) := by decide +kernel
set_option maxRecDepth 100000 in
theorem zzMp_36 : (([1248, 1271, 1266, 1275, 1287] : List Nat).map fun i => lw_tbl[i]?) = (zzMs_36).map fun r => some (Jvm.Cond.code r.1 r.2.1 r.2.2.1 r.2.2.2.1) := by decide +kernel
set_option maxRecDepth 100000 in
theorem zzMp_37 : (([1283, 1279, 1295, 1291, 1306] : List Nat).map fun i => lw_tbl[i]?) = (zzMs_37).map fun r => some (Jvm.Cond.code r.1 r.2.1 r.2.2.1 r.2.2.2.1) := by decide +kernel
set_option maxRecDepth 100000 in
theorem zzMp_38 : (([1315, 1311, 1319, 1299, 1323] : List Nat).map fun i => lw_tbl[i]?) = (zzMs_38).map fun r => some (Jvm.Cond.code r.1 r.2.1 r.2.2.1 r.2.2.2.1) := by decide +kernel
set_option maxRecDepth 100000 in
theorem zzMp_39 : (([1327, 1336, 1340, 1331, 1344] : List Nat).map fun i => lw_tbl[i]?) = (zzMs_39).map fun r => some (Jvm.Cond.code r.1 r.2.1 r.2.2.1 r.2.2.2.1) := by decide +kernel
