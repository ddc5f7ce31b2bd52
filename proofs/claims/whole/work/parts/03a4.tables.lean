/-! tables, more of them (written by wip/whole/gen1.py) -/
set_option maxRecDepth 100000 in
theorem zzMp_24 : (([897, 903, 906, 909, 727] : List Nat).map fun i => lw_tbl[i]?) = (zzMs_24).map fun r => some (Jvm.Cond.code r.1 r.2.1 r.2.2.1 r.2.2.2.1) := by decide +kernel
set_option maxRecDepth 100000 in
theorem zzMp_25 : (([492, 338, 489, 160, 692] : List Nat).map fun i => lw_tbl[i]?) = (zzMs_25).map fun r => some (Jvm.Cond.code r.1 r.2.1 r.2.2.1 r.2.2.2.1) := by decide +kernel
set_option maxRecDepth 100000 in
theorem zzMp_26 : (([556, 560, 589, 596, 634] : List Nat).map fun i => lw_tbl[i]?) = (zzMs_26).map fun r => some (Jvm.Cond.code r.1 r.2.1 r.2.2.1 r.2.2.2.1) := by decide +kernel
set_option maxRecDepth 100000 in
theorem zzMp_27 : (([576, 1084, 1201, 914, 919] : List Nat).map fun i => lw_tbl[i]?) = (zzMs_27).map fun r => some (Jvm.Cond.code r.1 r.2.1 r.2.2.1 r.2.2.2.1) := by decide +kernel
set_option maxRecDepth 100000 in
theorem zzMp_28 : (([1088, 1221, 1092, 1080, 1209] : List Nat).map fun i => lw_tbl[i]?) = (zzMs_28).map fun r => some (Jvm.Cond.code r.1 r.2.1 r.2.2.1 r.2.2.2.1) := by decide +kernel
set_option maxRecDepth 100000 in
theorem zzMp_29 : (([1213, 1226, 1218, 1099, 1231] : List Nat).map fun i => lw_tbl[i]?) = (zzMs_29).map fun r => some (Jvm.Cond.code r.1 r.2.1 r.2.2.1 r.2.2.2.1) := by decide +kernel
set_option maxRecDepth 100000 in
theorem zzMp_30 : (([1235, 1139, 1135, 1160, 1152] : List Nat).map fun i => lw_tbl[i]?) = (zzMs_30).map fun r => some (Jvm.Cond.code r.1 r.2.1 r.2.2.1 r.2.2.2.1) := by decide +kernel
set_option maxRecDepth 100000 in
theorem zzMp_31 : (([1148, 1192, 1176, 1196, 1188] : List Nat).map fun i => lw_tbl[i]?) = (zzMs_31).map fun r => some (Jvm.Cond.code r.1 r.2.1 r.2.2.1 r.2.2.2.1) := by decide +kernel
