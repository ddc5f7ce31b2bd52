/-! tables, more of them (written by wip/whole/gen1.py) -/
set_option maxRecDepth 100000 in
theorem zzMp_24 : (([898, 904, 907, 910, 728] : List Nat).map fun i => lw_tbl[i]?) = (zzMs_24).map fun r => some (Jvm.Cond.code r.1 r.2.1 r.2.2.1 r.2.2.2.1) := by decide +kernel
set_option maxRecDepth 100000 in
theorem zzMp_25 : (([357, 338, 492, 160, 693] : List Nat).map fun i => lw_tbl[i]?) = (zzMs_25).map fun r => some (Jvm.Cond.code r.1 r.2.1 r.2.2.1 r.2.2.2.1) := by decide +kernel
set_option maxRecDepth 100000 in
theorem zzMp_26 : (([557, 561, 590, 597, 635] : List Nat).map fun i => lw_tbl[i]?) = (zzMs_26).map fun r => some (Jvm.Cond.code r.1 r.2.1 r.2.2.1 r.2.2.2.1) := by decide +kernel
set_option maxRecDepth 100000 in
theorem zzMp_27 : (([577, 1085, 1202, 915, 920] : List Nat).map fun i => lw_tbl[i]?) = (zzMs_27).map fun r => some (Jvm.Cond.code r.1 r.2.1 r.2.2.1 r.2.2.2.1) := by decide +kernel
set_option maxRecDepth 100000 in
theorem zzMp_28 : (([1089, 1222, 1093, 1081, 1210] : List Nat).map fun i => lw_tbl[i]?) = (zzMs_28).map fun r => some (Jvm.Cond.code r.1 r.2.1 r.2.2.1 r.2.2.2.1) := by decide +kernel
set_option maxRecDepth 100000 in
theorem zzMp_29 : (([1214, 1227, 1219, 1100, 1232] : List Nat).map fun i => lw_tbl[i]?) = (zzMs_29).map fun r => some (Jvm.Cond.code r.1 r.2.1 r.2.2.1 r.2.2.2.1) := by decide +kernel
set_option maxRecDepth 100000 in
theorem zzMp_30 : (([1236, 1140, 1136, 1161, 1153] : List Nat).map fun i => lw_tbl[i]?) = (zzMs_30).map fun r => some (Jvm.Cond.code r.1 r.2.1 r.2.2.1 r.2.2.2.1) := by decide +kernel
set_option maxRecDepth 100000 in
theorem zzMp_31 : (([1149, 1193, 1177, 1197, 1189] : List Nat).map fun i => lw_tbl[i]?) = (zzMs_31).map fun r => some (Jvm.Cond.code r.1 r.2.1 r.2.2.1 r.2.2.2.1) := by decide +kernel
