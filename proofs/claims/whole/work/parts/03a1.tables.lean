/-! tables, more of them (written by wip/whole/gen1.py) -/
set_option maxRecDepth 100000 in
theorem zzMp_0 : (([156, 690, 489, 502, 537] : List Nat).map fun i => lw_tbl[i]?) = (zzMs_0).map fun r => some (Jvm.Cond.code r.1 r.2.1 r.2.2.1 r.2.2.2.1) := by decide +kernel
set_option maxRecDepth 100000 in
theorem zzMp_1 : (([528, 533, 515, 545, 511] : List Nat).map fun i => lw_tbl[i]?) = (zzMs_1).map fun r => some (Jvm.Cond.code r.1 r.2.1 r.2.2.1 r.2.2.2.1) := by decide +kernel
set_option maxRecDepth 100000 in
theorem zzMp_2 : (([682, 519, 709, 791, 787] : List Nat).map fun i => lw_tbl[i]?) = (zzMs_2).map fun r => some (Jvm.Cond.code r.1 r.2.1 r.2.2.1 r.2.2.2.1) := by decide +kernel
set_option maxRecDepth 100000 in
theorem zzMp_3 : (([718, 566, 554, 582, 586] : List Nat).map fun i => lw_tbl[i]?) = (zzMs_3).map fun r => some (Jvm.Cond.code r.1 r.2.1 r.2.2.1 r.2.2.2.1) := by decide +kernel
set_option maxRecDepth 100000 in
theorem zzMp_4 : (([549, 541, 594, 632, 623] : List Nat).map fun i => lw_tbl[i]?) = (zzMs_4).map fun r => some (Jvm.Cond.code r.1 r.2.1 r.2.2.1 r.2.2.2.1) := by decide +kernel
set_option maxRecDepth 100000 in
theorem zzMp_5 : (([628, 874, 639, 812, 239] : List Nat).map fun i => lw_tbl[i]?) = (zzMs_5).map fun r => some (Jvm.Cond.code r.1 r.2.1 r.2.2.1 r.2.2.2.1) := by decide +kernel
set_option maxRecDepth 100000 in
theorem zzMp_6 : (([732, 746, 751, 757, 761] : List Nat).map fun i => lw_tbl[i]?) = (zzMs_6).map fun r => some (Jvm.Cond.code r.1 r.2.1 r.2.2.1 r.2.2.2.1) := by decide +kernel
set_option maxRecDepth 100000 in
theorem zzMp_7 : (([765, 771, 775, 779, 127] : List Nat).map fun i => lw_tbl[i]?) = (zzMs_7).map fun r => some (Jvm.Cond.code r.1 r.2.1 r.2.2.1 r.2.2.2.1) := by decide +kernel
