/-! tables, more of them (written by wip/whole/gen1.py) -/
set_option maxRecDepth 100000 in
theorem zzMp_16 : (([574, 95, 481, 485, 498] : List Nat).map fun i => lw_tbl[i]?) = (zzMs_16).map fun r => some (Jvm.Cond.code r.1 r.2.1 r.2.2.1 r.2.2.2.1) := by decide +kernel
set_option maxRecDepth 100000 in
theorem zzMp_17 : (([507, 524, 603, 607, 611] : List Nat).map fun i => lw_tbl[i]?) = (zzMs_17).map fun r => some (Jvm.Cond.code r.1 r.2.1 r.2.2.1 r.2.2.2.1) := by decide +kernel
set_option maxRecDepth 100000 in
theorem zzMp_18 : (([615, 619, 644, 647, 675] : List Nat).map fun i => lw_tbl[i]?) = (zzMs_18).map fun r => some (Jvm.Cond.code r.1 r.2.1 r.2.2.1 r.2.2.2.1) := by decide +kernel
set_option maxRecDepth 100000 in
theorem zzMp_19 : (([700, 714, 724, 783, 799] : List Nat).map fun i => lw_tbl[i]?) = (zzMs_19).map fun r => some (Jvm.Cond.code r.1 r.2.1 r.2.2.1 r.2.2.2.1) := by decide +kernel
set_option maxRecDepth 100000 in
theorem zzMp_20 : (([678, 686, 705, 795, 803] : List Nat).map fun i => lw_tbl[i]?) = (zzMs_20).map fun r => some (Jvm.Cond.code r.1 r.2.1 r.2.2.1 r.2.2.2.1) := by decide +kernel
set_option maxRecDepth 100000 in
theorem zzMp_21 : (([821, 825, 829, 808, 817] : List Nat).map fun i => lw_tbl[i]?) = (zzMs_21).map fun r => some (Jvm.Cond.code r.1 r.2.1 r.2.2.1 r.2.2.2.1) := by decide +kernel
set_option maxRecDepth 100000 in
theorem zzMp_22 : (([833, 847, 853, 858, 862] : List Nat).map fun i => lw_tbl[i]?) = (zzMs_22).map fun r => some (Jvm.Cond.code r.1 r.2.1 r.2.2.1 r.2.2.2.1) := by decide +kernel
set_option maxRecDepth 100000 in
theorem zzMp_23 : (([866, 870, 878, 882, 890] : List Nat).map fun i => lw_tbl[i]?) = (zzMs_23).map fun r => some (Jvm.Cond.code r.1 r.2.1 r.2.2.1 r.2.2.2.1) := by decide +kernel
