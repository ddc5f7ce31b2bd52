/-! tables, more of them (written by wip/whole/gen1.py) -/
set_option maxRecDepth 100000 in
theorem zzMp_8 : (([335, 342, 411, 415, 419] : List Nat).map fun i => lw_tbl[i]?) = (zzMs_8).map fun r => some (Jvm.Cond.code r.1 r.2.1 r.2.2.1 r.2.2.2.1) := by decide +kernel
set_option maxRecDepth 100000 in
theorem zzMp_9 : (([432, 436, 440, 423, 407] : List Nat).map fun i => lw_tbl[i]?) = (zzMs_9).map fun r => some (Jvm.Cond.code r.1 r.2.1 r.2.2.1 r.2.2.2.1) := by decide +kernel
set_option maxRecDepth 100000 in
theorem zzMp_10 : (([392, 350, 367, 386, 370] : List Nat).map fun i => lw_tbl[i]?) = (zzMs_10).map fun r => some (Jvm.Cond.code r.1 r.2.1 r.2.2.1 r.2.2.2.1) := by decide +kernel
set_option maxRecDepth 100000 in
theorem zzMp_11 : (([399, 403, 354, 360, 363] : List Nat).map fun i => lw_tbl[i]?) = (zzMs_11).map fun r => some (Jvm.Cond.code r.1 r.2.1 r.2.2.1 r.2.2.2.1) := by decide +kernel
set_option maxRecDepth 100000 in
theorem zzMp_12 : (([395, 209, 651, 657, 662] : List Nat).map fun i => lw_tbl[i]?) = (zzMs_12).map fun r => some (Jvm.Cond.code r.1 r.2.1 r.2.2.1 r.2.2.2.1) := by decide +kernel
set_option maxRecDepth 100000 in
theorem zzMp_13 : (([667, 671, 267, 837, 736] : List Nat).map fun i => lw_tbl[i]?) = (zzMs_13).map fun r => some (Jvm.Cond.code r.1 r.2.1 r.2.2.1 r.2.2.2.1) := by decide +kernel
set_option maxRecDepth 100000 in
theorem zzMp_14 : (([886, 894, 740, 842, 103] : List Nat).map fun i => lw_tbl[i]?) = (zzMs_14).map fun r => some (Jvm.Cond.code r.1 r.2.1 r.2.2.1 r.2.2.2.1) := by decide +kernel
set_option maxRecDepth 100000 in
theorem zzMp_15 : (([346, 427, 444, 448, 570] : List Nat).map fun i => lw_tbl[i]?) = (zzMs_15).map fun r => some (Jvm.Cond.code r.1 r.2.1 r.2.2.1 r.2.2.2.1) := by decide +kernel
