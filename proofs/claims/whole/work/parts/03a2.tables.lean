/-! tables, more of them (written by wip/whole/gen1.py) -/
set_option maxRecDepth 100000 in
theorem zzMp_8 : (([335, 342, 408, 412, 416] : List Nat).map fun i => lw_tbl[i]?) = (zzMs_8).map fun r => some (Jvm.Cond.code r.1 r.2.1 r.2.2.1 r.2.2.2.1) := by decide +kernel
set_option maxRecDepth 100000 in
theorem zzMp_9 : (([429, 433, 437, 420, 404] : List Nat).map fun i => lw_tbl[i]?) = (zzMs_9).map fun r => some (Jvm.Cond.code r.1 r.2.1 r.2.2.1 r.2.2.2.1) := by decide +kernel
set_option maxRecDepth 100000 in
theorem zzMp_10 : (([389, 350, 364, 383, 367] : List Nat).map fun i => lw_tbl[i]?) = (zzMs_10).map fun r => some (Jvm.Cond.code r.1 r.2.1 r.2.2.1 r.2.2.2.1) := by decide +kernel
set_option maxRecDepth 100000 in
theorem zzMp_11 : (([396, 400, 354, 357, 360] : List Nat).map fun i => lw_tbl[i]?) = (zzMs_11).map fun r => some (Jvm.Cond.code r.1 r.2.1 r.2.2.1 r.2.2.2.1) := by decide +kernel
set_option maxRecDepth 100000 in
theorem zzMp_12 : (([392, 209, 650, 656, 661] : List Nat).map fun i => lw_tbl[i]?) = (zzMs_12).map fun r => some (Jvm.Cond.code r.1 r.2.1 r.2.2.1 r.2.2.2.1) := by decide +kernel
set_option maxRecDepth 100000 in
theorem zzMp_13 : (([666, 670, 267, 836, 735] : List Nat).map fun i => lw_tbl[i]?) = (zzMs_13).map fun r => some (Jvm.Cond.code r.1 r.2.1 r.2.2.1 r.2.2.2.1) := by decide +kernel
set_option maxRecDepth 100000 in
theorem zzMp_14 : (([885, 893, 739, 841, 103] : List Nat).map fun i => lw_tbl[i]?) = (zzMs_14).map fun r => some (Jvm.Cond.code r.1 r.2.1 r.2.2.1 r.2.2.2.1) := by decide +kernel
set_option maxRecDepth 100000 in
theorem zzMp_15 : (([346, 424, 441, 445, 569] : List Nat).map fun i => lw_tbl[i]?) = (zzMs_15).map fun r => some (Jvm.Cond.code r.1 r.2.1 r.2.2.1 r.2.2.2.1) := by decide +kernel
