/-! tables, more of them (written by wip/whole/gen1.py) -/
set_option maxRecDepth 100000 in
theorem zzMp_16 : (([573, 95, 478, 482, 497] : List Nat).map fun i => lw_tbl[i]?) = (zzMs_16).map fun r => some (Jvm.Cond.code r.1 r.2.1 r.2.2.1 r.2.2.2.1) := by decide +kernel
set_option maxRecDepth 100000 in
theorem zzMp_17 : (([506, 523, 602, 606, 610] : List Nat).map fun i => lw_tbl[i]?) = (zzMs_17).map fun r => some (Jvm.Cond.code r.1 r.2.1 r.2.2.1 r.2.2.2.1) := by decide +kernel
set_option maxRecDepth 100000 in
theorem zzMp_18 : (([614, 618, 643, 646, 674] : List Nat).map fun i => lw_tbl[i]?) = (zzMs_18).map fun r => some (Jvm.Cond.code r.1 r.2.1 r.2.2.1 r.2.2.2.1) := by decide +kernel
set_option maxRecDepth 100000 in
theorem zzMp_19 : (([699, 713, 723, 782, 798] : List Nat).map fun i => lw_tbl[i]?) = (zzMs_19).map fun r => some (Jvm.Cond.code r.1 r.2.1 r.2.2.1 r.2.2.2.1) := by decide +kernel
set_option maxRecDepth 100000 in
theorem zzMp_20 : (([677, 685, 704, 794, 802] : List Nat).map fun i => lw_tbl[i]?) = (zzMs_20).map fun r => some (Jvm.Cond.code r.1 r.2.1 r.2.2.1 r.2.2.2.1) := by decide +kernel
set_option maxRecDepth 100000 in
theorem zzMp_21 : (([820, 824, 828, 807, 816] : List Nat).map fun i => lw_tbl[i]?) = (zzMs_21).map fun r => some (Jvm.Cond.code r.1 r.2.1 r.2.2.1 r.2.2.2.1) := by decide +kernel
set_option maxRecDepth 100000 in
theorem zzMp_22 : (([832, 846, 852, 857, 861] : List Nat).map fun i => lw_tbl[i]?) = (zzMs_22).map fun r => some (Jvm.Cond.code r.1 r.2.1 r.2.2.1 r.2.2.2.1) := by decide +kernel
set_option maxRecDepth 100000 in
theorem zzMp_23 : (([865, 869, 877, 881, 889] : List Nat).map fun i => lw_tbl[i]?) = (zzMs_23).map fun r => some (Jvm.Cond.code r.1 r.2.1 r.2.2.1 r.2.2.2.1) := by decide +kernel
