/-! tables, more of them (written by wip/whole/gen1.py) -/
set_option maxRecDepth 100000 in
theorem zzMp_0 : (([156, 689, 486, 501, 536] : List Nat).map fun i => lw_tbl[i]?) = (zzMs_0).map fun r => some (Jvm.Cond.code r.1 r.2.1 r.2.2.1 r.2.2.2.1) := by decide +kernel
set_option maxRecDepth 100000 in
theorem zzMp_1 : (([527, 532, 514, 544, 510] : List Nat).map fun i => lw_tbl[i]?) = (zzMs_1).map fun r => some (Jvm.Cond.code r.1 r.2.1 r.2.2.1 r.2.2.2.1) := by decide +kernel
set_option maxRecDepth 100000 in
theorem zzMp_2 : (([681, 518, 708, 790, 786] : List Nat).map fun i => lw_tbl[i]?) = (zzMs_2).map fun r => some (Jvm.Cond.code r.1 r.2.1 r.2.2.1 r.2.2.2.1) := by decide +kernel
set_option maxRecDepth 100000 in
theorem zzMp_3 : (([717, 565, 553, 581, 585] : List Nat).map fun i => lw_tbl[i]?) = (zzMs_3).map fun r => some (Jvm.Cond.code r.1 r.2.1 r.2.2.1 r.2.2.2.1) := by decide +kernel
set_option maxRecDepth 100000 in
theorem zzMp_4 : (([548, 540, 593, 631, 622] : List Nat).map fun i => lw_tbl[i]?) = (zzMs_4).map fun r => some (Jvm.Cond.code r.1 r.2.1 r.2.2.1 r.2.2.2.1) := by decide +kernel
set_option maxRecDepth 100000 in
theorem zzMp_5 : (([627, 873, 638, 811, 239] : List Nat).map fun i => lw_tbl[i]?) = (zzMs_5).map fun r => some (Jvm.Cond.code r.1 r.2.1 r.2.2.1 r.2.2.2.1) := by decide +kernel
set_option maxRecDepth 100000 in
theorem zzMp_6 : (([731, 745, 750, 756, 760] : List Nat).map fun i => lw_tbl[i]?) = (zzMs_6).map fun r => some (Jvm.Cond.code r.1 r.2.1 r.2.2.1 r.2.2.2.1) := by decide +kernel
set_option maxRecDepth 100000 in
theorem zzMp_7 : (([764, 770, 774, 778, 127] : List Nat).map fun i => lw_tbl[i]?) = (zzMs_7).map fun r => some (Jvm.Cond.code r.1 r.2.1 r.2.2.1 r.2.2.2.1) := by decide +kernel
