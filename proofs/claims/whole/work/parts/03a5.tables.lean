/-! tables, more of them (written by wip/whole/gen1.py) -/
set_option maxRecDepth 100000 in
theorem zzMp_32 : (([1185, 1181, 1173, 1169, 1165] : List Nat).map fun i => lw_tbl[i]?) = (zzMs_32).map fun r => some (Jvm.Cond.code r.1 r.2.1 r.2.2.1 r.2.2.2.1) := by decide +kernel
set_option maxRecDepth 100000 in
theorem zzMp_33 : (([1157, 1132, 1241, 1245, 1112] : List Nat).map fun i => lw_tbl[i]?) = (zzMs_33).map fun r => some (Jvm.Cond.code r.1 r.2.1 r.2.2.1 r.2.2.2.1) := by decide +kernel
set_option maxRecDepth 100000 in
theorem zzMp_34 : (([1124, 1116, 1108, 1128, 1120] : List Nat).map fun i => lw_tbl[i]?) = (zzMs_34).map fun r => some (Jvm.Cond.code r.1 r.2.1 r.2.2.1 r.2.2.2.1) := by decide +kernel
set_option maxRecDepth 100000 in
theorem zzMp_35 : (([1104, 1206, 1263, 1255, 1259] : List Nat).map fun i => lw_tbl[i]?) = (zzMs_35).map fun r => some (Jvm.Cond.code r.1 r.2.1 r.2.2.1 r.2.2.2.1) := by decide +kernel
set_option maxRecDepth 100000 in
theorem zzMp_36 : (([1249, 1272, 1267, 1276, 1288] : List Nat).map fun i => lw_tbl[i]?) = (zzMs_36).map fun r => some (Jvm.Cond.code r.1 r.2.1 r.2.2.1 r.2.2.2.1) := by decide +kernel
set_option maxRecDepth 100000 in
theorem zzMp_37 : (([1284, 1280, 1296, 1292, 1307] : List Nat).map fun i => lw_tbl[i]?) = (zzMs_37).map fun r => some (Jvm.Cond.code r.1 r.2.1 r.2.2.1 r.2.2.2.1) := by decide +kernel
set_option maxRecDepth 100000 in
theorem zzMp_38 : (([1316, 1312, 1320, 1300, 1324] : List Nat).map fun i => lw_tbl[i]?) = (zzMs_38).map fun r => some (Jvm.Cond.code r.1 r.2.1 r.2.2.1 r.2.2.2.1) := by decide +kernel
set_option maxRecDepth 100000 in
theorem zzMp_39 : (([1328, 1337, 1341, 1332, 1345] : List Nat).map fun i => lw_tbl[i]?) = (zzMs_39).map fun r => some (Jvm.Cond.code r.1 r.2.1 r.2.2.1 r.2.2.2.1) := by decide +kernel
