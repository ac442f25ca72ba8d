/-! what an instruction of the real code is in the clean machine -/
def zfl (c i : Nat) : Option (Nat × Nat) := (zFL.find? (fun e => e.1 == c && e.2.1 == i)).map (fun e => e.2.2)
def zmlk (c i : Nat) : Option (Nat × Nat × Nat) := (zML.find? (fun e => e.1 == c && e.2.1 == i)).map (fun e => e.2.2)
def zckl (c i : Nat) : Option Nat := (zCK.find? (fun e => e.1 == c && e.2.1 == i)).map (fun e => e.2.2)
def zcil (c i : Nat) : Option Int := (zCI.find? (fun e => e.1 == c && e.2.1 == i)).map (fun e => e.2.2)
def zcjl (c i : Nat) : Option Int := (zCJ.find? (fun e => e.1 == c && e.2.1 == i)).map (fun e => e.2.2)
def zjmp (op pc len : Nat) (off : Int) : zI := if 0 ≤ (pc : Int) + off then (op, pc + len, [((pc : Int) + off).toNat], 0) else zno
def zinv (c pc i kd1 kd2 : Nat) : zI := match zmlk c i with
  | some (k', na, kd) => if kd = kd1 ∨ kd = kd2 then (34, pc + 3, [k', na, kd], 0) else zno
  | none => zno
def ztr (c rt : Nat) (ini : Bool) (cc : ByteArray) (pc : Nat) : zI := match decode cc pc with
  | .ok (.iconst v, 1) => (if -1 ≤ v ∧ v ≤ 5 then (0, pc + 1, [], v) else zno)
  | .ok (.bipush v, 2) => (if -128 ≤ v ∧ v ≤ 127 then (0, pc + 2, [], v) else zno)
  | .ok (.sipush v, 3) => (if -32768 ≤ v ∧ v ≤ 32767 then (0, pc + 3, [], v) else zno)
  | .ok (.ldc i, 2) => (match zcil c i with | some v => (0, pc + 2, [], v) | none => zno)
  | .ok (.ldc_w i, 3) => (match zcil c i with | some v => (0, pc + 3, [], v) | none => zno)
  | .ok (.ldc2_w i, 3) => (match zcjl c i with | some v => (1, pc + 3, [], v) | none => zno)
  | .ok (.lconst v, 1) => (1, pc + 1, [], ((v : Nat) : Int))
  | .ok (.iload i, 2) => (2, pc + 2, [i], 0)
  | .ok (.iload_n i, 1) => (2, pc + 1, [(i : Nat)], 0)
  | .ok (.lload i, 2) => (3, pc + 2, [i], 0)
  | .ok (.lload_n i, 1) => (3, pc + 1, [(i : Nat)], 0)
  | .ok (.aload i, 2) => (4, pc + 2, [i], 0)
  | .ok (.aload_n i, 1) => (4, pc + 1, [(i : Nat)], 0)
  | .ok (.istore i, 2) => (5, pc + 2, [i], 0)
  | .ok (.istore_n i, 1) => (5, pc + 1, [(i : Nat)], 0)
  | .ok (.lstore i, 2) => (6, pc + 2, [i], 0)
  | .ok (.lstore_n i, 1) => (6, pc + 1, [(i : Nat)], 0)
  | .ok (.astore i, 2) => (7, pc + 2, [i], 0)
  | .ok (.astore_n i, 1) => (7, pc + 1, [(i : Nat)], 0)
  | .ok (.iinc i v, 3) => (if -128 ≤ v ∧ v ≤ 127 then (8, pc + 3, [i], v) else zno)
  | .ok (.iadd, 1) => (50, pc + 1, [], 0)
  | .ok (.isub, 1) => (51, pc + 1, [], 0)
  | .ok (.imul, 1) => (52, pc + 1, [], 0)
  | .ok (.iand, 1) => (53, pc + 1, [], 0)
  | .ok (.ior, 1) => (54, pc + 1, [], 0)
  | .ok (.ixor, 1) => (55, pc + 1, [], 0)
  | .ok (.ishl, 1) => (56, pc + 1, [], 0)
  | .ok (.ishr, 1) => (57, pc + 1, [], 0)
  | .ok (.iushr, 1) => (58, pc + 1, [], 0)
  | .ok (.ladd, 1) => (60, pc + 1, [], 0)
  | .ok (.lsub, 1) => (61, pc + 1, [], 0)
  | .ok (.lmul, 1) => (62, pc + 1, [], 0)
  | .ok (.ineg, 1) => (11, pc + 1, [], 0)
  | .ok (.i2l, 1) => (12, pc + 1, [], 0)
  | .ok (.lcmp, 1) => (13, pc + 1, [], 0)
  | .ok (.dup, 1) => (18, pc + 1, [], 0)
  | .ok (.dup2, 1) => (19, pc + 1, [], 0)
  | .ok (.pop, 1) => (20, pc + 1, [], 0)
  | .ok (.iaload, 1) => (26, pc + 1, [], 0)
  | .ok (.iastore, 1) => (27, pc + 1, [], 0)
  | .ok (.aaload, 1) => (28, pc + 1, [], 0)
  | .ok (.aastore, 1) => (29, pc + 1, [], 0)
  | .ok (.arraylength, 1) => (30, pc + 1, [], 0)
  | .ok (.if_icmp .eq off, 3) => zjmp 70 pc 3 off
  | .ok (.ifCond .eq off, 3) => zjmp 80 pc 3 off
  | .ok (.if_icmp .ne off, 3) => zjmp 71 pc 3 off
  | .ok (.ifCond .ne off, 3) => zjmp 81 pc 3 off
  | .ok (.if_icmp .lt off, 3) => zjmp 72 pc 3 off
  | .ok (.ifCond .lt off, 3) => zjmp 82 pc 3 off
  | .ok (.if_icmp .ge off, 3) => zjmp 73 pc 3 off
  | .ok (.ifCond .ge off, 3) => zjmp 83 pc 3 off
  | .ok (.if_icmp .gt off, 3) => zjmp 74 pc 3 off
  | .ok (.ifCond .gt off, 3) => zjmp 84 pc 3 off
  | .ok (.if_icmp .le off, 3) => zjmp 75 pc 3 off
  | .ok (.ifCond .le off, 3) => zjmp 85 pc 3 off
  | .ok (.ifnull off, 3) => zjmp 16 pc 3 off
  | .ok (.goto off, 3) => zjmp 17 pc 3 off
  | .ok (.getfield i, 3) => (match zfl c i with | some (ci, fk) => (21, pc + 3, [ci, fk], 0) | none => zno)
  | .ok (.putfield i, 3) => (match zfl c i with | some (ci, fk) => (if (zfin ci fk && !(ini && ci == c)) = true then zno else if zft ci fk = 1 then (24, pc + 3, [ci, fk], 0) else if zft ci fk = 2 then (25, pc + 3, [ci, fk], 0) else if zboo ci fk = true then (23, pc + 3, [ci, fk], 0) else (22, pc + 3, [ci, fk], 0)) | none => zno)
  | .ok (.new i, 3) => (match zckl c i with | some ci => (31, pc + 3, [ci], 0) | none => zno)
  | .ok (.newarray .int, 2) => (32, pc + 2, [], 0)
  | .ok (.anewarray i, 3) => (if zckl c i = some 1 then (33, pc + 3, [], 0) else zno)
  | .ok (.invokevirtual i, 3) => zinv c pc i 0 0
  | .ok (.invokestatic i, 3) => (if (c, i) ∈ zAC then (40, pc + 3, [], 0) else if (c, i) ∈ zAB then (42, pc + 3, [], 0) else zinv c pc i 1 4)
  | .ok (.invokespecial i, 3) => (if (c, i) ∈ zOI then (41, pc + 3, [], 0) else zinv c pc i 2 3)
  | .ok (.ireturn, 1) => (if rt = 3 then (36, 0, [], 0) else if rt = 0 then (35, 0, [], 0) else zno)
  | .ok (.lreturn, 1) => (if rt = 1 then (37, 0, [], 0) else zno)
  | .ok (.return_, 1) => (if rt = 2 then (38, 0, [], 0) else zno)
  | .ok (.tableswitch d lo hi offs, _) => (if 0 ≤ (pc : Int) + d ∧ lo ≤ hi ∧ -2147483648 ≤ lo ∧ hi < 2147483648 ∧ (offs.size : Int) = hi - lo + 1 ∧ (offs.toList.all (fun o => decide (0 ≤ (pc : Int) + o))) = true then (39, 0, ((pc : Int) + d).toNat :: offs.toList.map (fun o => ((pc : Int) + o).toNat), lo) else zno)
  | _ => zno
def zini (k : Nat) : Bool := ([0, 13, 25, 29, 39, 49, 56, 63, 67, 97] : List Nat).contains k
def zchk (c rt : Nat) (ini : Bool) (cc : ByteArray) : List zI → Nat → Bool
  | [], _ => true
  | i :: l, pc => (decide (i.1 = 99) || decide (i = ztr c rt ini cc pc)) && zchk c rt ini cc l (pc + 1)
theorem zchk_ok {c rt : Nat} {ini : Bool} {cc : ByteArray} : ∀ (l : List zI) (pc j : Nat), zchk c rt ini cc l pc = true → (zlk l j).1 = 99 ∨ zlk l j = ztr c rt ini cc (pc + j)
  | [], _, _, _ => Or.inl rfl
  | i :: l, pc, 0, h => by
    simp only [zchk, Bool.and_eq_true, Bool.or_eq_true, decide_eq_true_eq] at h
    exact h.1
  | i :: l, pc, j + 1, h => by
    simp only [zchk, Bool.and_eq_true, Bool.or_eq_true, decide_eq_true_eq] at h
    have := zchk_ok l (pc + 1) j h.2
    rw [show pc + 1 + j = pc + (j + 1) by omega] at this
    exact this
set_option maxRecDepth 20000 in
theorem zch_0 : zchk (zoc 0) (zrt 0) (zini 0) (zb 0) zc0 0 = true := by decide +kernel
set_option maxRecDepth 20000 in
theorem zch_1 : zchk (zoc 1) (zrt 1) (zini 1) (zb 1) zc1 0 = true := by decide +kernel
set_option maxRecDepth 20000 in
theorem zch_2 : zchk (zoc 2) (zrt 2) (zini 2) (zb 2) zc2 0 = true := by decide +kernel
set_option maxRecDepth 20000 in
theorem zch_3 : zchk (zoc 3) (zrt 3) (zini 3) (zb 3) zc3 0 = true := by decide +kernel
set_option maxRecDepth 20000 in
theorem zch_4 : zchk (zoc 4) (zrt 4) (zini 4) (zb 4) zc4 0 = true := by decide +kernel
set_option maxRecDepth 20000 in
theorem zch_5 : zchk (zoc 5) (zrt 5) (zini 5) (zb 5) zc5 0 = true := by decide +kernel
set_option maxRecDepth 20000 in
theorem zch_6 : zchk (zoc 6) (zrt 6) (zini 6) (zb 6) zc6 0 = true := by decide +kernel
set_option maxRecDepth 20000 in
theorem zch_7 : zchk (zoc 7) (zrt 7) (zini 7) (zb 7) zc7 0 = true := by decide +kernel
set_option maxRecDepth 20000 in
theorem zch_8 : zchk (zoc 8) (zrt 8) (zini 8) (zb 8) zc8 0 = true := by decide +kernel
set_option maxRecDepth 20000 in
theorem zch_9 : zchk (zoc 9) (zrt 9) (zini 9) (zb 9) zc9 0 = true := by decide +kernel
set_option maxRecDepth 20000 in
theorem zch_10 : zchk (zoc 10) (zrt 10) (zini 10) (zb 10) zc10 0 = true := by decide +kernel
set_option maxRecDepth 20000 in
theorem zch_11 : zchk (zoc 11) (zrt 11) (zini 11) (zb 11) zc11 0 = true := by decide +kernel
set_option maxRecDepth 20000 in
theorem zch_12 : zchk (zoc 12) (zrt 12) (zini 12) (zb 12) zc12 0 = true := by decide +kernel
set_option maxRecDepth 20000 in
theorem zch_13 : zchk (zoc 13) (zrt 13) (zini 13) (zb 13) zc13 0 = true := by decide +kernel
set_option maxRecDepth 20000 in
theorem zch_14 : zchk (zoc 14) (zrt 14) (zini 14) (zb 14) zc14 0 = true := by decide +kernel
set_option maxRecDepth 20000 in
theorem zch_15 : zchk (zoc 15) (zrt 15) (zini 15) (zb 15) zc15 0 = true := by decide +kernel
set_option maxRecDepth 20000 in
theorem zch_16 : zchk (zoc 16) (zrt 16) (zini 16) (zb 16) zc16 0 = true := by decide +kernel
set_option maxRecDepth 20000 in
theorem zch_17 : zchk (zoc 17) (zrt 17) (zini 17) (zb 17) zc17 0 = true := by decide +kernel
set_option maxRecDepth 20000 in
theorem zch_18 : zchk (zoc 18) (zrt 18) (zini 18) (zb 18) zc18 0 = true := by decide +kernel
set_option maxRecDepth 20000 in
theorem zch_19 : zchk (zoc 19) (zrt 19) (zini 19) (zb 19) zc19 0 = true := by decide +kernel
set_option maxRecDepth 20000 in
theorem zch_20 : zchk (zoc 20) (zrt 20) (zini 20) (zb 20) zc20 0 = true := by decide +kernel
set_option maxRecDepth 20000 in
theorem zch_21 : zchk (zoc 21) (zrt 21) (zini 21) (zb 21) zc21 0 = true := by decide +kernel
set_option maxRecDepth 20000 in
theorem zch_22 : zchk (zoc 22) (zrt 22) (zini 22) (zb 22) zc22 0 = true := by decide +kernel
set_option maxRecDepth 20000 in
theorem zch_23 : zchk (zoc 23) (zrt 23) (zini 23) (zb 23) zc23 0 = true := by decide +kernel
set_option maxRecDepth 20000 in
theorem zch_24 : zchk (zoc 24) (zrt 24) (zini 24) (zb 24) zc24 0 = true := by decide +kernel
set_option maxRecDepth 20000 in
theorem zch_25 : zchk (zoc 25) (zrt 25) (zini 25) (zb 25) zc25 0 = true := by decide +kernel
set_option maxRecDepth 20000 in
theorem zch_26 : zchk (zoc 26) (zrt 26) (zini 26) (zb 26) zc26 0 = true := by decide +kernel
set_option maxRecDepth 20000 in
theorem zch_27 : zchk (zoc 27) (zrt 27) (zini 27) (zb 27) zc27 0 = true := by decide +kernel
set_option maxRecDepth 20000 in
theorem zch_28 : zchk (zoc 28) (zrt 28) (zini 28) (zb 28) zc28 0 = true := by decide +kernel
set_option maxRecDepth 20000 in
theorem zch_29 : zchk (zoc 29) (zrt 29) (zini 29) (zb 29) zc29 0 = true := by decide +kernel
set_option maxRecDepth 20000 in
theorem zch_30 : zchk (zoc 30) (zrt 30) (zini 30) (zb 30) zc30 0 = true := by decide +kernel
set_option maxRecDepth 20000 in
theorem zch_31 : zchk (zoc 31) (zrt 31) (zini 31) (zb 31) zc31 0 = true := by decide +kernel
set_option maxRecDepth 20000 in
theorem zch_32 : zchk (zoc 32) (zrt 32) (zini 32) (zb 32) zc32 0 = true := by decide +kernel
set_option maxRecDepth 20000 in
theorem zch_33 : zchk (zoc 33) (zrt 33) (zini 33) (zb 33) zc33 0 = true := by decide +kernel
set_option maxRecDepth 20000 in
theorem zch_34 : zchk (zoc 34) (zrt 34) (zini 34) (zb 34) zc34 0 = true := by decide +kernel
set_option maxRecDepth 20000 in
theorem zch_35 : zchk (zoc 35) (zrt 35) (zini 35) (zb 35) zc35 0 = true := by decide +kernel
set_option maxRecDepth 20000 in
theorem zch_36 : zchk (zoc 36) (zrt 36) (zini 36) (zb 36) zc36 0 = true := by decide +kernel
set_option maxRecDepth 20000 in
theorem zch_37 : zchk (zoc 37) (zrt 37) (zini 37) (zb 37) zc37 0 = true := by decide +kernel
set_option maxRecDepth 20000 in
theorem zch_38 : zchk (zoc 38) (zrt 38) (zini 38) (zb 38) zc38 0 = true := by decide +kernel
set_option maxRecDepth 20000 in
theorem zch_39 : zchk (zoc 39) (zrt 39) (zini 39) (zb 39) zc39 0 = true := by decide +kernel
set_option maxRecDepth 20000 in
theorem zch_40 : zchk (zoc 40) (zrt 40) (zini 40) (zb 40) zc40 0 = true := by decide +kernel
set_option maxRecDepth 20000 in
theorem zch_41 : zchk (zoc 41) (zrt 41) (zini 41) (zb 41) zc41 0 = true := by decide +kernel
set_option maxRecDepth 20000 in
theorem zch_42 : zchk (zoc 42) (zrt 42) (zini 42) (zb 42) zc42 0 = true := by decide +kernel
set_option maxRecDepth 20000 in
theorem zch_43 : zchk (zoc 43) (zrt 43) (zini 43) (zb 43) zc43 0 = true := by decide +kernel
set_option maxRecDepth 20000 in
theorem zch_44 : zchk (zoc 44) (zrt 44) (zini 44) (zb 44) zc44 0 = true := by decide +kernel
set_option maxRecDepth 20000 in
theorem zch_45 : zchk (zoc 45) (zrt 45) (zini 45) (zb 45) zc45 0 = true := by decide +kernel
set_option maxRecDepth 20000 in
theorem zch_46 : zchk (zoc 46) (zrt 46) (zini 46) (zb 46) zc46 0 = true := by decide +kernel
set_option maxRecDepth 20000 in
theorem zch_47 : zchk (zoc 47) (zrt 47) (zini 47) (zb 47) zc47 0 = true := by decide +kernel
set_option maxRecDepth 20000 in
theorem zch_48 : zchk (zoc 48) (zrt 48) (zini 48) (zb 48) zc48 0 = true := by decide +kernel
set_option maxRecDepth 20000 in
theorem zch_49 : zchk (zoc 49) (zrt 49) (zini 49) (zb 49) zc49 0 = true := by decide +kernel
set_option maxRecDepth 20000 in
theorem zch_50 : zchk (zoc 50) (zrt 50) (zini 50) (zb 50) zc50 0 = true := by decide +kernel
set_option maxRecDepth 20000 in
theorem zch_51 : zchk (zoc 51) (zrt 51) (zini 51) (zb 51) zc51 0 = true := by decide +kernel
set_option maxRecDepth 20000 in
theorem zch_52 : zchk (zoc 52) (zrt 52) (zini 52) (zb 52) zc52 0 = true := by decide +kernel
set_option maxRecDepth 20000 in
theorem zch_53 : zchk (zoc 53) (zrt 53) (zini 53) (zb 53) zc53 0 = true := by decide +kernel
set_option maxRecDepth 20000 in
theorem zch_54 : zchk (zoc 54) (zrt 54) (zini 54) (zb 54) zc54 0 = true := by decide +kernel
set_option maxRecDepth 20000 in
theorem zch_55 : zchk (zoc 55) (zrt 55) (zini 55) (zb 55) zc55 0 = true := by decide +kernel
set_option maxRecDepth 20000 in
theorem zch_56 : zchk (zoc 56) (zrt 56) (zini 56) (zb 56) zc56 0 = true := by decide +kernel
set_option maxRecDepth 20000 in
theorem zch_57 : zchk (zoc 57) (zrt 57) (zini 57) (zb 57) zc57 0 = true := by decide +kernel
set_option maxRecDepth 20000 in
theorem zch_58 : zchk (zoc 58) (zrt 58) (zini 58) (zb 58) zc58 0 = true := by decide +kernel
set_option maxRecDepth 20000 in
theorem zch_59 : zchk (zoc 59) (zrt 59) (zini 59) (zb 59) zc59 0 = true := by decide +kernel
set_option maxRecDepth 20000 in
theorem zch_60 : zchk (zoc 60) (zrt 60) (zini 60) (zb 60) zc60 0 = true := by decide +kernel
set_option maxRecDepth 20000 in
theorem zch_61 : zchk (zoc 61) (zrt 61) (zini 61) (zb 61) zc61 0 = true := by decide +kernel
set_option maxRecDepth 20000 in
theorem zch_62 : zchk (zoc 62) (zrt 62) (zini 62) (zb 62) zc62 0 = true := by decide +kernel
set_option maxRecDepth 20000 in
theorem zch_63 : zchk (zoc 63) (zrt 63) (zini 63) (zb 63) zc63 0 = true := by decide +kernel
set_option maxRecDepth 20000 in
theorem zch_64 : zchk (zoc 64) (zrt 64) (zini 64) (zb 64) zc64 0 = true := by decide +kernel
set_option maxRecDepth 20000 in
theorem zch_65 : zchk (zoc 65) (zrt 65) (zini 65) (zb 65) zc65 0 = true := by decide +kernel
set_option maxRecDepth 20000 in
theorem zch_66 : zchk (zoc 66) (zrt 66) (zini 66) (zb 66) zc66 0 = true := by decide +kernel
set_option maxRecDepth 20000 in
theorem zch_67 : zchk (zoc 67) (zrt 67) (zini 67) (zb 67) zc67 0 = true := by decide +kernel
set_option maxRecDepth 20000 in
theorem zch_68 : zchk (zoc 68) (zrt 68) (zini 68) (zb 68) zc68 0 = true := by decide +kernel
set_option maxRecDepth 20000 in
theorem zch_69 : zchk (zoc 69) (zrt 69) (zini 69) (zb 69) zc69 0 = true := by decide +kernel
set_option maxRecDepth 20000 in
theorem zch_70 : zchk (zoc 70) (zrt 70) (zini 70) (zb 70) zc70 0 = true := by decide +kernel
set_option maxRecDepth 20000 in
theorem zch_71 : zchk (zoc 71) (zrt 71) (zini 71) (zb 71) zc71 0 = true := by decide +kernel
set_option maxRecDepth 20000 in
theorem zch_72 : zchk (zoc 72) (zrt 72) (zini 72) (zb 72) zc72 0 = true := by decide +kernel
set_option maxRecDepth 20000 in
theorem zch_73 : zchk (zoc 73) (zrt 73) (zini 73) (zb 73) zc73 0 = true := by decide +kernel
set_option maxRecDepth 20000 in
theorem zch_74 : zchk (zoc 74) (zrt 74) (zini 74) (zb 74) zc74 0 = true := by decide +kernel
set_option maxRecDepth 20000 in
theorem zch_75 : zchk (zoc 75) (zrt 75) (zini 75) (zb 75) zc75 0 = true := by decide +kernel
set_option maxRecDepth 20000 in
theorem zch_76 : zchk (zoc 76) (zrt 76) (zini 76) (zb 76) zc76 0 = true := by decide +kernel
set_option maxRecDepth 20000 in
theorem zch_77 : zchk (zoc 77) (zrt 77) (zini 77) (zb 77) zc77 0 = true := by decide +kernel
set_option maxRecDepth 20000 in
theorem zch_78 : zchk (zoc 78) (zrt 78) (zini 78) (zb 78) zc78 0 = true := by decide +kernel
set_option maxRecDepth 20000 in
theorem zch_79 : zchk (zoc 79) (zrt 79) (zini 79) (zb 79) zc79 0 = true := by decide +kernel
set_option maxRecDepth 20000 in
theorem zch_80 : zchk (zoc 80) (zrt 80) (zini 80) (zb 80) zc80 0 = true := by decide +kernel
set_option maxRecDepth 20000 in
theorem zch_81 : zchk (zoc 81) (zrt 81) (zini 81) (zb 81) zc81 0 = true := by decide +kernel
set_option maxRecDepth 20000 in
theorem zch_82 : zchk (zoc 82) (zrt 82) (zini 82) (zb 82) zc82 0 = true := by decide +kernel
set_option maxRecDepth 20000 in
theorem zch_83 : zchk (zoc 83) (zrt 83) (zini 83) (zb 83) zc83 0 = true := by decide +kernel
set_option maxRecDepth 20000 in
theorem zch_84 : zchk (zoc 84) (zrt 84) (zini 84) (zb 84) zc84 0 = true := by decide +kernel
set_option maxRecDepth 20000 in
theorem zch_85 : zchk (zoc 85) (zrt 85) (zini 85) (zb 85) zc85 0 = true := by decide +kernel
set_option maxRecDepth 20000 in
theorem zch_86 : zchk (zoc 86) (zrt 86) (zini 86) (zb 86) zc86 0 = true := by decide +kernel
set_option maxRecDepth 20000 in
theorem zch_87 : zchk (zoc 87) (zrt 87) (zini 87) (zb 87) zc87 0 = true := by decide +kernel
set_option maxRecDepth 20000 in
theorem zch_88 : zchk (zoc 88) (zrt 88) (zini 88) (zb 88) zc88 0 = true := by decide +kernel
set_option maxRecDepth 20000 in
theorem zch_89 : zchk (zoc 89) (zrt 89) (zini 89) (zb 89) zc89 0 = true := by decide +kernel
set_option maxRecDepth 20000 in
theorem zch_90 : zchk (zoc 90) (zrt 90) (zini 90) (zb 90) zc90 0 = true := by decide +kernel
set_option maxRecDepth 20000 in
theorem zch_91 : zchk (zoc 91) (zrt 91) (zini 91) (zb 91) zc91 0 = true := by decide +kernel
set_option maxRecDepth 20000 in
theorem zch_92 : zchk (zoc 92) (zrt 92) (zini 92) (zb 92) zc92 0 = true := by decide +kernel
set_option maxRecDepth 20000 in
theorem zch_93 : zchk (zoc 93) (zrt 93) (zini 93) (zb 93) zc93 0 = true := by decide +kernel
set_option maxRecDepth 20000 in
theorem zch_94 : zchk (zoc 94) (zrt 94) (zini 94) (zb 94) zc94 0 = true := by decide +kernel
set_option maxRecDepth 20000 in
theorem zch_95 : zchk (zoc 95) (zrt 95) (zini 95) (zb 95) zc95 0 = true := by decide +kernel
set_option maxRecDepth 20000 in
theorem zch_96 : zchk (zoc 96) (zrt 96) (zini 96) (zb 96) zc96 0 = true := by decide +kernel
set_option maxRecDepth 20000 in
theorem zch_97 : zchk (zoc 97) (zrt 97) (zini 97) (zb 97) zc97 0 = true := by decide +kernel
set_option maxRecDepth 20000 in
theorem zch_98 : zchk (zoc 98) (zrt 98) (zini 98) (zb 98) zc98 0 = true := by decide +kernel
set_option maxRecDepth 20000 in
theorem zch_99 : zchk (zoc 99) (zrt 99) (zini 99) (zb 99) zc99 0 = true := by decide +kernel
set_option maxRecDepth 20000 in
theorem zch_100 : zchk (zoc 100) (zrt 100) (zini 100) (zb 100) zc100 0 = true := by decide +kernel
set_option maxRecDepth 20000 in
theorem zch_101 : zchk (zoc 101) (zrt 101) (zini 101) (zb 101) zc101 0 = true := by decide +kernel
set_option maxRecDepth 20000 in
theorem zch_102 : zchk (zoc 102) (zrt 102) (zini 102) (zb 102) zc102 0 = true := by decide +kernel
set_option maxRecDepth 20000 in
theorem zch_103 : zchk (zoc 103) (zrt 103) (zini 103) (zb 103) zc103 0 = true := by decide +kernel
set_option maxRecDepth 20000 in
theorem zch_104 : zchk (zoc 104) (zrt 104) (zini 104) (zb 104) zc104 0 = true := by decide +kernel
set_option maxRecDepth 20000 in
theorem zch_105 : zchk (zoc 105) (zrt 105) (zini 105) (zb 105) zc105 0 = true := by decide +kernel
set_option maxRecDepth 20000 in
theorem zch_106 : zchk (zoc 106) (zrt 106) (zini 106) (zb 106) zc106 0 = true := by decide +kernel
set_option maxRecDepth 20000 in
theorem zch_107 : zchk (zoc 107) (zrt 107) (zini 107) (zb 107) zc107 0 = true := by decide +kernel
set_option maxRecDepth 20000 in
theorem zch_108 : zchk (zoc 108) (zrt 108) (zini 108) (zb 108) zc108 0 = true := by decide +kernel
set_option maxRecDepth 20000 in
theorem zch_109 : zchk (zoc 109) (zrt 109) (zini 109) (zb 109) zc109 0 = true := by decide +kernel
set_option maxRecDepth 20000 in
theorem zch_110 : zchk (zoc 110) (zrt 110) (zini 110) (zb 110) zc110 0 = true := by decide +kernel
set_option maxRecDepth 20000 in
theorem zch_111 : zchk (zoc 111) (zrt 111) (zini 111) (zb 111) zc111 0 = true := by decide +kernel
set_option maxRecDepth 20000 in
theorem zch_112 : zchk (zoc 112) (zrt 112) (zini 112) (zb 112) zc112 0 = true := by decide +kernel
set_option maxRecDepth 20000 in
theorem zch_113 : zchk (zoc 113) (zrt 113) (zini 113) (zb 113) zc113 0 = true := by decide +kernel
set_option maxRecDepth 20000 in
theorem zch_114 : zchk (zoc 114) (zrt 114) (zini 114) (zb 114) zc114 0 = true := by decide +kernel
set_option maxRecDepth 20000 in
theorem zch_115 : zchk (zoc 115) (zrt 115) (zini 115) (zb 115) zc115 0 = true := by decide +kernel
set_option maxRecDepth 20000 in
theorem zch_116 : zchk (zoc 116) (zrt 116) (zini 116) (zb 116) zc116 0 = true := by decide +kernel
set_option maxRecDepth 20000 in
theorem zch_117 : zchk (zoc 117) (zrt 117) (zini 117) (zb 117) zc117 0 = true := by decide +kernel
set_option maxRecDepth 20000 in
theorem zch_118 : zchk (zoc 118) (zrt 118) (zini 118) (zb 118) zc118 0 = true := by decide +kernel
set_option maxRecDepth 20000 in
theorem zch_119 : zchk (zoc 119) (zrt 119) (zini 119) (zb 119) zc119 0 = true := by decide +kernel
set_option maxRecDepth 20000 in
theorem zch_120 : zchk (zoc 120) (zrt 120) (zini 120) (zb 120) zc120 0 = true := by decide +kernel
set_option maxRecDepth 20000 in
theorem zch_121 : zchk (zoc 121) (zrt 121) (zini 121) (zb 121) zc121 0 = true := by decide +kernel
set_option maxRecDepth 20000 in
theorem zch_122 : zchk (zoc 122) (zrt 122) (zini 122) (zb 122) zc122 0 = true := by decide +kernel
set_option maxRecDepth 20000 in
theorem zch_123 : zchk (zoc 123) (zrt 123) (zini 123) (zb 123) zc123 0 = true := by decide +kernel
set_option maxRecDepth 20000 in
theorem zch_124 : zchk (zoc 124) (zrt 124) (zini 124) (zb 124) zc124 0 = true := by decide +kernel
set_option maxRecDepth 20000 in
theorem zch_125 : zchk (zoc 125) (zrt 125) (zini 125) (zb 125) zc125 0 = true := by decide +kernel
set_option maxRecDepth 20000 in
theorem zch_126 : zchk (zoc 126) (zrt 126) (zini 126) (zb 126) zc126 0 = true := by decide +kernel
set_option maxRecDepth 20000 in
theorem zch_127 : zchk (zoc 127) (zrt 127) (zini 127) (zb 127) zc127 0 = true := by decide +kernel
set_option maxRecDepth 20000 in
theorem zch_128 : zchk (zoc 128) (zrt 128) (zini 128) (zb 128) zc128 0 = true := by decide +kernel
set_option maxRecDepth 20000 in
theorem zch_129 : zchk (zoc 129) (zrt 129) (zini 129) (zb 129) zc129 0 = true := by decide +kernel
set_option maxRecDepth 20000 in
theorem zch_130 : zchk (zoc 130) (zrt 130) (zini 130) (zb 130) zc130 0 = true := by decide +kernel
set_option maxRecDepth 20000 in
theorem zch_131 : zchk (zoc 131) (zrt 131) (zini 131) (zb 131) zc131 0 = true := by decide +kernel
set_option maxRecDepth 20000 in
theorem zch_132 : zchk (zoc 132) (zrt 132) (zini 132) (zb 132) zc132 0 = true := by decide +kernel
set_option maxRecDepth 20000 in
theorem zch_133 : zchk (zoc 133) (zrt 133) (zini 133) (zb 133) zc133 0 = true := by decide +kernel
set_option maxRecDepth 20000 in
theorem zch_134 : zchk (zoc 134) (zrt 134) (zini 134) (zb 134) zc134 0 = true := by decide +kernel
set_option maxRecDepth 20000 in
theorem zch_135 : zchk (zoc 135) (zrt 135) (zini 135) (zb 135) zc135 0 = true := by decide +kernel
set_option maxRecDepth 20000 in
theorem zch_136 : zchk (zoc 136) (zrt 136) (zini 136) (zb 136) zc136 0 = true := by decide +kernel
set_option maxRecDepth 20000 in
theorem zch_137 : zchk (zoc 137) (zrt 137) (zini 137) (zb 137) zc137 0 = true := by decide +kernel
set_option maxRecDepth 20000 in
theorem zch_138 : zchk (zoc 138) (zrt 138) (zini 138) (zb 138) zc138 0 = true := by decide +kernel
set_option maxRecDepth 20000 in
theorem zch_139 : zchk (zoc 139) (zrt 139) (zini 139) (zb 139) zc139 0 = true := by decide +kernel
set_option maxRecDepth 20000 in
theorem zch_140 : zchk (zoc 140) (zrt 140) (zini 140) (zb 140) zc140 0 = true := by decide +kernel
set_option maxRecDepth 20000 in
theorem zch_141 : zchk (zoc 141) (zrt 141) (zini 141) (zb 141) zc141 0 = true := by decide +kernel
set_option maxRecDepth 20000 in
theorem zch_142 : zchk (zoc 142) (zrt 142) (zini 142) (zb 142) zc142 0 = true := by decide +kernel
set_option maxRecDepth 20000 in
theorem zch_143 : zchk (zoc 143) (zrt 143) (zini 143) (zb 143) zc143 0 = true := by decide +kernel
set_option maxRecDepth 20000 in
theorem zch_144 : zchk (zoc 144) (zrt 144) (zini 144) (zb 144) zc144 0 = true := by decide +kernel
set_option maxRecDepth 20000 in
theorem zch_145 : zchk (zoc 145) (zrt 145) (zini 145) (zb 145) zc145 0 = true := by decide +kernel
set_option maxRecDepth 20000 in
theorem zch_146 : zchk (zoc 146) (zrt 146) (zini 146) (zb 146) zc146 0 = true := by decide +kernel
set_option maxRecDepth 20000 in
theorem zch_147 : zchk (zoc 147) (zrt 147) (zini 147) (zb 147) zc147 0 = true := by decide +kernel
set_option maxRecDepth 20000 in
theorem zch_148 : zchk (zoc 148) (zrt 148) (zini 148) (zb 148) zc148 0 = true := by decide +kernel
set_option maxRecDepth 20000 in
theorem zch_149 : zchk (zoc 149) (zrt 149) (zini 149) (zb 149) zc149 0 = true := by decide +kernel
set_option maxRecDepth 20000 in
theorem zch_150 : zchk (zoc 150) (zrt 150) (zini 150) (zb 150) zc150 0 = true := by decide +kernel
set_option maxRecDepth 20000 in
theorem zch_151 : zchk (zoc 151) (zrt 151) (zini 151) (zb 151) zc151 0 = true := by decide +kernel
set_option maxRecDepth 20000 in
theorem zch_152 : zchk (zoc 152) (zrt 152) (zini 152) (zb 152) zc152 0 = true := by decide +kernel
set_option maxRecDepth 20000 in
theorem zch_153 : zchk (zoc 153) (zrt 153) (zini 153) (zb 153) zc153 0 = true := by decide +kernel
set_option maxRecDepth 20000 in
theorem zch_154 : zchk (zoc 154) (zrt 154) (zini 154) (zb 154) zc154 0 = true := by decide +kernel
set_option maxRecDepth 20000 in
theorem zch_155 : zchk (zoc 155) (zrt 155) (zini 155) (zb 155) zc155 0 = true := by decide +kernel
set_option maxRecDepth 20000 in
theorem zch_156 : zchk (zoc 156) (zrt 156) (zini 156) (zb 156) zc156 0 = true := by decide +kernel
set_option maxRecDepth 20000 in
theorem zch_157 : zchk (zoc 157) (zrt 157) (zini 157) (zb 157) zc157 0 = true := by decide +kernel
set_option maxRecDepth 20000 in
theorem zch_158 : zchk (zoc 158) (zrt 158) (zini 158) (zb 158) zc158 0 = true := by decide +kernel
set_option maxRecDepth 20000 in
theorem zch_159 : zchk (zoc 159) (zrt 159) (zini 159) (zb 159) zc159 0 = true := by decide +kernel
set_option maxRecDepth 20000 in
theorem zch_160 : zchk (zoc 160) (zrt 160) (zini 160) (zb 160) zc160 0 = true := by decide +kernel
set_option maxRecDepth 20000 in
theorem zch_161 : zchk (zoc 161) (zrt 161) (zini 161) (zb 161) zc161 0 = true := by decide +kernel
set_option maxRecDepth 20000 in
theorem zch_162 : zchk (zoc 162) (zrt 162) (zini 162) (zb 162) zc162 0 = true := by decide +kernel
set_option maxRecDepth 20000 in
theorem zch_163 : zchk (zoc 163) (zrt 163) (zini 163) (zb 163) zc163 0 = true := by decide +kernel
set_option maxRecDepth 20000 in
theorem zch_164 : zchk (zoc 164) (zrt 164) (zini 164) (zb 164) zc164 0 = true := by decide +kernel
set_option maxRecDepth 20000 in
theorem zch_165 : zchk (zoc 165) (zrt 165) (zini 165) (zb 165) zc165 0 = true := by decide +kernel
theorem zch : ∀ k, k < 166 → zchk (zoc k) (zrt k) (zini k) (zb k) (zcl0 zcs k) 0 = true := by
  intro k hk
  match k, hk with
  | 0, _ => exact zch_0
  | 1, _ => exact zch_1
  | 2, _ => exact zch_2
  | 3, _ => exact zch_3
  | 4, _ => exact zch_4
  | 5, _ => exact zch_5
  | 6, _ => exact zch_6
  | 7, _ => exact zch_7
  | 8, _ => exact zch_8
  | 9, _ => exact zch_9
  | 10, _ => exact zch_10
  | 11, _ => exact zch_11
  | 12, _ => exact zch_12
  | 13, _ => exact zch_13
  | 14, _ => exact zch_14
  | 15, _ => exact zch_15
  | 16, _ => exact zch_16
  | 17, _ => exact zch_17
  | 18, _ => exact zch_18
  | 19, _ => exact zch_19
  | 20, _ => exact zch_20
  | 21, _ => exact zch_21
  | 22, _ => exact zch_22
  | 23, _ => exact zch_23
  | 24, _ => exact zch_24
  | 25, _ => exact zch_25
  | 26, _ => exact zch_26
  | 27, _ => exact zch_27
  | 28, _ => exact zch_28
  | 29, _ => exact zch_29
  | 30, _ => exact zch_30
  | 31, _ => exact zch_31
  | 32, _ => exact zch_32
  | 33, _ => exact zch_33
  | 34, _ => exact zch_34
  | 35, _ => exact zch_35
  | 36, _ => exact zch_36
  | 37, _ => exact zch_37
  | 38, _ => exact zch_38
  | 39, _ => exact zch_39
  | 40, _ => exact zch_40
  | 41, _ => exact zch_41
  | 42, _ => exact zch_42
  | 43, _ => exact zch_43
  | 44, _ => exact zch_44
  | 45, _ => exact zch_45
  | 46, _ => exact zch_46
  | 47, _ => exact zch_47
  | 48, _ => exact zch_48
  | 49, _ => exact zch_49
  | 50, _ => exact zch_50
  | 51, _ => exact zch_51
  | 52, _ => exact zch_52
  | 53, _ => exact zch_53
  | 54, _ => exact zch_54
  | 55, _ => exact zch_55
  | 56, _ => exact zch_56
  | 57, _ => exact zch_57
  | 58, _ => exact zch_58
  | 59, _ => exact zch_59
  | 60, _ => exact zch_60
  | 61, _ => exact zch_61
  | 62, _ => exact zch_62
  | 63, _ => exact zch_63
  | 64, _ => exact zch_64
  | 65, _ => exact zch_65
  | 66, _ => exact zch_66
  | 67, _ => exact zch_67
  | 68, _ => exact zch_68
  | 69, _ => exact zch_69
  | 70, _ => exact zch_70
  | 71, _ => exact zch_71
  | 72, _ => exact zch_72
  | 73, _ => exact zch_73
  | 74, _ => exact zch_74
  | 75, _ => exact zch_75
  | 76, _ => exact zch_76
  | 77, _ => exact zch_77
  | 78, _ => exact zch_78
  | 79, _ => exact zch_79
  | 80, _ => exact zch_80
  | 81, _ => exact zch_81
  | 82, _ => exact zch_82
  | 83, _ => exact zch_83
  | 84, _ => exact zch_84
  | 85, _ => exact zch_85
  | 86, _ => exact zch_86
  | 87, _ => exact zch_87
  | 88, _ => exact zch_88
  | 89, _ => exact zch_89
  | 90, _ => exact zch_90
  | 91, _ => exact zch_91
  | 92, _ => exact zch_92
  | 93, _ => exact zch_93
  | 94, _ => exact zch_94
  | 95, _ => exact zch_95
  | 96, _ => exact zch_96
  | 97, _ => exact zch_97
  | 98, _ => exact zch_98
  | 99, _ => exact zch_99
  | 100, _ => exact zch_100
  | 101, _ => exact zch_101
  | 102, _ => exact zch_102
  | 103, _ => exact zch_103
  | 104, _ => exact zch_104
  | 105, _ => exact zch_105
  | 106, _ => exact zch_106
  | 107, _ => exact zch_107
  | 108, _ => exact zch_108
  | 109, _ => exact zch_109
  | 110, _ => exact zch_110
  | 111, _ => exact zch_111
  | 112, _ => exact zch_112
  | 113, _ => exact zch_113
  | 114, _ => exact zch_114
  | 115, _ => exact zch_115
  | 116, _ => exact zch_116
  | 117, _ => exact zch_117
  | 118, _ => exact zch_118
  | 119, _ => exact zch_119
  | 120, _ => exact zch_120
  | 121, _ => exact zch_121
  | 122, _ => exact zch_122
  | 123, _ => exact zch_123
  | 124, _ => exact zch_124
  | 125, _ => exact zch_125
  | 126, _ => exact zch_126
  | 127, _ => exact zch_127
  | 128, _ => exact zch_128
  | 129, _ => exact zch_129
  | 130, _ => exact zch_130
  | 131, _ => exact zch_131
  | 132, _ => exact zch_132
  | 133, _ => exact zch_133
  | 134, _ => exact zch_134
  | 135, _ => exact zch_135
  | 136, _ => exact zch_136
  | 137, _ => exact zch_137
  | 138, _ => exact zch_138
  | 139, _ => exact zch_139
  | 140, _ => exact zch_140
  | 141, _ => exact zch_141
  | 142, _ => exact zch_142
  | 143, _ => exact zch_143
  | 144, _ => exact zch_144
  | 145, _ => exact zch_145
  | 146, _ => exact zch_146
  | 147, _ => exact zch_147
  | 148, _ => exact zch_148
  | 149, _ => exact zch_149
  | 150, _ => exact zch_150
  | 151, _ => exact zch_151
  | 152, _ => exact zch_152
  | 153, _ => exact zch_153
  | 154, _ => exact zch_154
  | 155, _ => exact zch_155
  | 156, _ => exact zch_156
  | 157, _ => exact zch_157
  | 158, _ => exact zch_158
  | 159, _ => exact zch_159
  | 160, _ => exact zch_160
  | 161, _ => exact zch_161
  | 162, _ => exact zch_162
  | 163, _ => exact zch_163
  | 164, _ => exact zch_164
  | 165, _ => exact zch_165
  | k + 166, h => exact absurd h (by omega)
theorem zc_tr {k pc : Nat} (hk : k < 166) : (zc k pc).1 = 99 ∨ zc k pc = ztr (zoc k) (zrt k) (zini k) (zb k) pc := by
  have := zchk_ok _ 0 pc (zch k hk)
  rwa [Nat.zero_add] at this
