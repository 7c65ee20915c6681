section
-- ===== PART A: goes FIRST, ahead of the names: the tables' words, and 'selects' of the private methods out of them =====
/-- a private method of a class that the tables say can be made, by its rows of tables_1 -/
def lw_okq (q : MethodName × Nat) : Prop := (q.1.cls ≠ "java/lang/invoke/MethodHandle" ∧ q.1.cls ≠ "java/lang/invoke/VarHandle") ∧ Cond.instantiable q.1.cls q.2 ∈ tables_1 ∧ Cond.privateMethod q.1 ∈ tables_1 ∧ Cond.instanceMethod q.1 ∈ tables_1
theorem lw_p0 : lw_okq (⟨"PuppetTurns", "recorded", "(I)I"⟩, 9) := ⟨⟨by decide +kernel, by decide +kernel⟩, List.mem_of_getElem? (i := 17) (by decide +kernel), List.mem_of_getElem? (i := 352) (by decide +kernel), List.mem_of_getElem? (i := 353) (by decide +kernel)⟩
theorem lw_p1 : lw_okq (⟨"PuppetTurns$History", "newestSlot", "()LPuppetTurns$Scene;"⟩, 3) := ⟨⟨by decide +kernel, by decide +kernel⟩, List.mem_of_getElem? (i := 163) (by decide +kernel), List.mem_of_getElem? (i := 361) (by decide +kernel), List.mem_of_getElem? (i := 362) (by decide +kernel)⟩
theorem lw_p2 : lw_okq (⟨"PuppetTurns$Scene", "putAt", "(II)I"⟩, 9) := ⟨⟨by decide +kernel, by decide +kernel⟩, List.mem_of_getElem? (i := 25) (by decide +kernel), List.mem_of_getElem? (i := 431) (by decide +kernel), List.mem_of_getElem? (i := 432) (by decide +kernel)⟩
theorem lw_p3 : lw_okq (⟨"PuppetTurns$Scene", "shiftInOrder", "(II)V"⟩, 9) := ⟨⟨by decide +kernel, by decide +kernel⟩, List.mem_of_getElem? (i := 25) (by decide +kernel), List.mem_of_getElem? (i := 435) (by decide +kernel), List.mem_of_getElem? (i := 436) (by decide +kernel)⟩
theorem lw_p4 : lw_okq (⟨"PuppetTurns$Scene", "countHidden", "(ILPuppetTurns$Survey;)V"⟩, 9) := ⟨⟨by decide +kernel, by decide +kernel⟩, List.mem_of_getElem? (i := 25) (by decide +kernel), List.mem_of_getElem? (i := 475) (by decide +kernel), List.mem_of_getElem? (i := 476) (by decide +kernel)⟩
theorem lw_p5 : lw_okq (⟨"PuppetTurns$Scene", "rotate", "()V"⟩, 9) := ⟨⟨by decide +kernel, by decide +kernel⟩, List.mem_of_getElem? (i := 25) (by decide +kernel), List.mem_of_getElem? (i := 483) (by decide +kernel), List.mem_of_getElem? (i := 484) (by decide +kernel)⟩
theorem lw_p6 : lw_okq (⟨"PuppetTurns$Scene", "bringHidden", "(LPuppetTurns$Survey;)V"⟩, 9) := ⟨⟨by decide +kernel, by decide +kernel⟩, List.mem_of_getElem? (i := 25) (by decide +kernel), List.mem_of_getElem? (i := 487) (by decide +kernel), List.mem_of_getElem? (i := 488) (by decide +kernel)⟩
theorem lw_p7 : lw_okq (⟨"PuppetTurns$Sight", "clashesOn", "(LPuppetTurns$Scene;II)J"⟩, 2) := ⟨⟨by decide +kernel, by decide +kernel⟩, List.mem_of_getElem? (i := 116) (by decide +kernel), List.mem_of_getElem? (i := 593) (by decide +kernel), List.mem_of_getElem? (i := 594) (by decide +kernel)⟩
theorem lw_p8 : lw_okq (⟨"PuppetTurns$Sight", "firstOther", "(LPuppetTurns$Scene;III)I"⟩, 2) := ⟨⟨by decide +kernel, by decide +kernel⟩, List.mem_of_getElem? (i := 116) (by decide +kernel), List.mem_of_getElem? (i := 604) (by decide +kernel), List.mem_of_getElem? (i := 605) (by decide +kernel)⟩
theorem lw_p9 : lw_okq (⟨"PuppetTurns$Forecast", "hiddenSince", "(LPuppetTurns$Scene;I)I"⟩, 5) := ⟨⟨by decide +kernel, by decide +kernel⟩, List.mem_of_getElem? (i := 133) (by decide +kernel), List.mem_of_getElem? (i := 619) (by decide +kernel), List.mem_of_getElem? (i := 620) (by decide +kernel)⟩
theorem lw_p10 : lw_okq (⟨"PuppetTurns$Forecast", "allShownWithin", "(LPuppetTurns$Scene;I)Z"⟩, 5) := ⟨⟨by decide +kernel, by decide +kernel⟩, List.mem_of_getElem? (i := 133) (by decide +kernel), List.mem_of_getElem? (i := 632) (by decide +kernel), List.mem_of_getElem? (i := 633) (by decide +kernel)⟩
theorem lw_p11 : lw_okq (⟨"PuppetTurns$Forecast", "noteHiddenByTurns", "(LPuppetTurns$Scene;)V"⟩, 5) := ⟨⟨by decide +kernel, by decide +kernel⟩, List.mem_of_getElem? (i := 133) (by decide +kernel), List.mem_of_getElem? (i := 645) (by decide +kernel), List.mem_of_getElem? (i := 646) (by decide +kernel)⟩
theorem lw_p12 : lw_okq (⟨"PuppetTurns$Forecast", "greatestWith", "(LPuppetTurns$Scene;I)I"⟩, 5) := ⟨⟨by decide +kernel, by decide +kernel⟩, List.mem_of_getElem? (i := 133) (by decide +kernel), List.mem_of_getElem? (i := 654) (by decide +kernel), List.mem_of_getElem? (i := 655) (by decide +kernel)⟩
theorem lw_p13 : lw_okq (⟨"PuppetTurns$Forecast", "framesHidden", "(III)I"⟩, 5) := ⟨⟨by decide +kernel, by decide +kernel⟩, List.mem_of_getElem? (i := 133) (by decide +kernel), List.mem_of_getElem? (i := 658) (by decide +kernel), List.mem_of_getElem? (i := 659) (by decide +kernel)⟩
def lw_privs_1 : List (MethodName × Nat) := [(⟨"PuppetTurns", "recorded", "(I)I"⟩, 9), (⟨"PuppetTurns$History", "newestSlot", "()LPuppetTurns$Scene;"⟩, 3), (⟨"PuppetTurns$Scene", "putAt", "(II)I"⟩, 9), (⟨"PuppetTurns$Scene", "shiftInOrder", "(II)V"⟩, 9), (⟨"PuppetTurns$Scene", "countHidden", "(ILPuppetTurns$Survey;)V"⟩, 9), (⟨"PuppetTurns$Scene", "rotate", "()V"⟩, 9), (⟨"PuppetTurns$Scene", "bringHidden", "(LPuppetTurns$Survey;)V"⟩, 9), (⟨"PuppetTurns$Sight", "clashesOn", "(LPuppetTurns$Scene;II)J"⟩, 2), (⟨"PuppetTurns$Sight", "firstOther", "(LPuppetTurns$Scene;III)I"⟩, 2), (⟨"PuppetTurns$Forecast", "hiddenSince", "(LPuppetTurns$Scene;I)I"⟩, 5), (⟨"PuppetTurns$Forecast", "allShownWithin", "(LPuppetTurns$Scene;I)Z"⟩, 5), (⟨"PuppetTurns$Forecast", "noteHiddenByTurns", "(LPuppetTurns$Scene;)V"⟩, 5), (⟨"PuppetTurns$Forecast", "greatestWith", "(LPuppetTurns$Scene;I)I"⟩, 5), (⟨"PuppetTurns$Forecast", "framesHidden", "(III)I"⟩, 5)]
theorem lw_r1 : ∀ q ∈ lw_privs_1, lw_okq q := List.forall_mem_cons.mpr ⟨lw_p0, List.forall_mem_cons.mpr ⟨lw_p1, List.forall_mem_cons.mpr ⟨lw_p2, List.forall_mem_cons.mpr ⟨lw_p3, List.forall_mem_cons.mpr ⟨lw_p4, List.forall_mem_cons.mpr ⟨lw_p5, List.forall_mem_cons.mpr ⟨lw_p6, List.forall_mem_cons.mpr ⟨lw_p7, List.forall_mem_cons.mpr ⟨lw_p8, List.forall_mem_cons.mpr ⟨lw_p9, List.forall_mem_cons.mpr ⟨lw_p10, List.forall_mem_cons.mpr ⟨lw_p11, List.forall_mem_cons.mpr ⟨lw_p12, List.forall_mem_cons.mpr ⟨lw_p13, fun _ h => absurd h List.not_mem_nil⟩⟩⟩⟩⟩⟩⟩⟩⟩⟩⟩⟩⟩⟩
def lw_privs : List (MethodName × Nat) := lw_privs_1
def lw_tbl : List Cond := k2_sels lw_privs ++ tables_1
theorem lw_privs_ok : ∀ q ∈ lw_privs, lw_okq q := lw_r1
end
section
def T_0 : u_T := fun k => match k with
  | 0 => ("PuppetTurns$Cells", "cells", "[I", true)
  | _ => ("PuppetTurns$Cells", "width", "I", true)
def ty_0 : Nat → FieldType := fun k => match k with
  | 0 => .array .int
  | _ => .int
def T_1 : u_T := fun k => match k with
  | 0 => ("PuppetTurns$Failure", "known", "Z", false)
  | 1 => ("PuppetTurns$Failure", "kind", "I", false)
  | 2 => ("PuppetTurns$Failure", "place", "I", false)
  | 3 => ("PuppetTurns$Failure", "depth", "I", false)
  | 4 => ("PuppetTurns$Failure", "acts", "I", false)
  | _ => ("PuppetTurns$Failure", "code", "I", false)
def ty_1 : Nat → FieldType := fun k => match k with
  | 0 => .boolean
  | 1 => .int
  | 2 => .int
  | 3 => .int
  | 4 => .int
  | _ => .int
def T_2 : u_T := fun k => match k with
  | 0 => ("PuppetTurns$Forecast", "future", "LPuppetTurns$Scene;", true)
  | 1 => ("PuppetTurns$Forecast", "survey", "LPuppetTurns$Survey;", true)
  | 2 => ("PuppetTurns$Forecast", "hiddenByTurns", "LPuppetTurns$Cells;", true)
  | 3 => ("PuppetTurns$Forecast", "step", "I", false)
  | _ => ("PuppetTurns$Forecast", "greatest", "I", false)
def ty_2 : Nat → FieldType := fun k => match k with
  | 0 => .object "PuppetTurns$Scene"
  | 1 => .object "PuppetTurns$Survey"
  | 2 => .object "PuppetTurns$Cells"
  | 3 => .int
  | _ => .int
def T_3 : u_T := fun k => match k with
  | 0 => ("PuppetTurns$History", "slots", "[LPuppetTurns$Scene;", true)
  | 1 => ("PuppetTurns$History", "newest", "I", false)
  | _ => ("PuppetTurns$History", "size", "I", false)
def ty_3 : Nat → FieldType := fun k => match k with
  | 0 => .array (.object "PuppetTurns$Scene")
  | 1 => .int
  | _ => .int
def T_4 : u_T := fun k => match k with
  | 0 => ("PuppetTurns$Reader", "script", "LPuppetTurns$Script;", true)
  | 1 => ("PuppetTurns$Reader", "steps", "LPuppetTurns$Steps;", true)
  | 2 => ("PuppetTurns$Reader", "opened", "LPuppetTurns$Cells;", true)
  | 3 => ("PuppetTurns$Reader", "place", "I", false)
  | 4 => ("PuppetTurns$Reader", "depth", "I", false)
  | _ => ("PuppetTurns$Reader", "fault", "I", false)
def ty_4 : Nat → FieldType := fun k => match k with
  | 0 => .object "PuppetTurns$Script"
  | 1 => .object "PuppetTurns$Steps"
  | 2 => .object "PuppetTurns$Cells"
  | 3 => .int
  | 4 => .int
  | _ => .int
def T_5 : u_T := fun k => match k with
  | 0 => ("PuppetTurns$Scene", "pictures", "LPuppetTurns$Cells;", true)
  | 1 => ("PuppetTurns$Scene", "puppets", "LPuppetTurns$Cells;", true)
  | 2 => ("PuppetTurns$Scene", "order", "LPuppetTurns$Cells;", true)
  | 3 => ("PuppetTurns$Scene", "there", "I", false)
  | 4 => ("PuppetTurns$Scene", "arrived", "I", false)
  | 5 => ("PuppetTurns$Scene", "limit", "I", false)
  | 6 => ("PuppetTurns$Scene", "rule", "I", false)
  | 7 => ("PuppetTurns$Scene", "step", "I", false)
  | _ => ("PuppetTurns$Scene", "frames", "I", false)
def ty_5 : Nat → FieldType := fun k => match k with
  | 0 => .object "PuppetTurns$Cells"
  | 1 => .object "PuppetTurns$Cells"
  | 2 => .object "PuppetTurns$Cells"
  | 3 => .int
  | 4 => .int
  | 5 => .int
  | 6 => .int
  | 7 => .int
  | _ => .int
def T_6 : u_T := fun k => match k with
  | 0 => ("PuppetTurns$Schedule", "acts", "LPuppetTurns$Cells;", true)
  | 1 => ("PuppetTurns$Schedule", "timesLeft", "LPuppetTurns$Cells;", true)
  | 2 => ("PuppetTurns$Schedule", "size", "I", false)
  | 3 => ("PuppetTurns$Schedule", "depth", "I", false)
  | _ => ("PuppetTurns$Schedule", "excess", "I", false)
def ty_6 : Nat → FieldType := fun k => match k with
  | 0 => .object "PuppetTurns$Cells"
  | 1 => .object "PuppetTurns$Cells"
  | 2 => .int
  | 3 => .int
  | _ => .int
def T_7 : u_T := fun k => match k with
  | 0 => ("PuppetTurns$Script", "characters", "LPuppetTurns$Cells;", true)
  | _ => ("PuppetTurns$Script", "length", "I", false)
def ty_7 : Nat → FieldType := fun k => match k with
  | 0 => .object "PuppetTurns$Cells"
  | _ => .int
def T_8 : u_T := fun k => match k with
  | 0 => ("PuppetTurns$Sight", "shownPuppets", "LPuppetTurns$Cells;", true)
  | _ => ("PuppetTurns$Sight", "size", "I", false)
def ty_8 : Nat → FieldType := fun k => match k with
  | 0 => .object "PuppetTurns$Cells"
  | _ => .int
def T_9 : u_T := fun k => match k with
  | 0 => ("PuppetTurns$Steps", "parts", "LPuppetTurns$Cells;", true)
  | _ => ("PuppetTurns$Steps", "length", "I", false)
def ty_9 : Nat → FieldType := fun k => match k with
  | 0 => .object "PuppetTurns$Cells"
  | _ => .int
def T_10 : u_T := fun k => match k with
  | 0 => ("PuppetTurns$Survey", "standing", "LPuppetTurns$Cells;", true)
  | _ => ("PuppetTurns$Survey", "hiddenLines", "LPuppetTurns$Cells;", true)
def ty_10 : Nat → FieldType := fun k => match k with
  | 0 => .object "PuppetTurns$Cells"
  | _ => .object "PuppetTurns$Cells"
def T_11 : u_T := fun k => match k with
  | 0 => ("PuppetTurns", "scene", "LPuppetTurns$Scene;", true)
  | 1 => ("PuppetTurns", "before", "LPuppetTurns$Scene;", true)
  | 2 => ("PuppetTurns", "survey", "LPuppetTurns$Survey;", true)
  | 3 => ("PuppetTurns", "sight", "LPuppetTurns$Sight;", true)
  | 4 => ("PuppetTurns", "forecast", "LPuppetTurns$Forecast;", true)
  | 5 => ("PuppetTurns", "history", "LPuppetTurns$History;", true)
  | 6 => ("PuppetTurns", "reader", "LPuppetTurns$Reader;", true)
  | 7 => ("PuppetTurns", "schedule", "LPuppetTurns$Schedule;", true)
  | _ => ("PuppetTurns", "latest", "LPuppetTurns$Failure;", true)
def ty_11 : Nat → FieldType := fun k => match k with
  | 0 => .object "PuppetTurns$Scene"
  | 1 => .object "PuppetTurns$Scene"
  | 2 => .object "PuppetTurns$Survey"
  | 3 => .object "PuppetTurns$Sight"
  | 4 => .object "PuppetTurns$Forecast"
  | 5 => .object "PuppetTurns$History"
  | 6 => .object "PuppetTurns$Reader"
  | 7 => .object "PuppetTurns$Schedule"
  | _ => .object "PuppetTurns$Failure"
/-- a class: its name, fields, how many, their types -/
def e_ct : Nat → String × u_T × Nat × (Nat → FieldType) := fun k => (bif Nat.ble 6 k then (bif Nat.ble 9 k then (bif Nat.ble 10 k then (bif Nat.ble 11 k then ("PuppetTurns", T_11, 9, ty_11) else ("PuppetTurns$Survey", T_10, 2, ty_10)) else ("PuppetTurns$Steps", T_9, 2, ty_9)) else (bif Nat.ble 7 k then (bif Nat.ble 8 k then ("PuppetTurns$Sight", T_8, 2, ty_8) else ("PuppetTurns$Script", T_7, 2, ty_7)) else ("PuppetTurns$Schedule", T_6, 5, ty_6))) else (bif Nat.ble 3 k then (bif Nat.ble 4 k then (bif Nat.ble 5 k then ("PuppetTurns$Scene", T_5, 9, ty_5) else ("PuppetTurns$Reader", T_4, 6, ty_4)) else ("PuppetTurns$History", T_3, 3, ty_3)) else (bif Nat.ble 1 k then (bif Nat.ble 2 k then ("PuppetTurns$Forecast", T_2, 5, ty_2) else ("PuppetTurns$Failure", T_1, 6, ty_1)) else ("PuppetTurns$Cells", T_0, 2, ty_0))))
abbrev XO : Type := Instr × Nat × Nat × Nat × Bool × List Nat × List (Int32 × Nat)
abbrev XM : Type := MethodName × ByteArray × Nat × Option FieldType × Room × Nat × List (Nat × XO)
def mt_0 : XM := (⟨"PuppetTurns$Cells", "<init>", "(II)V"⟩, prog_2_method_1_code, 3, (Option.none : Option Jvm.ClassFile.FieldType), { frames := 1, cells := 1, slots := 600, locals := 60 }, 0, [
(0, .aload_n 0, 1, 0, 0, false, [], []),
  (1, .invokespecial 1, 3, 1000, 0, false, [49, 36, 37], []),
  (4, .aload_n 0, 1, 0, 0, false, [], []),
  (5, .iload_n 1, 1, 0, 0, false, [], []),
  (6, .iload_n 2, 1, 0, 0, false, [], []),
  (7, .imul, 1, 0, 0, false, [], []),
  (8, .iconst 0, 1, 0, 0, false, [], [(0, 0)]),
  (9, .invokestatic 7, 3, 98, 2, false, [50, 18, 52, 51], []),
  (12, .newarray .int, 2, 0, 0, false, [60], []),
  (14, .putfield 13, 3, 0, 0, false, [53], []),
  (17, .aload_n 0, 1, 0, 0, false, [], []),
  (18, .iload_n 2, 1, 0, 0, false, [], []),
  (19, .putfield 19, 3, 0, 1, false, [54], []),
  (22, .return_, 1, 0, 0, false, [], [])])
def mt_1 : XM := (⟨"PuppetTurns$Cells", "get", "(I)I"⟩, prog_2_method_2_code, 2, (Option.some Jvm.ClassFile.FieldType.int), { frames := 0, cells := 0, slots := 0, locals := 0 }, 0, [
(0, .iload_n 1, 1, 0, 0, false, [], []),
  (1, .ifCond .lt 21, 3, 22, 0, false, [], []),
  (4, .iload_n 1, 1, 0, 0, false, [], []),
  (5, .aload_n 0, 1, 0, 0, false, [], []),
  (6, .getfield 13, 3, 0, 0, false, [53], []),
  (9, .arraylength, 1, 0, 0, false, [], []),
  (10, .if_icmp .ge 12, 3, 22, 0, false, [], []),
  (13, .aload_n 0, 1, 0, 0, false, [], []),
  (14, .getfield 13, 3, 0, 0, false, [53], []),
  (17, .iload_n 1, 1, 0, 0, false, [], []),
  (18, .iaload, 1, 0, 0, false, [], []),
  (19, .goto 4, 3, 23, 0, false, [], []),
  (22, .iconst 0, 1, 0, 0, false, [], [(0, 0)]),
  (23, .ireturn, 1, 0, 0, false, [], [])])
def mt_2 : XM := (⟨"PuppetTurns$Cells", "get", "(II)I"⟩, prog_2_method_3_code, 4, (Option.some Jvm.ClassFile.FieldType.int), { frames := 0, cells := 0, slots := 0, locals := 0 }, 0, [
(0, .iload_n 1, 1, 0, 0, false, [], []),
  (1, .aload_n 0, 1, 0, 0, false, [], []),
  (2, .getfield 19, 3, 0, 1, false, [54], []),
  (5, .imul, 1, 0, 0, false, [], []),
  (6, .iload_n 2, 1, 0, 0, false, [], []),
  (7, .iadd, 1, 0, 0, false, [], []),
  (8, .istore_n 3, 1, 0, 0, false, [], []),
  (9, .iload_n 3, 1, 0, 0, false, [], []),
  (10, .ifCond .lt 21, 3, 31, 0, false, [], []),
  (13, .iload_n 3, 1, 0, 0, false, [], []),
  (14, .aload_n 0, 1, 0, 0, false, [], []),
  (15, .getfield 13, 3, 0, 0, false, [53], []),
  (18, .arraylength, 1, 0, 0, false, [], []),
  (19, .if_icmp .ge 12, 3, 31, 0, false, [], []),
  (22, .aload_n 0, 1, 0, 0, false, [], []),
  (23, .getfield 13, 3, 0, 0, false, [53], []),
  (26, .iload_n 3, 1, 0, 0, false, [], []),
  (27, .iaload, 1, 0, 0, false, [], []),
  (28, .goto 4, 3, 32, 0, false, [], []),
  (31, .iconst 0, 1, 0, 0, false, [], [(0, 0)]),
  (32, .ireturn, 1, 0, 0, false, [], [])])
def mt_3 : XM := (⟨"PuppetTurns$Cells", "set", "(II)V"⟩, prog_2_method_4_code, 3, (Option.none : Option Jvm.ClassFile.FieldType), { frames := 0, cells := 0, slots := 0, locals := 0 }, 0, [
(0, .iload_n 1, 1, 0, 0, false, [], []),
  (1, .ifCond .lt 19, 3, 20, 0, false, [], []),
  (4, .iload_n 1, 1, 0, 0, false, [], []),
  (5, .aload_n 0, 1, 0, 0, false, [], []),
  (6, .getfield 13, 3, 0, 0, false, [53], []),
  (9, .arraylength, 1, 0, 0, false, [], []),
  (10, .if_icmp .ge 10, 3, 20, 0, false, [], []),
  (13, .aload_n 0, 1, 0, 0, false, [], []),
  (14, .getfield 13, 3, 0, 0, false, [53], []),
  (17, .iload_n 1, 1, 0, 0, false, [], []),
  (18, .iload_n 2, 1, 0, 0, false, [], []),
  (19, .iastore, 1, 0, 0, false, [], []),
  (20, .return_, 1, 0, 0, false, [], [])])
def mt_4 : XM := (⟨"PuppetTurns$Cells", "set", "(III)V"⟩, prog_2_method_5_code, 5, (Option.none : Option Jvm.ClassFile.FieldType), { frames := 0, cells := 0, slots := 0, locals := 0 }, 0, [
(0, .iload_n 1, 1, 0, 0, false, [], []),
  (1, .aload_n 0, 1, 0, 0, false, [], []),
  (2, .getfield 19, 3, 0, 1, false, [54], []),
  (5, .imul, 1, 0, 0, false, [], []),
  (6, .iload_n 2, 1, 0, 0, false, [], []),
  (7, .iadd, 1, 0, 0, false, [], []),
  (8, .istore 4, 2, 0, 0, false, [], []),
  (10, .iload 4, 2, 0, 0, false, [], []),
  (12, .ifCond .lt 21, 3, 33, 0, false, [], []),
  (15, .iload 4, 2, 0, 0, false, [], []),
  (17, .aload_n 0, 1, 0, 0, false, [], []),
  (18, .getfield 13, 3, 0, 0, false, [53], []),
  (21, .arraylength, 1, 0, 0, false, [], []),
  (22, .if_icmp .ge 11, 3, 33, 0, false, [], []),
  (25, .aload_n 0, 1, 0, 0, false, [], []),
  (26, .getfield 13, 3, 0, 0, false, [53], []),
  (29, .iload 4, 2, 0, 0, false, [], []),
  (31, .iload_n 3, 1, 0, 0, false, [], []),
  (32, .iastore, 1, 0, 0, false, [], []),
  (33, .return_, 1, 0, 0, false, [], [])])
def mt_5 : XM := (⟨"PuppetTurns$Cells", "add", "(II)V"⟩, prog_2_method_6_code, 3, (Option.none : Option Jvm.ClassFile.FieldType), { frames := 0, cells := 0, slots := 0, locals := 0 }, 0, [
(0, .iload_n 1, 1, 0, 0, false, [], []),
  (1, .ifCond .lt 22, 3, 23, 0, false, [], []),
  (4, .iload_n 1, 1, 0, 0, false, [], []),
  (5, .aload_n 0, 1, 0, 0, false, [], []),
  (6, .getfield 13, 3, 0, 0, false, [53], []),
  (9, .arraylength, 1, 0, 0, false, [], []),
  (10, .if_icmp .ge 13, 3, 23, 0, false, [], []),
  (13, .aload_n 0, 1, 0, 0, false, [], []),
  (14, .getfield 13, 3, 0, 0, false, [53], []),
  (17, .iload_n 1, 1, 0, 0, false, [], []),
  (18, .dup2, 1, 0, 0, false, [], []),
  (19, .iaload, 1, 0, 0, false, [], []),
  (20, .iload_n 2, 1, 0, 0, false, [], []),
  (21, .iadd, 1, 0, 0, false, [], []),
  (22, .iastore, 1, 0, 0, false, [], []),
  (23, .return_, 1, 0, 0, false, [], [])])
def mt_6 : XM := (⟨"PuppetTurns$Cells", "fill", "(I)V"⟩, prog_2_method_7_code, 3, (Option.none : Option Jvm.ClassFile.FieldType), { frames := 0, cells := 0, slots := 0, locals := 0 }, 0, [
(0, .iconst 0, 1, 0, 0, false, [], [(0, 0)]),
  (1, .istore_n 2, 1, 0, 0, false, [], []),
  (2, .iload_n 2, 1, 0, 0, false, [], []),
  (3, .aload_n 0, 1, 0, 0, false, [], []),
  (4, .getfield 13, 3, 0, 0, false, [53], []),
  (7, .arraylength, 1, 0, 0, false, [], []),
  (8, .if_icmp .ge 16, 3, 24, 0, false, [], []),
  (11, .aload_n 0, 1, 0, 0, false, [], []),
  (12, .getfield 13, 3, 0, 0, false, [53], []),
  (15, .iload_n 2, 1, 0, 0, false, [], []),
  (16, .iload_n 1, 1, 0, 0, false, [], []),
  (17, .iastore, 1, 0, 0, false, [], []),
  (18, .iinc 2 1, 3, 0, 0, false, [], [(1, 0)]),
  (21, .goto (-19), 3, 2, 0, false, [], []),
  (24, .return_, 1, 0, 0, false, [], [])])
def mt_7 : XM := (⟨"PuppetTurns$Cells", "copyFrom", "(LPuppetTurns$Cells;)V"⟩, prog_2_method_8_code, 2, (Option.none : Option Jvm.ClassFile.FieldType), { frames := 1, cells := 0, slots := 0, locals := 60 }, 0, [
(0, .aload_n 1, 1, 0, 0, false, [], []),
  (1, .getfield 13, 3, 0, 0, false, [53], []),
  (4, .iconst 0, 1, 0, 0, false, [], [(0, 0)]),
  (5, .aload_n 0, 1, 0, 0, false, [], []),
  (6, .getfield 13, 3, 0, 0, false, [53], []),
  (9, .iconst 0, 1, 0, 0, false, [], [(0, 0)]),
  (10, .aload_n 1, 1, 0, 0, false, [], []),
  (11, .getfield 13, 3, 0, 0, false, [53], []),
  (14, .arraylength, 1, 0, 0, false, [], []),
  (15, .aload_n 0, 1, 0, 0, false, [], []),
  (16, .getfield 13, 3, 0, 0, false, [53], []),
  (19, .arraylength, 1, 0, 0, false, [], []),
  (20, .invokestatic 23, 3, 99, 2, false, [344, 18, 346, 345], []),
  (23, .invokestatic 26, 3, 1001, 0, false, [347, 349, 348, 29], []),
  (26, .return_, 1, 0, 0, false, [], [])])
def mt_8 : XM := (⟨"PuppetTurns$Failure", "<init>", "()V"⟩, prog_3_method_1_code, 1, (Option.none : Option Jvm.ClassFile.FieldType), { frames := 1, cells := 0, slots := 0, locals := 60 }, 1, [
(0, .aload_n 0, 1, 0, 0, false, [], []),
  (1, .invokespecial 3, 3, 1000, 0, false, [284, 36, 37], []),
  (4, .aload_n 0, 1, 0, 0, false, [], []),
  (5, .iconst 0, 1, 0, 0, false, [], [(0, 0)]),
  (6, .putfield 9, 3, 1, 0, false, [285], []),
  (9, .aload_n 0, 1, 0, 0, false, [], []),
  (10, .iconst 0, 1, 0, 0, false, [], [(0, 0)]),
  (11, .putfield 15, 3, 1, 1, false, [286], []),
  (14, .aload_n 0, 1, 0, 0, false, [], []),
  (15, .iconst 0, 1, 0, 0, false, [], [(0, 0)]),
  (16, .putfield 19, 3, 1, 2, false, [287], []),
  (19, .aload_n 0, 1, 0, 0, false, [], []),
  (20, .iconst 0, 1, 0, 0, false, [], [(0, 0)]),
  (21, .putfield 22, 3, 1, 3, false, [288], []),
  (24, .aload_n 0, 1, 0, 0, false, [], []),
  (25, .iconst 0, 1, 0, 0, false, [], [(0, 0)]),
  (26, .putfield 25, 3, 1, 4, false, [289], []),
  (29, .aload_n 0, 1, 0, 0, false, [], []),
  (30, .bipush (-109), 2, 0, 0, false, [], [((-109), 0)]),
  (32, .putfield 28, 3, 1, 5, false, [290], []),
  (35, .return_, 1, 0, 0, false, [], [])])
def mt_9 : XM := (⟨"PuppetTurns$Failure", "part", "(I)I"⟩, prog_3_method_3_code, 2, (Option.some Jvm.ClassFile.FieldType.int), { frames := 0, cells := 0, slots := 0, locals := 0 }, 1, [
(0, .aload_n 0, 1, 0, 0, false, [], []),
  (1, .getfield 9, 3, 1, 0, false, [285], []),
  (4, .ifCond .ne 6, 3, 10, 0, false, [], []),
  (7, .bipush (-109), 2, 0, 0, false, [], [((-109), 0)]),
  (9, .ireturn, 1, 0, 0, false, [], []),
  (10, .iload_n 1, 1, 0, 0, false, [], []),
  (11, .tableswitch 49 0 3 #[29, 34, 39, 44], 29, 60, 0, false, [], [(0, 40), (1, 45), (2, 50), (3, 55)]),
  (40, .aload_n 0, 1, 0, 0, false, [], []),
  (41, .getfield 15, 3, 1, 1, false, [286], []),
  (44, .ireturn, 1, 0, 0, false, [], []),
  (45, .aload_n 0, 1, 0, 0, false, [], []),
  (46, .getfield 19, 3, 1, 2, false, [287], []),
  (49, .ireturn, 1, 0, 0, false, [], []),
  (50, .aload_n 0, 1, 0, 0, false, [], []),
  (51, .getfield 22, 3, 1, 3, false, [288], []),
  (54, .ireturn, 1, 0, 0, false, [], []),
  (55, .aload_n 0, 1, 0, 0, false, [], []),
  (56, .getfield 25, 3, 1, 4, false, [289], []),
  (59, .ireturn, 1, 0, 0, false, [], []),
  (60, .aload_n 0, 1, 0, 0, false, [], []),
  (61, .getfield 28, 3, 1, 5, false, [290], []),
  (64, .ireturn, 1, 0, 0, false, [], [])])
def mt_10 : XM := (⟨"PuppetTurns$Forecast", "<init>", "()V"⟩, prog_4_method_1_code, 1, (Option.none : Option Jvm.ClassFile.FieldType), { frames := 3, cells := 14, slots := 3623, locals := 102 }, 2, [
(0, .aload_n 0, 1, 0, 0, false, [], []),
  (1, .invokespecial 3, 3, 1000, 0, false, [151, 36, 37], []),
  (4, .aload_n 0, 1, 0, 0, false, [], []),
  (5, .new 9, 3, 5, 0, false, [152, 39, 16], []),
  (8, .dup, 1, 0, 0, false, [], []),
  (9, .invokespecial 11, 3, 24, 0, false, [153, 16, 42, 41], []),
  (12, .putfield 12, 3, 2, 0, false, [158], []),
  (15, .aload_n 0, 1, 0, 0, false, [], []),
  (16, .new 18, 3, 10, 0, false, [154, 113, 19], []),
  (19, .dup, 1, 0, 0, false, [], []),
  (20, .invokespecial 20, 3, 66, 0, true, [155, 19, 116, 115], []),
  (23, .putfield 21, 3, 2, 1, false, [159], []),
  (26, .aload_n 0, 1, 0, 0, false, [], []),
  (27, .new 25, 3, 0, 0, false, [156, 45, 17], []),
  (30, .dup, 1, 0, 0, false, [], []),
  (31, .bipush 20, 2, 0, 0, false, [], [(20, 0)]),
  (33, .iconst 1, 1, 0, 0, false, [], [(1, 0)]),
  (34, .invokespecial 27, 3, 0, 2, false, [157, 17, 48, 47], []),
  (37, .putfield 30, 3, 2, 2, false, [160], []),
  (40, .aload_n 0, 1, 0, 0, false, [], []),
  (41, .iconst 1, 1, 0, 0, false, [], [(1, 0)]),
  (42, .putfield 34, 3, 2, 3, false, [161], []),
  (45, .aload_n 0, 1, 0, 0, false, [], []),
  (46, .iconst 0, 1, 0, 0, false, [], [(0, 0)]),
  (47, .putfield 38, 3, 2, 4, false, [163], []),
  (50, .return_, 1, 0, 0, false, [], [])])
def mt_11 : XM := (⟨"PuppetTurns$Forecast", "hiddenSince", "(LPuppetTurns$Scene;I)I"⟩, prog_4_method_2_code, 3, (Option.some Jvm.ClassFile.FieldType.int), { frames := 1, cells := 0, slots := 0, locals := 23 }, 2, [
(0, .aload_n 0, 1, 0, 0, false, [], []),
  (1, .getfield 12, 3, 2, 0, false, [158], []),
  (4, .getfield 41, 3, 5, 1, true, [67], []),
  (7, .iload_n 2, 1, 0, 0, false, [], []),
  (8, .bipush 7, 2, 0, 0, false, [], [(7, 0)]),
  (10, .invokevirtual 44, 3, 2, 2, false, [636, 17, 360, 358, 359], []),
  (13, .aload_n 1, 1, 0, 0, false, [], []),
  (14, .getfield 41, 3, 5, 1, true, [67], []),
  (17, .iload_n 2, 1, 0, 0, false, [], []),
  (18, .bipush 7, 2, 0, 0, false, [], [(7, 0)]),
  (20, .invokevirtual 44, 3, 2, 2, false, [636, 17, 360, 358, 359], []),
  (23, .isub, 1, 0, 0, false, [], []),
  (24, .ireturn, 1, 0, 0, false, [], [])])
def mt_12 : XM := (⟨"PuppetTurns$Forecast", "hiddenFrames", "(LPuppetTurns$Scene;II)I"⟩, prog_4_method_3_code, 5, (Option.some Jvm.ClassFile.FieldType.int), { frames := 4, cells := 0, slots := 0, locals := 102 }, 2, [
(0, .aload_n 0, 1, 0, 0, false, [], []),
  (1, .getfield 12, 3, 2, 0, false, [158], []),
  (4, .aload_n 1, 1, 0, 0, false, [], []),
  (5, .invokevirtual 48, 3, 25, 1, false, [629, 16, 339, 337, 338], []),
  (8, .iconst 0, 1, 0, 0, false, [], [(0, 0)]),
  (9, .istore 4, 2, 0, 0, false, [], []),
  (11, .iload 4, 2, 0, 0, false, [], []),
  (13, .iload_n 3, 1, 0, 0, false, [], []),
  (14, .if_icmp .ge 23, 3, 37, 0, false, [], []),
  (17, .aload_n 0, 1, 0, 0, false, [], []),
  (18, .getfield 12, 3, 2, 0, false, [158], []),
  (21, .aload_n 0, 1, 0, 0, false, [], []),
  (22, .getfield 21, 3, 2, 1, false, [159], []),
  (25, .ldc 52, 2, 0, 0, false, [630], [(1000000, 0)]),
  (27, .invokevirtual 53, 3, 48, 2, false, [631, 16, 475, 473, 474], []),
  (30, .pop, 1, 0, 0, false, [], []),
  (31, .iinc 4 1, 3, 0, 0, false, [], [(1, 0)]),
  (34, .goto (-23), 3, 11, 0, false, [], []),
  (37, .aload_n 0, 1, 0, 0, false, [], []),
  (38, .aload_n 1, 1, 0, 0, false, [], []),
  (39, .iload_n 2, 1, 0, 0, false, [], []),
  (40, .invokevirtual 57, 3, 11, 2, false, [632, 21, 635, 634, 9], []),
  (43, .ireturn, 1, 0, 0, false, [], [])])
def mt_13 : XM := (⟨"PuppetTurns$Forecast", "framesUntilAllShown", "(LPuppetTurns$Scene;)I"⟩, prog_4_method_4_code, 3, (Option.some Jvm.ClassFile.FieldType.int), { frames := 4, cells := 0, slots := 0, locals := 102 }, 2, [
(0, .aload_n 1, 1, 0, 0, false, [], []),
  (1, .getfield 61, 3, 5, 3, true, [77], []),
  (4, .ifCond .ne 5, 3, 9, 0, false, [], []),
  (7, .iconst 0, 1, 0, 0, false, [], [(0, 0)]),
  (8, .ireturn, 1, 0, 0, false, [], []),
  (9, .aload_n 0, 1, 0, 0, false, [], []),
  (10, .getfield 12, 3, 2, 0, false, [158], []),
  (13, .aload_n 1, 1, 0, 0, false, [], []),
  (14, .invokevirtual 48, 3, 25, 1, false, [629, 16, 339, 337, 338], []),
  (17, .iconst 1, 1, 0, 0, false, [], [(1, 0)]),
  (18, .istore_n 2, 1, 0, 0, false, [], []),
  (19, .iload_n 2, 1, 0, 0, false, [], []),
  (20, .bipush 60, 2, 0, 0, false, [], [(60, 0)]),
  (22, .if_icmp .gt 34, 3, 56, 0, false, [], []),
  (25, .aload_n 0, 1, 0, 0, false, [], []),
  (26, .getfield 12, 3, 2, 0, false, [158], []),
  (29, .aload_n 0, 1, 0, 0, false, [], []),
  (30, .getfield 21, 3, 2, 1, false, [159], []),
  (33, .ldc 52, 2, 0, 0, false, [630], [(1000000, 0)]),
  (35, .invokevirtual 53, 3, 48, 2, false, [631, 16, 475, 473, 474], []),
  (38, .pop, 1, 0, 0, false, [], []),
  (39, .aload_n 0, 1, 0, 0, false, [], []),
  (40, .aload_n 1, 1, 0, 0, false, [], []),
  (41, .iload_n 2, 1, 0, 0, false, [], []),
  (42, .invokevirtual 64, 3, 14, 2, false, [645, 21, 648, 647, 10], []),
  (45, .ifCond .eq 5, 3, 50, 0, false, [], []),
  (48, .iload_n 2, 1, 0, 0, false, [], []),
  (49, .ireturn, 1, 0, 0, false, [], []),
  (50, .iinc 2 1, 3, 0, 0, false, [], [(1, 0)]),
  (53, .goto (-34), 3, 19, 0, false, [], []),
  (56, .bipush (-109), 2, 0, 0, false, [], [((-109), 0)]),
  (58, .ireturn, 1, 0, 0, false, [], [])])
def mt_14 : XM := (⟨"PuppetTurns$Forecast", "allShownWithin", "(LPuppetTurns$Scene;I)Z"⟩, prog_4_method_5_code, 4, (Option.some Jvm.ClassFile.FieldType.boolean), { frames := 2, cells := 0, slots := 0, locals := 45 }, 2, [
(0, .iconst 0, 1, 0, 0, false, [], [(0, 0)]),
  (1, .istore_n 3, 1, 0, 0, false, [], []),
  (2, .iload_n 3, 1, 0, 0, false, [], []),
  (3, .aload_n 1, 1, 0, 0, false, [], []),
  (4, .getfield 61, 3, 5, 3, true, [77], []),
  (7, .if_icmp .ge 28, 3, 35, 0, false, [], []),
  (10, .aload_n 0, 1, 0, 0, false, [], []),
  (11, .aload_n 1, 1, 0, 0, false, [], []),
  (12, .aload_n 1, 1, 0, 0, false, [], []),
  (13, .getfield 68, 3, 5, 2, true, [73], []),
  (16, .iload_n 3, 1, 0, 0, false, [], []),
  (17, .invokevirtual 71, 3, 1, 1, false, [649, 17, 413, 411, 412], []),
  (20, .invokevirtual 57, 3, 11, 2, false, [632, 21, 635, 634, 9], []),
  (23, .iload_n 2, 1, 0, 0, false, [], []),
  (24, .if_icmp .lt 5, 3, 29, 0, false, [], []),
  (27, .iconst 0, 1, 0, 0, false, [], [(0, 0)]),
  (28, .ireturn, 1, 0, 0, false, [], []),
  (29, .iinc 3 1, 3, 0, 0, false, [], [(1, 0)]),
  (32, .goto (-30), 3, 2, 0, false, [], []),
  (35, .iconst 1, 1, 0, 0, false, [], [(1, 0)]),
  (36, .ireturn, 1, 0, 0, false, [], [])])
def mt_15 : XM := (⟨"PuppetTurns$Forecast", "findStep", "(LPuppetTurns$Scene;)V"⟩, prog_4_method_6_code, 4, (Option.none : Option Jvm.ClassFile.FieldType), { frames := 5, cells := 0, slots := 0, locals := 124 }, 2, [
(0, .aload_n 0, 1, 0, 0, false, [], []),
  (1, .aload_n 1, 1, 0, 0, false, [], []),
  (2, .invokevirtual 74, 3, 16, 1, false, [658, 21, 661, 660, 11], []),
  (5, .aload_n 0, 1, 0, 0, false, [], []),
  (6, .iconst 1, 1, 0, 0, false, [], [(1, 0)]),
  (7, .putfield 34, 3, 2, 3, false, [161], []),
  (10, .aload_n 0, 1, 0, 0, false, [], []),
  (11, .aload_n 0, 1, 0, 0, false, [], []),
  (12, .aload_n 1, 1, 0, 0, false, [], []),
  (13, .iconst 1, 1, 0, 0, false, [], [(1, 0)]),
  (14, .invokevirtual 77, 3, 17, 2, false, [667, 21, 670, 669, 12], []),
  (17, .putfield 38, 3, 2, 4, false, [163], []),
  (20, .iconst 2, 1, 0, 0, false, [], [(2, 0)]),
  (21, .istore_n 2, 1, 0, 0, false, [], []),
  (22, .iload_n 2, 1, 0, 0, false, [], []),
  (23, .bipush 19, 2, 0, 0, false, [], [(19, 0)]),
  (25, .if_icmp .gt 34, 3, 59, 0, false, [], []),
  (28, .aload_n 0, 1, 0, 0, false, [], []),
  (29, .aload_n 1, 1, 0, 0, false, [], []),
  (30, .iload_n 2, 1, 0, 0, false, [], []),
  (31, .invokevirtual 77, 3, 17, 2, false, [667, 21, 670, 669, 12], []),
  (34, .istore_n 3, 1, 0, 0, false, [], []),
  (35, .iload_n 3, 1, 0, 0, false, [], []),
  (36, .aload_n 0, 1, 0, 0, false, [], []),
  (37, .getfield 38, 3, 2, 4, false, [163], []),
  (40, .if_icmp .ge 13, 3, 53, 0, false, [], []),
  (43, .aload_n 0, 1, 0, 0, false, [], []),
  (44, .iload_n 2, 1, 0, 0, false, [], []),
  (45, .putfield 34, 3, 2, 3, false, [161], []),
  (48, .aload_n 0, 1, 0, 0, false, [], []),
  (49, .iload_n 3, 1, 0, 0, false, [], []),
  (50, .putfield 38, 3, 2, 4, false, [163], []),
  (53, .iinc 2 1, 3, 0, 0, false, [], [(1, 0)]),
  (56, .goto (-34), 3, 22, 0, false, [], []),
  (59, .return_, 1, 0, 0, false, [], [])])
def mt_16 : XM := (⟨"PuppetTurns$Forecast", "noteHiddenByTurns", "(LPuppetTurns$Scene;)V"⟩, prog_4_method_7_code, 3, (Option.none : Option Jvm.ClassFile.FieldType), { frames := 4, cells := 0, slots := 0, locals := 102 }, 2, [
(0, .aload_n 0, 1, 0, 0, false, [], []),
  (1, .getfield 12, 3, 2, 0, false, [158], []),
  (4, .aload_n 1, 1, 0, 0, false, [], []),
  (5, .invokevirtual 48, 3, 25, 1, false, [629, 16, 339, 337, 338], []),
  (8, .aload_n 0, 1, 0, 0, false, [], []),
  (9, .getfield 12, 3, 2, 0, false, [158], []),
  (12, .iconst 1, 1, 0, 0, false, [], [(1, 0)]),
  (13, .putfield 80, 3, 5, 6, true, [86], []),
  (16, .aload_n 0, 1, 0, 0, false, [], []),
  (17, .getfield 12, 3, 2, 0, false, [158], []),
  (20, .iconst 1, 1, 0, 0, false, [], [(1, 0)]),
  (21, .putfield 83, 3, 5, 7, true, [89], []),
  (24, .iconst 0, 1, 0, 0, false, [], [(0, 0)]),
  (25, .istore_n 2, 1, 0, 0, false, [], []),
  (26, .iload_n 2, 1, 0, 0, false, [], []),
  (27, .aload_n 1, 1, 0, 0, false, [], []),
  (28, .getfield 61, 3, 5, 3, true, [77], []),
  (31, .if_icmp .ge 38, 3, 69, 0, false, [], []),
  (34, .aload_n 0, 1, 0, 0, false, [], []),
  (35, .getfield 12, 3, 2, 0, false, [158], []),
  (38, .aload_n 0, 1, 0, 0, false, [], []),
  (39, .getfield 21, 3, 2, 1, false, [159], []),
  (42, .ldc 52, 2, 0, 0, false, [630], [(1000000, 0)]),
  (44, .invokevirtual 53, 3, 48, 2, false, [631, 16, 475, 473, 474], []),
  (47, .pop, 1, 0, 0, false, [], []),
  (48, .aload_n 0, 1, 0, 0, false, [], []),
  (49, .getfield 30, 3, 2, 2, false, [160], []),
  (52, .iload_n 2, 1, 0, 0, false, [], []),
  (53, .aload_n 0, 1, 0, 0, false, [], []),
  (54, .getfield 21, 3, 2, 1, false, [159], []),
  (57, .invokevirtual 84, 3, 70, 0, false, [662, 19, 665, 663, 664], []),
  (60, .invokevirtual 88, 3, 3, 2, false, [666, 17, 393, 391, 392], []),
  (63, .iinc 2 1, 3, 0, 0, false, [], [(1, 0)]),
  (66, .goto (-40), 3, 26, 0, false, [], []),
  (69, .return_, 1, 0, 0, false, [], [])])
def mt_17 : XM := (⟨"PuppetTurns$Forecast", "greatestWith", "(LPuppetTurns$Scene;I)I"⟩, prog_4_method_8_code, 5, (Option.some Jvm.ClassFile.FieldType.int), { frames := 2, cells := 0, slots := 0, locals := 47 }, 2, [
(0, .iconst 0, 1, 0, 0, false, [], [(0, 0)]),
  (1, .istore_n 3, 1, 0, 0, false, [], []),
  (2, .iconst 0, 1, 0, 0, false, [], [(0, 0)]),
  (3, .istore 4, 2, 0, 0, false, [], []),
  (5, .iload 4, 2, 0, 0, false, [], []),
  (7, .aload_n 1, 1, 0, 0, false, [], []),
  (8, .getfield 61, 3, 5, 3, true, [77], []),
  (11, .if_icmp .ge 32, 3, 43, 0, false, [], []),
  (14, .iload_n 3, 1, 0, 0, false, [], []),
  (15, .aload_n 0, 1, 0, 0, false, [], []),
  (16, .aload_n 1, 1, 0, 0, false, [], []),
  (17, .getfield 68, 3, 5, 2, true, [73], []),
  (20, .iload 4, 2, 0, 0, false, [], []),
  (22, .invokevirtual 71, 3, 1, 1, false, [649, 17, 413, 411, 412], []),
  (25, .iload_n 2, 1, 0, 0, false, [], []),
  (26, .aload_n 1, 1, 0, 0, false, [], []),
  (27, .getfield 61, 3, 5, 3, true, [77], []),
  (30, .invokevirtual 91, 3, 18, 3, false, [671, 21, 674, 673, 13], []),
  (33, .invokestatic 95, 3, 98, 2, false, [675, 18, 52, 51], []),
  (36, .istore_n 3, 1, 0, 0, false, [], []),
  (37, .iinc 4 1, 3, 0, 0, false, [], [(1, 0)]),
  (40, .goto (-35), 3, 5, 0, false, [], []),
  (43, .iload_n 3, 1, 0, 0, false, [], []),
  (44, .ireturn, 1, 0, 0, false, [], [])])
def mt_18 : XM := (⟨"PuppetTurns$Forecast", "framesHidden", "(III)I"⟩, prog_4_method_9_code, 7, (Option.some Jvm.ClassFile.FieldType.int), { frames := 1, cells := 0, slots := 0, locals := 21 }, 2, [
(0, .iconst 0, 1, 0, 0, false, [], [(0, 0)]),
  (1, .istore 4, 2, 0, 0, false, [], []),
  (3, .iconst 0, 1, 0, 0, false, [], [(0, 0)]),
  (4, .istore 5, 2, 0, 0, false, [], []),
  (6, .iload 5, 2, 0, 0, false, [], []),
  (8, .bipush 20, 2, 0, 0, false, [], [(20, 0)]),
  (10, .if_icmp .ge 43, 3, 53, 0, false, [], []),
  (13, .iload_n 3, 1, 0, 0, false, [], []),
  (14, .ifCond .le 12, 3, 26, 0, false, [], []),
  (17, .iload 5, 2, 0, 0, false, [], []),
  (19, .iload_n 2, 1, 0, 0, false, [], []),
  (20, .imul, 1, 0, 0, false, [], []),
  (21, .iload_n 3, 1, 0, 0, false, [], []),
  (22, .irem, 1, 0, 0, false, [], []),
  (23, .goto 4, 3, 27, 0, false, [], []),
  (26, .iconst 0, 1, 0, 0, false, [], [(0, 0)]),
  (27, .istore 6, 2, 0, 0, false, [], []),
  (29, .iload 4, 2, 0, 0, false, [], []),
  (31, .aload_n 0, 1, 0, 0, false, [], []),
  (32, .getfield 30, 3, 2, 2, false, [160], []),
  (35, .iload 6, 2, 0, 0, false, [], []),
  (37, .invokevirtual 71, 3, 1, 1, false, [649, 17, 413, 411, 412], []),
  (40, .iload_n 1, 1, 0, 0, false, [], []),
  (41, .ishr, 1, 0, 0, false, [], []),
  (42, .iconst 1, 1, 0, 0, false, [], [(1, 0)]),
  (43, .iand, 1, 0, 0, false, [], []),
  (44, .iadd, 1, 0, 0, false, [], []),
  (45, .istore 4, 2, 0, 0, false, [], []),
  (47, .iinc 5 1, 3, 0, 0, false, [], [(1, 0)]),
  (50, .goto (-44), 3, 6, 0, false, [], []),
  (53, .iload 4, 2, 0, 0, false, [], []),
  (55, .ireturn, 1, 0, 0, false, [], [])])
def mt_19 : XM := (⟨"PuppetTurns$History", "<init>", "()V"⟩, prog_5_method_1_code, 2, (Option.none : Option Jvm.ClassFile.FieldType), { frames := 3, cells := 36, slots := 9080, locals := 102 }, 3, [
(0, .aload_n 0, 1, 0, 0, false, [], []),
  (1, .invokespecial 3, 3, 1000, 0, false, [181, 36, 37], []),
  (4, .aload_n 0, 1, 0, 0, false, [], []),
  (5, .iconst 5, 1, 0, 0, false, [], [(5, 0)]),
  (6, .anewarray 9, 3, 0, 0, false, [182, 183], []),
  (9, .putfield 11, 3, 3, 0, false, [185], []),
  (12, .aload_n 0, 1, 0, 0, false, [], []),
  (13, .iconst 0, 1, 0, 0, false, [], [(0, 0)]),
  (14, .putfield 17, 3, 3, 1, false, [186], []),
  (17, .aload_n 0, 1, 0, 0, false, [], []),
  (18, .iconst 0, 1, 0, 0, false, [], [(0, 0)]),
  (19, .putfield 21, 3, 3, 2, false, [187], []),
  (22, .iconst 0, 1, 0, 0, false, [], [(0, 0)]),
  (23, .istore_n 1, 1, 0, 0, false, [], []),
  (24, .iload_n 1, 1, 0, 0, false, [], []),
  (25, .aload_n 0, 1, 0, 0, false, [], []),
  (26, .getfield 11, 3, 3, 0, false, [185], []),
  (29, .arraylength, 1, 0, 0, false, [], []),
  (30, .if_icmp .ge 22, 3, 52, 0, false, [], []),
  (33, .aload_n 0, 1, 0, 0, false, [], []),
  (34, .getfield 11, 3, 3, 0, false, [185], []),
  (37, .iload_n 1, 1, 0, 0, false, [], []),
  (38, .new 9, 3, 5, 0, false, [182, 39, 16], []),
  (41, .dup, 1, 0, 0, false, [], []),
  (42, .invokespecial 24, 3, 24, 0, false, [184, 16, 42, 41], []),
  (45, .aastore, 1, 0, 0, false, [], []),
  (46, .iinc 1 1, 3, 0, 0, false, [], [(1, 0)]),
  (49, .goto (-25), 3, 24, 0, false, [], []),
  (52, .return_, 1, 0, 0, false, [], [])])
def mt_20 : XM := (⟨"PuppetTurns$History", "newestSlot", "()LPuppetTurns$Scene;"⟩, prog_5_method_2_code, 1, (Option.some (Jvm.ClassFile.FieldType.object "PuppetTurns$Scene")), { frames := 0, cells := 0, slots := 0, locals := 0 }, 3, [
(0, .aload_n 0, 1, 0, 0, false, [], []),
  (1, .getfield 17, 3, 3, 1, false, [186], []),
  (4, .ifCond .lt 27, 3, 31, 0, false, [], []),
  (7, .aload_n 0, 1, 0, 0, false, [], []),
  (8, .getfield 17, 3, 3, 1, false, [186], []),
  (11, .aload_n 0, 1, 0, 0, false, [], []),
  (12, .getfield 11, 3, 3, 0, false, [185], []),
  (15, .arraylength, 1, 0, 0, false, [], []),
  (16, .if_icmp .ge 15, 3, 31, 0, false, [], []),
  (19, .aload_n 0, 1, 0, 0, false, [], []),
  (20, .getfield 11, 3, 3, 0, false, [185], []),
  (23, .aload_n 0, 1, 0, 0, false, [], []),
  (24, .getfield 17, 3, 3, 1, false, [186], []),
  (27, .aaload, 1, 0, 0, false, [], []),
  (28, .goto 4, 3, 32, 0, false, [], []),
  (31, .aconst_null, 1, 0, 0, false, [], []),
  (32, .areturn, 1, 0, 0, false, [], [])])
def mt_21 : XM := (⟨"PuppetTurns$History", "record", "(LPuppetTurns$Scene;)V"⟩, prog_5_method_3_code, 3, (Option.none : Option Jvm.ClassFile.FieldType), { frames := 3, cells := 0, slots := 0, locals := 102 }, 3, [
(0, .aload_n 0, 1, 0, 0, false, [], []),
  (1, .aload_n 0, 1, 0, 0, false, [], []),
  (2, .getfield 17, 3, 3, 1, false, [186], []),
  (5, .iconst 1, 1, 0, 0, false, [], [(1, 0)]),
  (6, .iadd, 1, 0, 0, false, [], []),
  (7, .iconst 5, 1, 0, 0, false, [], [(5, 0)]),
  (8, .irem, 1, 0, 0, false, [], []),
  (9, .putfield 17, 3, 3, 1, false, [186], []),
  (12, .aload_n 0, 1, 0, 0, false, [], []),
  (13, .aload_n 0, 1, 0, 0, false, [], []),
  (14, .getfield 21, 3, 3, 2, false, [187], []),
  (17, .iconst 1, 1, 0, 0, false, [], [(1, 0)]),
  (18, .iadd, 1, 0, 0, false, [], []),
  (19, .iconst 5, 1, 0, 0, false, [], [(5, 0)]),
  (20, .invokestatic 25, 3, 99, 2, false, [373, 18, 346, 345], []),
  (23, .putfield 21, 3, 3, 2, false, [187], []),
  (26, .aload_n 0, 1, 0, 0, false, [], []),
  (27, .invokevirtual 31, 3, 20, 0, false, [374, 22, 377, 376, 1], []),
  (30, .astore_n 2, 1, 0, 0, false, [], []),
  (31, .aload_n 2, 1, 0, 0, false, [], []),
  (32, .ifnull 8, 3, 40, 0, false, [], []),
  (35, .aload_n 2, 1, 0, 0, false, [], []),
  (36, .aload_n 1, 1, 0, 0, false, [], []),
  (37, .invokevirtual 35, 3, 25, 1, false, [378, 16, 339, 337, 338], []),
  (40, .return_, 1, 0, 0, false, [], [])])
def mt_22 : XM := (⟨"PuppetTurns$History", "restore", "(LPuppetTurns$Scene;)V"⟩, prog_5_method_4_code, 3, (Option.none : Option Jvm.ClassFile.FieldType), { frames := 3, cells := 0, slots := 0, locals := 102 }, 3, [
(0, .aload_n 0, 1, 0, 0, false, [], []),
  (1, .invokevirtual 31, 3, 20, 0, false, [374, 22, 377, 376, 1], []),
  (4, .astore_n 2, 1, 0, 0, false, [], []),
  (5, .aload_n 2, 1, 0, 0, false, [], []),
  (6, .ifnull 8, 3, 14, 0, false, [], []),
  (9, .aload_n 1, 1, 0, 0, false, [], []),
  (10, .aload_n 2, 1, 0, 0, false, [], []),
  (11, .invokevirtual 35, 3, 25, 1, false, [378, 16, 339, 337, 338], []),
  (14, .aload_n 0, 1, 0, 0, false, [], []),
  (15, .aload_n 0, 1, 0, 0, false, [], []),
  (16, .getfield 17, 3, 3, 1, false, [186], []),
  (19, .iconst 5, 1, 0, 0, false, [], [(5, 0)]),
  (20, .iadd, 1, 0, 0, false, [], []),
  (21, .iconst 1, 1, 0, 0, false, [], [(1, 0)]),
  (22, .isub, 1, 0, 0, false, [], []),
  (23, .iconst 5, 1, 0, 0, false, [], [(5, 0)]),
  (24, .irem, 1, 0, 0, false, [], []),
  (25, .putfield 17, 3, 3, 1, false, [186], []),
  (28, .aload_n 0, 1, 0, 0, false, [], []),
  (29, .dup, 1, 0, 0, false, [], []),
  (30, .getfield 21, 3, 3, 2, false, [187], []),
  (33, .iconst 1, 1, 0, 0, false, [], [(1, 0)]),
  (34, .isub, 1, 0, 0, false, [], []),
  (35, .putfield 21, 3, 3, 2, false, [187], []),
  (38, .return_, 1, 0, 0, false, [], [])])
def mt_23 : XM := (⟨"PuppetTurns$Reader", "<init>", "()V"⟩, prog_6_method_1_code, 1, (Option.none : Option Jvm.ClassFile.FieldType), { frames := 3, cells := 8, slots := 1810, locals := 102 }, 4, [
(0, .aload_n 0, 1, 0, 0, false, [], []),
  (1, .invokespecial 3, 3, 1000, 0, false, [201, 36, 37], []),
  (4, .aload_n 0, 1, 0, 0, false, [], []),
  (5, .new 9, 3, 7, 0, false, [202, 203, 24], []),
  (8, .dup, 1, 0, 0, false, [], []),
  (9, .invokespecial 11, 3, 53, 0, true, [204, 24, 206, 205], []),
  (12, .putfield 12, 3, 4, 0, false, [235], []),
  (15, .aload_n 0, 1, 0, 0, false, [], []),
  (16, .new 18, 3, 9, 0, false, [218, 219, 25], []),
  (19, .dup, 1, 0, 0, false, [], []),
  (20, .invokespecial 20, 3, 65, 0, true, [220, 25, 222, 221], []),
  (23, .putfield 21, 3, 4, 1, false, [237], []),
  (26, .aload_n 0, 1, 0, 0, false, [], []),
  (27, .new 25, 3, 0, 0, false, [233, 45, 17], []),
  (30, .dup, 1, 0, 0, false, [], []),
  (31, .iconst 4, 1, 0, 0, false, [], [(4, 0)]),
  (32, .iconst 1, 1, 0, 0, false, [], [(1, 0)]),
  (33, .invokespecial 27, 3, 0, 2, false, [234, 17, 48, 47], []),
  (36, .putfield 30, 3, 4, 2, false, [238], []),
  (39, .aload_n 0, 1, 0, 0, false, [], []),
  (40, .iconst 0, 1, 0, 0, false, [], [(0, 0)]),
  (41, .putfield 34, 3, 4, 3, false, [239], []),
  (44, .aload_n 0, 1, 0, 0, false, [], []),
  (45, .iconst 0, 1, 0, 0, false, [], [(0, 0)]),
  (46, .putfield 38, 3, 4, 4, false, [240], []),
  (49, .aload_n 0, 1, 0, 0, false, [], []),
  (50, .iconst (-1), 1, 0, 0, false, [], [((-1), 0)]),
  (51, .putfield 41, 3, 4, 5, false, [241], []),
  (54, .return_, 1, 0, 0, false, [], [])])
def mt_24 : XM := (⟨"PuppetTurns$Scene", "<init>", "()V"⟩, prog_7_method_1_code, 1, (Option.none : Option Jvm.ClassFile.FieldType), { frames := 2, cells := 6, slots := 1806, locals := 82 }, 5, [
(0, .aload_n 0, 1, 0, 0, false, [], []),
  (1, .invokespecial 3, 3, 1000, 0, false, [43, 36, 37], []),
  (4, .aload_n 0, 1, 0, 0, false, [], []),
  (5, .new 9, 3, 0, 0, false, [44, 45, 17], []),
  (8, .dup, 1, 0, 0, false, [], []),
  (9, .bipush 8, 2, 0, 0, false, [], [(8, 0)]),
  (11, .bipush 8, 2, 0, 0, false, [], [(8, 0)]),
  (13, .invokespecial 11, 3, 0, 2, false, [46, 17, 48, 47], []),
  (16, .putfield 14, 3, 5, 0, false, [65], []),
  (19, .aload_n 0, 1, 0, 0, false, [], []),
  (20, .new 9, 3, 0, 0, false, [44, 45, 17], []),
  (23, .dup, 1, 0, 0, false, [], []),
  (24, .bipush 20, 2, 0, 0, false, [], [(20, 0)]),
  (26, .bipush 10, 2, 0, 0, false, [], [(10, 0)]),
  (28, .invokespecial 11, 3, 0, 2, false, [46, 17, 48, 47], []),
  (31, .putfield 20, 3, 5, 1, false, [66], []),
  (34, .aload_n 0, 1, 0, 0, false, [], []),
  (35, .new 9, 3, 0, 0, false, [44, 45, 17], []),
  (38, .dup, 1, 0, 0, false, [], []),
  (39, .bipush 20, 2, 0, 0, false, [], [(20, 0)]),
  (41, .iconst 1, 1, 0, 0, false, [], [(1, 0)]),
  (42, .invokespecial 11, 3, 0, 2, false, [46, 17, 48, 47], []),
  (45, .putfield 23, 3, 5, 2, false, [70], []),
  (48, .aload_n 0, 1, 0, 0, false, [], []),
  (49, .iconst 0, 1, 0, 0, false, [], [(0, 0)]),
  (50, .putfield 26, 3, 5, 3, false, [74], []),
  (53, .aload_n 0, 1, 0, 0, false, [], []),
  (54, .iconst 0, 1, 0, 0, false, [], [(0, 0)]),
  (55, .putfield 30, 3, 5, 4, false, [79], []),
  (58, .aload_n 0, 1, 0, 0, false, [], []),
  (59, .bipush 8, 2, 0, 0, false, [], [(8, 0)]),
  (61, .putfield 33, 3, 5, 5, false, [81], []),
  (64, .aload_n 0, 1, 0, 0, false, [], []),
  (65, .iconst 0, 1, 0, 0, false, [], [(0, 0)]),
  (66, .putfield 36, 3, 5, 6, false, [85], []),
  (69, .aload_n 0, 1, 0, 0, false, [], []),
  (70, .iconst 1, 1, 0, 0, false, [], [(1, 0)]),
  (71, .putfield 39, 3, 5, 7, false, [88], []),
  (74, .aload_n 0, 1, 0, 0, false, [], []),
  (75, .iconst 0, 1, 0, 0, false, [], [(0, 0)]),
  (76, .putfield 42, 3, 5, 8, false, [91], []),
  (79, .aload_n 0, 1, 0, 0, false, [], []),
  (80, .getfield 14, 3, 5, 0, false, [65], []),
  (83, .sipush 255, 3, 0, 0, false, [], [(255, 0)]),
  (86, .invokevirtual 45, 3, 6, 1, false, [61, 17, 64, 62, 63], []),
  (89, .return_, 1, 0, 0, false, [], [])])
def mt_25 : XM := (⟨"PuppetTurns$Scene", "copyFrom", "(LPuppetTurns$Scene;)V"⟩, prog_7_method_2_code, 2, (Option.none : Option Jvm.ClassFile.FieldType), { frames := 2, cells := 0, slots := 0, locals := 81 }, 5, [
(0, .aload_n 0, 1, 0, 0, false, [], []),
  (1, .getfield 14, 3, 5, 0, false, [65], []),
  (4, .aload_n 1, 1, 0, 0, false, [], []),
  (5, .getfield 14, 3, 5, 0, false, [65], []),
  (8, .invokevirtual 49, 3, 7, 1, false, [340, 17, 343, 341, 342], []),
  (11, .aload_n 0, 1, 0, 0, false, [], []),
  (12, .getfield 20, 3, 5, 1, false, [66], []),
  (15, .aload_n 1, 1, 0, 0, false, [], []),
  (16, .getfield 20, 3, 5, 1, false, [66], []),
  (19, .invokevirtual 49, 3, 7, 1, false, [340, 17, 343, 341, 342], []),
  (22, .aload_n 0, 1, 0, 0, false, [], []),
  (23, .getfield 23, 3, 5, 2, false, [70], []),
  (26, .aload_n 1, 1, 0, 0, false, [], []),
  (27, .getfield 23, 3, 5, 2, false, [70], []),
  (30, .invokevirtual 49, 3, 7, 1, false, [340, 17, 343, 341, 342], []),
  (33, .aload_n 0, 1, 0, 0, false, [], []),
  (34, .aload_n 1, 1, 0, 0, false, [], []),
  (35, .getfield 26, 3, 5, 3, false, [74], []),
  (38, .putfield 26, 3, 5, 3, false, [74], []),
  (41, .aload_n 0, 1, 0, 0, false, [], []),
  (42, .aload_n 1, 1, 0, 0, false, [], []),
  (43, .getfield 30, 3, 5, 4, false, [79], []),
  (46, .putfield 30, 3, 5, 4, false, [79], []),
  (49, .aload_n 0, 1, 0, 0, false, [], []),
  (50, .aload_n 1, 1, 0, 0, false, [], []),
  (51, .getfield 33, 3, 5, 5, false, [81], []),
  (54, .putfield 33, 3, 5, 5, false, [81], []),
  (57, .aload_n 0, 1, 0, 0, false, [], []),
  (58, .aload_n 1, 1, 0, 0, false, [], []),
  (59, .getfield 36, 3, 5, 6, false, [85], []),
  (62, .putfield 36, 3, 5, 6, false, [85], []),
  (65, .aload_n 0, 1, 0, 0, false, [], []),
  (66, .aload_n 1, 1, 0, 0, false, [], []),
  (67, .getfield 39, 3, 5, 7, false, [88], []),
  (70, .putfield 39, 3, 5, 7, false, [88], []),
  (73, .aload_n 0, 1, 0, 0, false, [], []),
  (74, .aload_n 1, 1, 0, 0, false, [], []),
  (75, .getfield 42, 3, 5, 8, false, [91], []),
  (78, .putfield 42, 3, 5, 8, false, [91], []),
  (81, .return_, 1, 0, 0, false, [], [])])
def mt_26 : XM := (⟨"PuppetTurns$Scene", "position", "(I)I"⟩, prog_7_method_3_code, 3, (Option.some Jvm.ClassFile.FieldType.int), { frames := 1, cells := 0, slots := 0, locals := 21 }, 5, [
(0, .iconst 0, 1, 0, 0, false, [], [(0, 0)]),
  (1, .istore_n 2, 1, 0, 0, false, [], []),
  (2, .iload_n 2, 1, 0, 0, false, [], []),
  (3, .aload_n 0, 1, 0, 0, false, [], []),
  (4, .getfield 26, 3, 5, 3, false, [74], []),
  (7, .if_icmp .ge 23, 3, 30, 0, false, [], []),
  (10, .aload_n 0, 1, 0, 0, false, [], []),
  (11, .getfield 23, 3, 5, 2, false, [70], []),
  (14, .iload_n 2, 1, 0, 0, false, [], []),
  (15, .invokevirtual 53, 3, 1, 1, false, [410, 17, 413, 411, 412], []),
  (18, .iload_n 1, 1, 0, 0, false, [], []),
  (19, .if_icmp .ne 5, 3, 24, 0, false, [], []),
  (22, .iload_n 2, 1, 0, 0, false, [], []),
  (23, .ireturn, 1, 0, 0, false, [], []),
  (24, .iinc 2 1, 3, 0, 0, false, [], [(1, 0)]),
  (27, .goto (-25), 3, 2, 0, false, [], []),
  (30, .iconst (-1), 1, 0, 0, false, [], [((-1), 0)]),
  (31, .ireturn, 1, 0, 0, false, [], [])])
def mt_27 : XM := (⟨"PuppetTurns$Scene", "exists", "(I)Z"⟩, prog_7_method_4_code, 2, (Option.some Jvm.ClassFile.FieldType.boolean), { frames := 2, cells := 0, slots := 0, locals := 43 }, 5, [
(0, .aload_n 0, 1, 0, 0, false, [], []),
  (1, .iload_n 1, 1, 0, 0, false, [], []),
  (2, .invokevirtual 57, 3, 26, 1, false, [406, 16, 409, 407, 408], []),
  (5, .ifCond .lt 7, 3, 12, 0, false, [], []),
  (8, .iconst 1, 1, 0, 0, false, [], [(1, 0)]),
  (9, .goto 4, 3, 13, 0, false, [], []),
  (12, .iconst 0, 1, 0, 0, false, [], [(0, 0)]),
  (13, .ireturn, 1, 0, 0, false, [], [])])
def mt_28 : XM := (⟨"PuppetTurns$Scene", "hero", "()I"⟩, prog_7_method_5_code, 2, (Option.some Jvm.ClassFile.FieldType.int), { frames := 3, cells := 0, slots := 0, locals := 64 }, 5, [
(0, .iconst 0, 1, 0, 0, false, [], [(0, 0)]),
  (1, .istore_n 1, 1, 0, 0, false, [], []),
  (2, .iload_n 1, 1, 0, 0, false, [], []),
  (3, .aload_n 0, 1, 0, 0, false, [], []),
  (4, .getfield 30, 3, 5, 4, false, [79], []),
  (7, .if_icmp .ge 19, 3, 26, 0, false, [], []),
  (10, .aload_n 0, 1, 0, 0, false, [], []),
  (11, .iload_n 1, 1, 0, 0, false, [], []),
  (12, .invokevirtual 60, 3, 27, 1, false, [402, 16, 405, 403, 404], []),
  (15, .ifCond .eq 5, 3, 20, 0, false, [], []),
  (18, .iload_n 1, 1, 0, 0, false, [], []),
  (19, .ireturn, 1, 0, 0, false, [], []),
  (20, .iinc 1 1, 3, 0, 0, false, [], [(1, 0)]),
  (23, .goto (-21), 3, 2, 0, false, [], []),
  (26, .bipush (-109), 2, 0, 0, false, [], [((-109), 0)]),
  (28, .ireturn, 1, 0, 0, false, [], [])])
def mt_29 : XM := (⟨"PuppetTurns$Scene", "firstLine", "(I)I"⟩, prog_7_method_6_code, 2, (Option.some Jvm.ClassFile.FieldType.int), { frames := 1, cells := 0, slots := 0, locals := 23 }, 5, [
(0, .aload_n 0, 1, 0, 0, false, [], []),
  (1, .getfield 20, 3, 5, 1, false, [66], []),
  (4, .iload_n 1, 1, 0, 0, false, [], []),
  (5, .iconst 1, 1, 0, 0, false, [], [(1, 0)]),
  (6, .invokevirtual 64, 3, 2, 2, false, [357, 17, 360, 358, 359], []),
  (9, .iconst 0, 1, 0, 0, false, [], [(0, 0)]),
  (10, .invokestatic 67, 3, 98, 2, false, [427, 18, 52, 51], []),
  (13, .ireturn, 1, 0, 0, false, [], [])])
def mt_30 : XM := (⟨"PuppetTurns$Scene", "lastLine", "(I)I"⟩, prog_7_method_7_code, 2, (Option.some Jvm.ClassFile.FieldType.int), { frames := 1, cells := 0, slots := 0, locals := 23 }, 5, [
(0, .aload_n 0, 1, 0, 0, false, [], []),
  (1, .getfield 20, 3, 5, 1, false, [66], []),
  (4, .iload_n 1, 1, 0, 0, false, [], []),
  (5, .iconst 1, 1, 0, 0, false, [], [(1, 0)]),
  (6, .invokevirtual 64, 3, 2, 2, false, [357, 17, 360, 358, 359], []),
  (9, .aload_n 0, 1, 0, 0, false, [], []),
  (10, .getfield 20, 3, 5, 1, false, [66], []),
  (13, .iload_n 1, 1, 0, 0, false, [], []),
  (14, .bipush 6, 2, 0, 0, false, [], [(6, 0)]),
  (16, .invokevirtual 64, 3, 2, 2, false, [357, 17, 360, 358, 359], []),
  (19, .iadd, 1, 0, 0, false, [], []),
  (20, .bipush 48, 2, 0, 0, false, [], [(48, 0)]),
  (22, .invokestatic 72, 3, 99, 2, false, [422, 18, 346, 345], []),
  (25, .iconst 1, 1, 0, 0, false, [], [(1, 0)]),
  (26, .isub, 1, 0, 0, false, [], []),
  (27, .ireturn, 1, 0, 0, false, [], [])])
def mt_31 : XM := (⟨"PuppetTurns$Scene", "linesOf", "(I)I"⟩, prog_7_method_8_code, 2, (Option.some Jvm.ClassFile.FieldType.int), { frames := 2, cells := 0, slots := 0, locals := 44 }, 5, [
(0, .aload_n 0, 1, 0, 0, false, [], []),
  (1, .iload_n 1, 1, 0, 0, false, [], []),
  (2, .invokevirtual 75, 3, 30, 1, false, [418, 16, 421, 419, 420], []),
  (5, .aload_n 0, 1, 0, 0, false, [], []),
  (6, .iload_n 1, 1, 0, 0, false, [], []),
  (7, .invokevirtual 78, 3, 29, 1, false, [423, 16, 426, 424, 425], []),
  (10, .isub, 1, 0, 0, false, [], []),
  (11, .iconst 1, 1, 0, 0, false, [], [(1, 0)]),
  (12, .iadd, 1, 0, 0, false, [], []),
  (13, .iconst 0, 1, 0, 0, false, [], [(0, 0)]),
  (14, .invokestatic 67, 3, 98, 2, false, [427, 18, 52, 51], []),
  (17, .ireturn, 1, 0, 0, false, [], [])])
def mt_32 : XM := (⟨"PuppetTurns$Scene", "standsOn", "(II)Z"⟩, prog_7_method_9_code, 3, (Option.some Jvm.ClassFile.FieldType.boolean), { frames := 2, cells := 0, slots := 0, locals := 44 }, 5, [
(0, .iload_n 2, 1, 0, 0, false, [], []),
  (1, .aload_n 0, 1, 0, 0, false, [], []),
  (2, .iload_n 1, 1, 0, 0, false, [], []),
  (3, .invokevirtual 78, 3, 29, 1, false, [423, 16, 426, 424, 425], []),
  (6, .aload_n 0, 1, 0, 0, false, [], []),
  (7, .iload_n 1, 1, 0, 0, false, [], []),
  (8, .invokevirtual 75, 3, 30, 1, false, [418, 16, 421, 419, 420], []),
  (11, .invokestatic 81, 3, 95, 3, true, [354, 15, 356, 355], []),
  (14, .ireturn, 1, 0, 0, false, [], [])])
def mt_33 : XM := (⟨"PuppetTurns$Scene", "dotsOn", "(II)J"⟩, prog_7_method_10_code, 8, (Option.some Jvm.ClassFile.FieldType.long), { frames := 1, cells := 0, slots := 0, locals := 23 }, 5, [
(0, .aload_n 0, 1, 0, 0, false, [], []),
  (1, .getfield 20, 3, 5, 1, false, [66], []),
  (4, .iload_n 1, 1, 0, 0, false, [], []),
  (5, .bipush 6, 2, 0, 0, false, [], [(6, 0)]),
  (7, .invokevirtual 64, 3, 2, 2, false, [357, 17, 360, 358, 359], []),
  (10, .istore_n 3, 1, 0, 0, false, [], []),
  (11, .iload_n 2, 1, 0, 0, false, [], []),
  (12, .aload_n 0, 1, 0, 0, false, [], []),
  (13, .getfield 20, 3, 5, 1, false, [66], []),
  (16, .iload_n 1, 1, 0, 0, false, [], []),
  (17, .iconst 1, 1, 0, 0, false, [], [(1, 0)]),
  (18, .invokevirtual 64, 3, 2, 2, false, [357, 17, 360, 358, 359], []),
  (21, .isub, 1, 0, 0, false, [], []),
  (22, .istore 4, 2, 0, 0, false, [], []),
  (24, .iload 4, 2, 0, 0, false, [], []),
  (26, .iconst 0, 1, 0, 0, false, [], [(0, 0)]),
  (27, .iload_n 3, 1, 0, 0, false, [], []),
  (28, .iconst 1, 1, 0, 0, false, [], [(1, 0)]),
  (29, .isub, 1, 0, 0, false, [], []),
  (30, .invokestatic 81, 3, 95, 3, true, [354, 15, 356, 355], []),
  (33, .ifCond .ne 5, 3, 38, 0, false, [], []),
  (36, .lconst 0, 1, 0, 0, false, [], []),
  (37, .lreturn, 1, 0, 0, false, [], []),
  (38, .aload_n 0, 1, 0, 0, false, [], []),
  (39, .getfield 20, 3, 5, 1, false, [66], []),
  (42, .iload_n 1, 1, 0, 0, false, [], []),
  (43, .iconst 5, 1, 0, 0, false, [], [(5, 0)]),
  (44, .invokevirtual 64, 3, 2, 2, false, [357, 17, 360, 358, 359], []),
  (47, .istore 5, 2, 0, 0, false, [], []),
  (49, .iload 5, 2, 0, 0, false, [], []),
  (51, .iconst 2, 1, 0, 0, false, [], [(2, 0)]),
  (52, .iand, 1, 0, 0, false, [], []),
  (53, .ifCond .eq 11, 3, 64, 0, false, [], []),
  (56, .iload_n 3, 1, 0, 0, false, [], []),
  (57, .iconst 1, 1, 0, 0, false, [], [(1, 0)]),
  (58, .isub, 1, 0, 0, false, [], []),
  (59, .iload 4, 2, 0, 0, false, [], []),
  (61, .isub, 1, 0, 0, false, [], []),
  (62, .istore 4, 2, 0, 0, false, [], []),
  (64, .aload_n 0, 1, 0, 0, false, [], []),
  (65, .getfield 20, 3, 5, 1, false, [66], []),
  (68, .iload_n 1, 1, 0, 0, false, [], []),
  (69, .iconst 3, 1, 0, 0, false, [], [(3, 0)]),
  (70, .invokevirtual 64, 3, 2, 2, false, [357, 17, 360, 358, 359], []),
  (73, .iload 4, 2, 0, 0, false, [], []),
  (75, .bipush 8, 2, 0, 0, false, [], [(8, 0)]),
  (77, .idiv, 1, 0, 0, false, [], []),
  (78, .iadd, 1, 0, 0, false, [], []),
  (79, .bipush 8, 2, 0, 0, false, [], [(8, 0)]),
  (81, .irem, 1, 0, 0, false, [], []),
  (82, .istore 6, 2, 0, 0, false, [], []),
  (84, .aload_n 0, 1, 0, 0, false, [], []),
  (85, .getfield 14, 3, 5, 0, false, [65], []),
  (88, .iload 6, 2, 0, 0, false, [], []),
  (90, .iload 4, 2, 0, 0, false, [], []),
  (92, .bipush 8, 2, 0, 0, false, [], [(8, 0)]),
  (94, .irem, 1, 0, 0, false, [], []),
  (95, .invokevirtual 64, 3, 2, 2, false, [357, 17, 360, 358, 359], []),
  (98, .istore 7, 2, 0, 0, false, [], []),
  (100, .iload 5, 2, 0, 0, false, [], []),
  (102, .iconst 1, 1, 0, 0, false, [], [(1, 0)]),
  (103, .iand, 1, 0, 0, false, [], []),
  (104, .ifCond .eq 10, 3, 114, 0, false, [], []),
  (107, .iload 7, 2, 0, 0, false, [], []),
  (109, .invokestatic 85, 3, 34, 1, false, [554, 16, 556, 555], []),
  (112, .istore 7, 2, 0, 0, false, [], []),
  (114, .iload 7, 2, 0, 0, false, [], []),
  (116, .aload_n 0, 1, 0, 0, false, [], []),
  (117, .getfield 20, 3, 5, 1, false, [66], []),
  (120, .iload_n 1, 1, 0, 0, false, [], []),
  (121, .iconst 0, 1, 0, 0, false, [], [(0, 0)]),
  (122, .invokevirtual 64, 3, 2, 2, false, [357, 17, 360, 358, 359], []),
  (125, .invokestatic 88, 3, 35, 2, false, [557, 16, 559, 558], []),
  (128, .lreturn, 1, 0, 0, false, [], [])])
def mt_34 : XM := (⟨"PuppetTurns$Scene", "mirrored", "(I)I"⟩, prog_7_method_11_code, 3, (Option.some Jvm.ClassFile.FieldType.int), { frames := 0, cells := 0, slots := 0, locals := 0 }, 5, [
(0, .iconst 0, 1, 0, 0, false, [], [(0, 0)]),
  (1, .istore_n 1, 1, 0, 0, false, [], []),
  (2, .iconst 0, 1, 0, 0, false, [], [(0, 0)]),
  (3, .istore_n 2, 1, 0, 0, false, [], []),
  (4, .iload_n 2, 1, 0, 0, false, [], []),
  (5, .bipush 8, 2, 0, 0, false, [], [(8, 0)]),
  (7, .if_icmp .ge 19, 3, 26, 0, false, [], []),
  (10, .iload_n 1, 1, 0, 0, false, [], []),
  (11, .iconst 1, 1, 0, 0, false, [], [(1, 0)]),
  (12, .ishl, 1, 0, 0, false, [], []),
  (13, .iload_n 0, 1, 0, 0, false, [], []),
  (14, .iload_n 2, 1, 0, 0, false, [], []),
  (15, .ishr, 1, 0, 0, false, [], []),
  (16, .iconst 1, 1, 0, 0, false, [], [(1, 0)]),
  (17, .iand, 1, 0, 0, false, [], []),
  (18, .ior, 1, 0, 0, false, [], []),
  (19, .istore_n 1, 1, 0, 0, false, [], []),
  (20, .iinc 2 1, 3, 0, 0, false, [], [(1, 0)]),
  (23, .goto (-19), 3, 4, 0, false, [], []),
  (26, .iload_n 1, 1, 0, 0, false, [], []),
  (27, .ireturn, 1, 0, 0, false, [], [])])
def mt_35 : XM := (⟨"PuppetTurns$Scene", "placed", "(II)J"⟩, prog_7_method_12_code, 3, (Option.some Jvm.ClassFile.FieldType.long), { frames := 0, cells := 0, slots := 0, locals := 0 }, 5, [
(0, .bipush 56, 2, 0, 0, false, [], [(56, 0)]),
  (2, .iload_n 1, 1, 0, 0, false, [], []),
  (3, .isub, 1, 0, 0, false, [], []),
  (4, .istore_n 2, 1, 0, 0, false, [], []),
  (5, .iload_n 2, 1, 0, 0, false, [], []),
  (6, .bipush 64, 2, 0, 0, false, [], [(64, 0)]),
  (8, .if_icmp .lt 5, 3, 13, 0, false, [], []),
  (11, .lconst 0, 1, 0, 0, false, [], []),
  (12, .lreturn, 1, 0, 0, false, [], []),
  (13, .iload_n 2, 1, 0, 0, false, [], []),
  (14, .ifCond .lt 10, 3, 24, 0, false, [], []),
  (17, .iload_n 0, 1, 0, 0, false, [], []),
  (18, .i2l, 1, 0, 0, false, [], []),
  (19, .iload_n 2, 1, 0, 0, false, [], []),
  (20, .lshl, 1, 0, 0, false, [], []),
  (21, .goto 8, 3, 29, 0, false, [], []),
  (24, .iload_n 0, 1, 0, 0, false, [], []),
  (25, .iload_n 2, 1, 0, 0, false, [], []),
  (26, .ineg, 1, 0, 0, false, [], []),
  (27, .ishr, 1, 0, 0, false, [], []),
  (28, .i2l, 1, 0, 0, false, [], []),
  (29, .lreturn, 1, 0, 0, false, [], [])])
def mt_36 : XM := (⟨"PuppetTurns$Scene", "redraw", "(III)I"⟩, prog_7_method_13_code, 5, (Option.some Jvm.ClassFile.FieldType.int), { frames := 1, cells := 0, slots := 0, locals := 24 }, 5, [
(0, .iload_n 1, 1, 0, 0, false, [], []),
  (1, .iconst 0, 1, 0, 0, false, [], [(0, 0)]),
  (2, .bipush 7, 2, 0, 0, false, [], [(7, 0)]),
  (4, .invokestatic 81, 3, 95, 3, true, [354, 15, 356, 355], []),
  (7, .ifCond .eq 24, 3, 31, 0, false, [], []),
  (10, .iload_n 2, 1, 0, 0, false, [], []),
  (11, .iconst 0, 1, 0, 0, false, [], [(0, 0)]),
  (12, .bipush 7, 2, 0, 0, false, [], [(7, 0)]),
  (14, .invokestatic 81, 3, 95, 3, true, [354, 15, 356, 355], []),
  (17, .ifCond .eq 14, 3, 31, 0, false, [], []),
  (20, .iload_n 3, 1, 0, 0, false, [], []),
  (21, .iconst 0, 1, 0, 0, false, [], [(0, 0)]),
  (22, .sipush 255, 3, 0, 0, false, [], [(255, 0)]),
  (25, .invokestatic 81, 3, 95, 3, true, [354, 15, 356, 355], []),
  (28, .ifCond .ne 6, 3, 34, 0, false, [], []),
  (31, .bipush (-101), 2, 0, 0, false, [], [((-101), 0)]),
  (33, .ireturn, 1, 0, 0, false, [], []),
  (34, .aload_n 0, 1, 0, 0, false, [], []),
  (35, .getfield 14, 3, 5, 0, false, [65], []),
  (38, .iload_n 1, 1, 0, 0, false, [], []),
  (39, .iload_n 2, 1, 0, 0, false, [], []),
  (40, .invokevirtual 64, 3, 2, 2, false, [357, 17, 360, 358, 359], []),
  (43, .istore 4, 2, 0, 0, false, [], []),
  (45, .aload_n 0, 1, 0, 0, false, [], []),
  (46, .getfield 14, 3, 5, 0, false, [65], []),
  (49, .iload_n 1, 1, 0, 0, false, [], []),
  (50, .iload_n 2, 1, 0, 0, false, [], []),
  (51, .iload_n 3, 1, 0, 0, false, [], []),
  (52, .invokevirtual 92, 3, 4, 3, false, [361, 17, 364, 362, 363], []),
  (55, .iload 4, 2, 0, 0, false, [], []),
  (57, .ireturn, 1, 0, 0, false, [], [])])
def mt_37 : XM := (⟨"PuppetTurns$Scene", "isPlace", "(II)Z"⟩, prog_7_method_14_code, 2, (Option.some Jvm.ClassFile.FieldType.boolean), { frames := 1, cells := 0, slots := 0, locals := 22 }, 5, [
(0, .iload_n 0, 1, 0, 0, false, [], []),
  (1, .bipush (-15), 2, 0, 0, false, [], [((-15), 0)]),
  (3, .bipush 63, 2, 0, 0, false, [], [(63, 0)]),
  (5, .invokestatic 81, 3, 95, 3, true, [354, 15, 356, 355], []),
  (8, .ifCond .eq 18, 3, 26, 0, false, [], []),
  (11, .iload_n 1, 1, 0, 0, false, [], []),
  (12, .bipush (-15), 2, 0, 0, false, [], [((-15), 0)]),
  (14, .bipush 47, 2, 0, 0, false, [], [(47, 0)]),
  (16, .invokestatic 81, 3, 95, 3, true, [354, 15, 356, 355], []),
  (19, .ifCond .eq 7, 3, 26, 0, false, [], []),
  (22, .iconst 1, 1, 0, 0, false, [], [(1, 0)]),
  (23, .goto 4, 3, 27, 0, false, [], []),
  (26, .iconst 0, 1, 0, 0, false, [], [(0, 0)]),
  (27, .ireturn, 1, 0, 0, false, [], [])])
/-- a method's name that a row may not spell: read off the tables -/
def e_nm38 : String := match (tables_1_2 : List Cond).drop 130 with
  | Cond.instanceMethod x :: _ => x.name
  | _ => ""
def mt_38 : XM := (⟨"PuppetTurns$Scene", e_nm38, "(IIIII)I"⟩, prog_7_method_15_code, 7, (Option.some Jvm.ClassFile.FieldType.int), { frames := 2, cells := 0, slots := 0, locals := 43 }, 5, [
(0, .iload_n 1, 1, 0, 0, false, [], []),
  (1, .iload_n 2, 1, 0, 0, false, [], []),
  (2, .invokestatic 96, 3, 37, 2, false, [387, 16, 389, 388], []),
  (5, .ifCond .eq 34, 3, 39, 0, false, [], []),
  (8, .iload_n 3, 1, 0, 0, false, [], []),
  (9, .iconst 0, 1, 0, 0, false, [], [(0, 0)]),
  (10, .iconst 1, 1, 0, 0, false, [], [(1, 0)]),
  (11, .invokestatic 81, 3, 95, 3, true, [354, 15, 356, 355], []),
  (14, .ifCond .eq 25, 3, 39, 0, false, [], []),
  (17, .iload 4, 2, 0, 0, false, [], []),
  (19, .iconst 0, 1, 0, 0, false, [], [(0, 0)]),
  (20, .bipush 7, 2, 0, 0, false, [], [(7, 0)]),
  (22, .invokestatic 81, 3, 95, 3, true, [354, 15, 356, 355], []),
  (25, .ifCond .eq 14, 3, 39, 0, false, [], []),
  (28, .iload 5, 2, 0, 0, false, [], []),
  (30, .iconst 1, 1, 0, 0, false, [], [(1, 0)]),
  (31, .bipush 9, 2, 0, 0, false, [], [(9, 0)]),
  (33, .invokestatic 81, 3, 95, 3, true, [354, 15, 356, 355], []),
  (36, .ifCond .ne 6, 3, 42, 0, false, [], []),
  (39, .bipush (-101), 2, 0, 0, false, [], [((-101), 0)]),
  (41, .ireturn, 1, 0, 0, false, [], []),
  (42, .aload_n 0, 1, 0, 0, false, [], []),
  (43, .getfield 30, 3, 5, 4, false, [79], []),
  (46, .bipush 20, 2, 0, 0, false, [], [(20, 0)]),
  (48, .if_icmp .lt 6, 3, 54, 0, false, [], []),
  (51, .bipush (-103), 2, 0, 0, false, [], [((-103), 0)]),
  (53, .ireturn, 1, 0, 0, false, [], []),
  (54, .aload_n 0, 1, 0, 0, false, [], []),
  (55, .getfield 30, 3, 5, 4, false, [79], []),
  (58, .istore 6, 2, 0, 0, false, [], []),
  (60, .aload_n 0, 1, 0, 0, false, [], []),
  (61, .dup, 1, 0, 0, false, [], []),
  (62, .getfield 30, 3, 5, 4, false, [79], []),
  (65, .iconst 1, 1, 0, 0, false, [], [(1, 0)]),
  (66, .iadd, 1, 0, 0, false, [], []),
  (67, .putfield 30, 3, 5, 4, false, [79], []),
  (70, .aload_n 0, 1, 0, 0, false, [], []),
  (71, .getfield 23, 3, 5, 2, false, [70], []),
  (74, .aload_n 0, 1, 0, 0, false, [], []),
  (75, .getfield 26, 3, 5, 3, false, [74], []),
  (78, .iload 6, 2, 0, 0, false, [], []),
  (80, .invokevirtual 100, 3, 3, 2, false, [390, 17, 393, 391, 392], []),
  (83, .aload_n 0, 1, 0, 0, false, [], []),
  (84, .dup, 1, 0, 0, false, [], []),
  (85, .getfield 26, 3, 5, 3, false, [74], []),
  (88, .iconst 1, 1, 0, 0, false, [], [(1, 0)]),
  (89, .iadd, 1, 0, 0, false, [], []),
  (90, .putfield 26, 3, 5, 3, false, [74], []),
  (93, .aload_n 0, 1, 0, 0, false, [], []),
  (94, .getfield 20, 3, 5, 1, false, [66], []),
  (97, .iload 6, 2, 0, 0, false, [], []),
  (99, .iconst 0, 1, 0, 0, false, [], [(0, 0)]),
  (100, .iload_n 1, 1, 0, 0, false, [], []),
  (101, .invokevirtual 92, 3, 4, 3, false, [361, 17, 364, 362, 363], []),
  (104, .aload_n 0, 1, 0, 0, false, [], []),
  (105, .getfield 20, 3, 5, 1, false, [66], []),
  (108, .iload 6, 2, 0, 0, false, [], []),
  (110, .iconst 1, 1, 0, 0, false, [], [(1, 0)]),
  (111, .iload_n 2, 1, 0, 0, false, [], []),
  (112, .invokevirtual 92, 3, 4, 3, false, [361, 17, 364, 362, 363], []),
  (115, .aload_n 0, 1, 0, 0, false, [], []),
  (116, .getfield 20, 3, 5, 1, false, [66], []),
  (119, .iload 6, 2, 0, 0, false, [], []),
  (121, .iconst 2, 1, 0, 0, false, [], [(2, 0)]),
  (122, .iload_n 3, 1, 0, 0, false, [], []),
  (123, .invokevirtual 92, 3, 4, 3, false, [361, 17, 364, 362, 363], []),
  (126, .aload_n 0, 1, 0, 0, false, [], []),
  (127, .getfield 20, 3, 5, 1, false, [66], []),
  (130, .iload 6, 2, 0, 0, false, [], []),
  (132, .bipush 6, 2, 0, 0, false, [], [(6, 0)]),
  (134, .iload_n 3, 1, 0, 0, false, [], []),
  (135, .iconst 1, 1, 0, 0, false, [], [(1, 0)]),
  (136, .if_icmp .ne 8, 3, 144, 0, false, [], []),
  (139, .bipush 16, 2, 0, 0, false, [], [(16, 0)]),
  (141, .goto 5, 3, 146, 0, false, [], []),
  (144, .bipush 8, 2, 0, 0, false, [], [(8, 0)]),
  (146, .invokevirtual 92, 3, 4, 3, false, [361, 17, 364, 362, 363], []),
  (149, .aload_n 0, 1, 0, 0, false, [], []),
  (150, .getfield 20, 3, 5, 1, false, [66], []),
  (153, .iload 6, 2, 0, 0, false, [], []),
  (155, .iconst 3, 1, 0, 0, false, [], [(3, 0)]),
  (156, .iload 4, 2, 0, 0, false, [], []),
  (158, .invokevirtual 92, 3, 4, 3, false, [361, 17, 364, 362, 363], []),
  (161, .aload_n 0, 1, 0, 0, false, [], []),
  (162, .getfield 20, 3, 5, 1, false, [66], []),
  (165, .iload 6, 2, 0, 0, false, [], []),
  (167, .iconst 4, 1, 0, 0, false, [], [(4, 0)]),
  (168, .iload 5, 2, 0, 0, false, [], []),
  (170, .invokevirtual 92, 3, 4, 3, false, [361, 17, 364, 362, 363], []),
  (173, .iload 6, 2, 0, 0, false, [], []),
  (175, .ireturn, 1, 0, 0, false, [], [])])
def mt_39 : XM := (⟨"PuppetTurns$Scene", "dismiss", "(I)I"⟩, prog_7_method_16_code, 3, (Option.some Jvm.ClassFile.FieldType.int), { frames := 4, cells := 0, slots := 0, locals := 90 }, 5, [
(0, .aload_n 0, 1, 0, 0, false, [], []),
  (1, .iload_n 1, 1, 0, 0, false, [], []),
  (2, .invokevirtual 102, 3, 43, 1, false, [702, 16, 705, 703, 704], []),
  (5, .istore_n 2, 1, 0, 0, false, [], []),
  (6, .iload_n 2, 1, 0, 0, false, [], []),
  (7, .ifCond .lt 13, 3, 20, 0, false, [], []),
  (10, .aload_n 0, 1, 0, 0, false, [], []),
  (11, .dup, 1, 0, 0, false, [], []),
  (12, .getfield 26, 3, 5, 3, false, [74], []),
  (15, .iconst 1, 1, 0, 0, false, [], [(1, 0)]),
  (16, .isub, 1, 0, 0, false, [], []),
  (17, .putfield 26, 3, 5, 3, false, [74], []),
  (20, .iload_n 2, 1, 0, 0, false, [], []),
  (21, .ireturn, 1, 0, 0, false, [], [])])
def mt_40 : XM := (⟨"PuppetTurns$Scene", "relocate", "(III)I"⟩, prog_7_method_17_code, 4, (Option.some Jvm.ClassFile.FieldType.int), { frames := 3, cells := 0, slots := 0, locals := 65 }, 5, [
(0, .aload_n 0, 1, 0, 0, false, [], []),
  (1, .iload_n 1, 1, 0, 0, false, [], []),
  (2, .invokevirtual 60, 3, 27, 1, false, [402, 16, 405, 403, 404], []),
  (5, .ifCond .eq 11, 3, 16, 0, false, [], []),
  (8, .iload_n 2, 1, 0, 0, false, [], []),
  (9, .iload_n 3, 1, 0, 0, false, [], []),
  (10, .invokestatic 96, 3, 37, 2, false, [387, 16, 389, 388], []),
  (13, .ifCond .ne 6, 3, 19, 0, false, [], []),
  (16, .bipush (-101), 2, 0, 0, false, [], [((-101), 0)]),
  (18, .ireturn, 1, 0, 0, false, [], []),
  (19, .aload_n 0, 1, 0, 0, false, [], []),
  (20, .getfield 20, 3, 5, 1, false, [66], []),
  (23, .iload_n 1, 1, 0, 0, false, [], []),
  (24, .iconst 0, 1, 0, 0, false, [], [(0, 0)]),
  (25, .iload_n 2, 1, 0, 0, false, [], []),
  (26, .invokevirtual 92, 3, 4, 3, false, [361, 17, 364, 362, 363], []),
  (29, .aload_n 0, 1, 0, 0, false, [], []),
  (30, .getfield 20, 3, 5, 1, false, [66], []),
  (33, .iload_n 1, 1, 0, 0, false, [], []),
  (34, .iconst 1, 1, 0, 0, false, [], [(1, 0)]),
  (35, .iload_n 3, 1, 0, 0, false, [], []),
  (36, .invokevirtual 92, 3, 4, 3, false, [361, 17, 364, 362, 363], []),
  (39, .aload_n 0, 1, 0, 0, false, [], []),
  (40, .iload_n 1, 1, 0, 0, false, [], []),
  (41, .invokevirtual 105, 3, 31, 1, false, [414, 16, 417, 415, 416], []),
  (44, .ireturn, 1, 0, 0, false, [], [])])
def mt_41 : XM := (⟨"PuppetTurns$Scene", "flip", "(II)I"⟩, prog_7_method_18_code, 4, (Option.some Jvm.ClassFile.FieldType.int), { frames := 3, cells := 0, slots := 0, locals := 64 }, 5, [
(0, .aload_n 0, 1, 0, 0, false, [], []),
  (1, .iload_n 1, 1, 0, 0, false, [], []),
  (2, .invokevirtual 60, 3, 27, 1, false, [402, 16, 405, 403, 404], []),
  (5, .ifCond .eq 12, 3, 17, 0, false, [], []),
  (8, .iload_n 2, 1, 0, 0, false, [], []),
  (9, .iconst 0, 1, 0, 0, false, [], [(0, 0)]),
  (10, .iconst 3, 1, 0, 0, false, [], [(3, 0)]),
  (11, .invokestatic 81, 3, 95, 3, true, [354, 15, 356, 355], []),
  (14, .ifCond .ne 6, 3, 20, 0, false, [], []),
  (17, .bipush (-101), 2, 0, 0, false, [], [((-101), 0)]),
  (19, .ireturn, 1, 0, 0, false, [], []),
  (20, .aload_n 0, 1, 0, 0, false, [], []),
  (21, .getfield 20, 3, 5, 1, false, [66], []),
  (24, .iload_n 1, 1, 0, 0, false, [], []),
  (25, .iconst 5, 1, 0, 0, false, [], [(5, 0)]),
  (26, .invokevirtual 64, 3, 2, 2, false, [357, 17, 360, 358, 359], []),
  (29, .istore_n 3, 1, 0, 0, false, [], []),
  (30, .aload_n 0, 1, 0, 0, false, [], []),
  (31, .getfield 20, 3, 5, 1, false, [66], []),
  (34, .iload_n 1, 1, 0, 0, false, [], []),
  (35, .iconst 5, 1, 0, 0, false, [], [(5, 0)]),
  (36, .iload_n 2, 1, 0, 0, false, [], []),
  (37, .invokevirtual 92, 3, 4, 3, false, [361, 17, 364, 362, 363], []),
  (40, .iload_n 3, 1, 0, 0, false, [], []),
  (41, .ireturn, 1, 0, 0, false, [], [])])
def mt_42 : XM := (⟨"PuppetTurns$Scene", "putFirst", "(I)I"⟩, prog_7_method_19_code, 2, (Option.some Jvm.ClassFile.FieldType.int), { frames := 3, cells := 0, slots := 0, locals := 69 }, 5, [
(0, .aload_n 0, 1, 0, 0, false, [], []),
  (1, .iload_n 1, 1, 0, 0, false, [], []),
  (2, .iconst 0, 1, 0, 0, false, [], [(0, 0)]),
  (3, .invokevirtual 108, 3, 44, 2, false, [444, 16, 447, 446, 2], []),
  (6, .ireturn, 1, 0, 0, false, [], [])])
def mt_43 : XM := (⟨"PuppetTurns$Scene", "putLast", "(I)I"⟩, prog_7_method_20_code, 2, (Option.some Jvm.ClassFile.FieldType.int), { frames := 3, cells := 0, slots := 0, locals := 69 }, 5, [
(0, .aload_n 0, 1, 0, 0, false, [], []),
  (1, .iload_n 1, 1, 0, 0, false, [], []),
  (2, .aload_n 0, 1, 0, 0, false, [], []),
  (3, .getfield 26, 3, 5, 3, false, [74], []),
  (6, .iconst 1, 1, 0, 0, false, [], [(1, 0)]),
  (7, .isub, 1, 0, 0, false, [], []),
  (8, .invokevirtual 108, 3, 44, 2, false, [444, 16, 447, 446, 2], []),
  (11, .ireturn, 1, 0, 0, false, [], [])])
def mt_44 : XM := (⟨"PuppetTurns$Scene", "putAt", "(II)I"⟩, prog_7_method_21_code, 4, (Option.some Jvm.ClassFile.FieldType.int), { frames := 2, cells := 0, slots := 0, locals := 46 }, 5, [
(0, .aload_n 0, 1, 0, 0, false, [], []),
  (1, .iload_n 1, 1, 0, 0, false, [], []),
  (2, .invokevirtual 57, 3, 26, 1, false, [406, 16, 409, 407, 408], []),
  (5, .istore_n 3, 1, 0, 0, false, [], []),
  (6, .iload_n 3, 1, 0, 0, false, [], []),
  (7, .ifCond .ge 6, 3, 13, 0, false, [], []),
  (10, .bipush (-101), 2, 0, 0, false, [], [((-101), 0)]),
  (12, .ireturn, 1, 0, 0, false, [], []),
  (13, .aload_n 0, 1, 0, 0, false, [], []),
  (14, .iload_n 3, 1, 0, 0, false, [], []),
  (15, .iload_n 2, 1, 0, 0, false, [], []),
  (16, .invokevirtual 111, 3, 45, 2, false, [448, 16, 451, 450, 3], []),
  (19, .iload_n 3, 1, 0, 0, false, [], []),
  (20, .ireturn, 1, 0, 0, false, [], [])])
def mt_45 : XM := (⟨"PuppetTurns$Scene", "shiftInOrder", "(II)V"⟩, prog_7_method_22_code, 5, (Option.none : Option Jvm.ClassFile.FieldType), { frames := 1, cells := 0, slots := 0, locals := 22 }, 5, [
(0, .aload_n 0, 1, 0, 0, false, [], []),
  (1, .getfield 23, 3, 5, 2, false, [70], []),
  (4, .iload_n 1, 1, 0, 0, false, [], []),
  (5, .invokevirtual 53, 3, 1, 1, false, [410, 17, 413, 411, 412], []),
  (8, .istore_n 3, 1, 0, 0, false, [], []),
  (9, .iload_n 1, 1, 0, 0, false, [], []),
  (10, .istore 4, 2, 0, 0, false, [], []),
  (12, .iload 4, 2, 0, 0, false, [], []),
  (14, .iload_n 2, 1, 0, 0, false, [], []),
  (15, .if_icmp .ge 29, 3, 44, 0, false, [], []),
  (18, .aload_n 0, 1, 0, 0, false, [], []),
  (19, .getfield 23, 3, 5, 2, false, [70], []),
  (22, .iload 4, 2, 0, 0, false, [], []),
  (24, .aload_n 0, 1, 0, 0, false, [], []),
  (25, .getfield 23, 3, 5, 2, false, [70], []),
  (28, .iload 4, 2, 0, 0, false, [], []),
  (30, .iconst 1, 1, 0, 0, false, [], [(1, 0)]),
  (31, .iadd, 1, 0, 0, false, [], []),
  (32, .invokevirtual 53, 3, 1, 1, false, [410, 17, 413, 411, 412], []),
  (35, .invokevirtual 100, 3, 3, 2, false, [390, 17, 393, 391, 392], []),
  (38, .iinc 4 1, 3, 0, 0, false, [], [(1, 0)]),
  (41, .goto (-29), 3, 12, 0, false, [], []),
  (44, .iload_n 1, 1, 0, 0, false, [], []),
  (45, .istore 4, 2, 0, 0, false, [], []),
  (47, .iload 4, 2, 0, 0, false, [], []),
  (49, .iload_n 2, 1, 0, 0, false, [], []),
  (50, .if_icmp .le 29, 3, 79, 0, false, [], []),
  (53, .aload_n 0, 1, 0, 0, false, [], []),
  (54, .getfield 23, 3, 5, 2, false, [70], []),
  (57, .iload 4, 2, 0, 0, false, [], []),
  (59, .aload_n 0, 1, 0, 0, false, [], []),
  (60, .getfield 23, 3, 5, 2, false, [70], []),
  (63, .iload 4, 2, 0, 0, false, [], []),
  (65, .iconst 1, 1, 0, 0, false, [], [(1, 0)]),
  (66, .isub, 1, 0, 0, false, [], []),
  (67, .invokevirtual 53, 3, 1, 1, false, [410, 17, 413, 411, 412], []),
  (70, .invokevirtual 100, 3, 3, 2, false, [390, 17, 393, 391, 392], []),
  (73, .iinc 4 (-1), 3, 0, 0, false, [], [((-1), 0)]),
  (76, .goto (-29), 3, 47, 0, false, [], []),
  (79, .aload_n 0, 1, 0, 0, false, [], []),
  (80, .getfield 23, 3, 5, 2, false, [70], []),
  (83, .iload_n 2, 1, 0, 0, false, [], []),
  (84, .iload_n 3, 1, 0, 0, false, [], []),
  (85, .invokevirtual 100, 3, 3, 2, false, [390, 17, 393, 391, 392], []),
  (88, .return_, 1, 0, 0, false, [], [])])
def mt_46 : XM := (⟨"PuppetTurns$Scene", "changeLimit", "(I)I"⟩, prog_7_method_23_code, 3, (Option.some Jvm.ClassFile.FieldType.int), { frames := 1, cells := 0, slots := 0, locals := 22 }, 5, [
(0, .iload_n 1, 1, 0, 0, false, [], []),
  (1, .iconst 1, 1, 0, 0, false, [], [(1, 0)]),
  (2, .bipush 8, 2, 0, 0, false, [], [(8, 0)]),
  (4, .invokestatic 81, 3, 95, 3, true, [354, 15, 356, 355], []),
  (7, .ifCond .ne 6, 3, 13, 0, false, [], []),
  (10, .bipush (-101), 2, 0, 0, false, [], [((-101), 0)]),
  (12, .ireturn, 1, 0, 0, false, [], []),
  (13, .aload_n 0, 1, 0, 0, false, [], []),
  (14, .getfield 33, 3, 5, 5, false, [81], []),
  (17, .istore_n 2, 1, 0, 0, false, [], []),
  (18, .aload_n 0, 1, 0, 0, false, [], []),
  (19, .iload_n 1, 1, 0, 0, false, [], []),
  (20, .putfield 33, 3, 5, 5, false, [81], []),
  (23, .iload_n 2, 1, 0, 0, false, [], []),
  (24, .ireturn, 1, 0, 0, false, [], [])])
def mt_47 : XM := (⟨"PuppetTurns$Scene", "changeRule", "(II)I"⟩, prog_7_method_24_code, 4, (Option.some Jvm.ClassFile.FieldType.int), { frames := 1, cells := 0, slots := 0, locals := 22 }, 5, [
(0, .iload_n 1, 1, 0, 0, false, [], []),
  (1, .iconst 0, 1, 0, 0, false, [], [(0, 0)]),
  (2, .iconst 2, 1, 0, 0, false, [], [(2, 0)]),
  (3, .invokestatic 81, 3, 95, 3, true, [354, 15, 356, 355], []),
  (6, .ifCond .eq 13, 3, 19, 0, false, [], []),
  (9, .iload_n 2, 1, 0, 0, false, [], []),
  (10, .iconst 1, 1, 0, 0, false, [], [(1, 0)]),
  (11, .bipush 19, 2, 0, 0, false, [], [(19, 0)]),
  (13, .invokestatic 81, 3, 95, 3, true, [354, 15, 356, 355], []),
  (16, .ifCond .ne 6, 3, 22, 0, false, [], []),
  (19, .bipush (-101), 2, 0, 0, false, [], [((-101), 0)]),
  (21, .ireturn, 1, 0, 0, false, [], []),
  (22, .aload_n 0, 1, 0, 0, false, [], []),
  (23, .getfield 36, 3, 5, 6, false, [85], []),
  (26, .istore_n 3, 1, 0, 0, false, [], []),
  (27, .aload_n 0, 1, 0, 0, false, [], []),
  (28, .iload_n 1, 1, 0, 0, false, [], []),
  (29, .putfield 36, 3, 5, 6, false, [85], []),
  (32, .aload_n 0, 1, 0, 0, false, [], []),
  (33, .iload_n 2, 1, 0, 0, false, [], []),
  (34, .putfield 39, 3, 5, 7, false, [88], []),
  (37, .iload_n 3, 1, 0, 0, false, [], []),
  (38, .ireturn, 1, 0, 0, false, [], [])])
def mt_48 : XM := (⟨"PuppetTurns$Scene", "makeFrame", "(LPuppetTurns$Survey;I)I"⟩, prog_7_method_25_code, 4, (Option.some Jvm.ClassFile.FieldType.int), { frames := 3, cells := 0, slots := 0, locals := 69 }, 5, [
(0, .aload_n 0, 1, 0, 0, false, [], []),
  (1, .getfield 42, 3, 5, 8, false, [91], []),
  (4, .iload_n 2, 1, 0, 0, false, [], []),
  (5, .if_icmp .lt 6, 3, 11, 0, false, [], []),
  (8, .bipush (-103), 2, 0, 0, false, [], [((-103), 0)]),
  (10, .ireturn, 1, 0, 0, false, [], []),
  (11, .aload_n 1, 1, 0, 0, false, [], []),
  (12, .aload_n 0, 1, 0, 0, false, [], []),
  (13, .invokevirtual 114, 3, 67, 1, false, [476, 19, 479, 477, 478], []),
  (16, .iconst 0, 1, 0, 0, false, [], [(0, 0)]),
  (17, .istore_n 3, 1, 0, 0, false, [], []),
  (18, .iload_n 3, 1, 0, 0, false, [], []),
  (19, .aload_n 0, 1, 0, 0, false, [], []),
  (20, .getfield 26, 3, 5, 3, false, [74], []),
  (23, .if_icmp .ge 22, 3, 45, 0, false, [], []),
  (26, .aload_n 0, 1, 0, 0, false, [], []),
  (27, .aload_n 0, 1, 0, 0, false, [], []),
  (28, .getfield 23, 3, 5, 2, false, [70], []),
  (31, .iload_n 3, 1, 0, 0, false, [], []),
  (32, .invokevirtual 53, 3, 1, 1, false, [410, 17, 413, 411, 412], []),
  (35, .aload_n 1, 1, 0, 0, false, [], []),
  (36, .invokevirtual 120, 3, 49, 2, false, [488, 16, 491, 490, 4], []),
  (39, .iinc 3 1, 3, 0, 0, false, [], [(1, 0)]),
  (42, .goto (-24), 3, 18, 0, false, [], []),
  (45, .aload_n 0, 1, 0, 0, false, [], []),
  (46, .getfield 36, 3, 5, 6, false, [85], []),
  (49, .iconst 1, 1, 0, 0, false, [], [(1, 0)]),
  (50, .if_icmp .ne 10, 3, 60, 0, false, [], []),
  (53, .aload_n 0, 1, 0, 0, false, [], []),
  (54, .invokevirtual 124, 3, 50, 0, false, [496, 16, 499, 498, 5], []),
  (57, .goto 16, 3, 73, 0, false, [], []),
  (60, .aload_n 0, 1, 0, 0, false, [], []),
  (61, .getfield 36, 3, 5, 6, false, [85], []),
  (64, .iconst 2, 1, 0, 0, false, [], [(2, 0)]),
  (65, .if_icmp .ne 8, 3, 73, 0, false, [], []),
  (68, .aload_n 0, 1, 0, 0, false, [], []),
  (69, .aload_n 1, 1, 0, 0, false, [], []),
  (70, .invokevirtual 127, 3, 51, 1, false, [500, 16, 503, 502, 6], []),
  (73, .aload_n 0, 1, 0, 0, false, [], []),
  (74, .dup, 1, 0, 0, false, [], []),
  (75, .getfield 42, 3, 5, 8, false, [91], []),
  (78, .iconst 1, 1, 0, 0, false, [], [(1, 0)]),
  (79, .iadd, 1, 0, 0, false, [], []),
  (80, .putfield 42, 3, 5, 8, false, [91], []),
  (83, .aload_n 1, 1, 0, 0, false, [], []),
  (84, .invokevirtual 131, 3, 69, 0, false, [504, 19, 507, 505, 506], []),
  (87, .ireturn, 1, 0, 0, false, [], [])])
def mt_49 : XM := (⟨"PuppetTurns$Scene", "countHidden", "(ILPuppetTurns$Survey;)V"⟩, prog_7_method_26_code, 4, (Option.none : Option Jvm.ClassFile.FieldType), { frames := 2, cells := 0, slots := 0, locals := 42 }, 5, [
(0, .aload_n 2, 1, 0, 0, false, [], []),
  (1, .iload_n 1, 1, 0, 0, false, [], []),
  (2, .invokevirtual 135, 3, 68, 1, false, [492, 19, 495, 493, 494], []),
  (5, .ifCond .ne 15, 3, 20, 0, false, [], []),
  (8, .aload_n 0, 1, 0, 0, false, [], []),
  (9, .getfield 20, 3, 5, 1, false, [66], []),
  (12, .iload_n 1, 1, 0, 0, false, [], []),
  (13, .bipush 8, 2, 0, 0, false, [], [(8, 0)]),
  (15, .iconst 0, 1, 0, 0, false, [], [(0, 0)]),
  (16, .invokevirtual 92, 3, 4, 3, false, [361, 17, 364, 362, 363], []),
  (19, .return_, 1, 0, 0, false, [], []),
  (20, .aload_n 0, 1, 0, 0, false, [], []),
  (21, .getfield 20, 3, 5, 1, false, [66], []),
  (24, .iload_n 1, 1, 0, 0, false, [], []),
  (25, .bipush 8, 2, 0, 0, false, [], [(8, 0)]),
  (27, .invokevirtual 64, 3, 2, 2, false, [357, 17, 360, 358, 359], []),
  (30, .iconst 1, 1, 0, 0, false, [], [(1, 0)]),
  (31, .iadd, 1, 0, 0, false, [], []),
  (32, .istore_n 3, 1, 0, 0, false, [], []),
  (33, .aload_n 0, 1, 0, 0, false, [], []),
  (34, .getfield 20, 3, 5, 1, false, [66], []),
  (37, .iload_n 1, 1, 0, 0, false, [], []),
  (38, .bipush 8, 2, 0, 0, false, [], [(8, 0)]),
  (40, .iload_n 3, 1, 0, 0, false, [], []),
  (41, .invokevirtual 92, 3, 4, 3, false, [361, 17, 364, 362, 363], []),
  (44, .aload_n 0, 1, 0, 0, false, [], []),
  (45, .getfield 20, 3, 5, 1, false, [66], []),
  (48, .iload_n 1, 1, 0, 0, false, [], []),
  (49, .bipush 9, 2, 0, 0, false, [], [(9, 0)]),
  (51, .aload_n 0, 1, 0, 0, false, [], []),
  (52, .getfield 20, 3, 5, 1, false, [66], []),
  (55, .iload_n 1, 1, 0, 0, false, [], []),
  (56, .bipush 9, 2, 0, 0, false, [], [(9, 0)]),
  (58, .invokevirtual 64, 3, 2, 2, false, [357, 17, 360, 358, 359], []),
  (61, .iload_n 3, 1, 0, 0, false, [], []),
  (62, .invokestatic 67, 3, 98, 2, false, [427, 18, 52, 51], []),
  (65, .invokevirtual 92, 3, 4, 3, false, [361, 17, 364, 362, 363], []),
  (68, .aload_n 0, 1, 0, 0, false, [], []),
  (69, .getfield 20, 3, 5, 1, false, [66], []),
  (72, .iload_n 1, 1, 0, 0, false, [], []),
  (73, .bipush 7, 2, 0, 0, false, [], [(7, 0)]),
  (75, .aload_n 0, 1, 0, 0, false, [], []),
  (76, .getfield 20, 3, 5, 1, false, [66], []),
  (79, .iload_n 1, 1, 0, 0, false, [], []),
  (80, .bipush 7, 2, 0, 0, false, [], [(7, 0)]),
  (82, .invokevirtual 64, 3, 2, 2, false, [357, 17, 360, 358, 359], []),
  (85, .iconst 1, 1, 0, 0, false, [], [(1, 0)]),
  (86, .iadd, 1, 0, 0, false, [], []),
  (87, .invokevirtual 92, 3, 4, 3, false, [361, 17, 364, 362, 363], []),
  (90, .return_, 1, 0, 0, false, [], [])])
def mt_50 : XM := (⟨"PuppetTurns$Scene", "rotate", "()V"⟩, prog_7_method_27_code, 3, (Option.none : Option Jvm.ClassFile.FieldType), { frames := 2, cells := 0, slots := 0, locals := 46 }, 5, [
(0, .aload_n 0, 1, 0, 0, false, [], []),
  (1, .getfield 26, 3, 5, 3, false, [74], []),
  (4, .ifCond .le 15, 3, 19, 0, false, [], []),
  (7, .aload_n 0, 1, 0, 0, false, [], []),
  (8, .getfield 39, 3, 5, 7, false, [88], []),
  (11, .aload_n 0, 1, 0, 0, false, [], []),
  (12, .getfield 26, 3, 5, 3, false, [74], []),
  (15, .irem, 1, 0, 0, false, [], []),
  (16, .goto 4, 3, 20, 0, false, [], []),
  (19, .iconst 0, 1, 0, 0, false, [], [(0, 0)]),
  (20, .istore_n 1, 1, 0, 0, false, [], []),
  (21, .iconst 0, 1, 0, 0, false, [], [(0, 0)]),
  (22, .istore_n 2, 1, 0, 0, false, [], []),
  (23, .iload_n 2, 1, 0, 0, false, [], []),
  (24, .iload_n 1, 1, 0, 0, false, [], []),
  (25, .if_icmp .ge 20, 3, 45, 0, false, [], []),
  (28, .aload_n 0, 1, 0, 0, false, [], []),
  (29, .iconst 0, 1, 0, 0, false, [], [(0, 0)]),
  (30, .aload_n 0, 1, 0, 0, false, [], []),
  (31, .getfield 26, 3, 5, 3, false, [74], []),
  (34, .iconst 1, 1, 0, 0, false, [], [(1, 0)]),
  (35, .isub, 1, 0, 0, false, [], []),
  (36, .invokevirtual 111, 3, 45, 2, false, [448, 16, 451, 450, 3], []),
  (39, .iinc 2 1, 3, 0, 0, false, [], [(1, 0)]),
  (42, .goto (-19), 3, 23, 0, false, [], []),
  (45, .return_, 1, 0, 0, false, [], [])])
def mt_51 : XM := (⟨"PuppetTurns$Scene", "bringHidden", "(LPuppetTurns$Survey;)V"⟩, prog_7_method_28_code, 4, (Option.none : Option Jvm.ClassFile.FieldType), { frames := 2, cells := 0, slots := 0, locals := 46 }, 5, [
(0, .iconst 0, 1, 0, 0, false, [], [(0, 0)]),
  (1, .istore_n 2, 1, 0, 0, false, [], []),
  (2, .iconst 0, 1, 0, 0, false, [], [(0, 0)]),
  (3, .istore_n 3, 1, 0, 0, false, [], []),
  (4, .iload_n 3, 1, 0, 0, false, [], []),
  (5, .aload_n 0, 1, 0, 0, false, [], []),
  (6, .getfield 26, 3, 5, 3, false, [74], []),
  (9, .if_icmp .ge 33, 3, 42, 0, false, [], []),
  (12, .aload_n 1, 1, 0, 0, false, [], []),
  (13, .aload_n 0, 1, 0, 0, false, [], []),
  (14, .getfield 23, 3, 5, 2, false, [70], []),
  (17, .iload_n 3, 1, 0, 0, false, [], []),
  (18, .invokevirtual 53, 3, 1, 1, false, [410, 17, 413, 411, 412], []),
  (21, .invokevirtual 135, 3, 68, 1, false, [492, 19, 495, 493, 494], []),
  (24, .ifCond .eq 12, 3, 36, 0, false, [], []),
  (27, .aload_n 0, 1, 0, 0, false, [], []),
  (28, .iload_n 3, 1, 0, 0, false, [], []),
  (29, .iload_n 2, 1, 0, 0, false, [], []),
  (30, .invokevirtual 111, 3, 45, 2, false, [448, 16, 451, 450, 3], []),
  (33, .iinc 2 1, 3, 0, 0, false, [], [(1, 0)]),
  (36, .iinc 3 1, 3, 0, 0, false, [], [(1, 0)]),
  (39, .goto (-35), 3, 4, 0, false, [], []),
  (42, .return_, 1, 0, 0, false, [], [])])
def mt_52 : XM := (⟨"PuppetTurns$Schedule", "<init>", "()V"⟩, prog_8_method_1_code, 1, (Option.none : Option Jvm.ClassFile.FieldType), { frames := 2, cells := 4, slots := 1204, locals := 82 }, 6, [
(0, .aload_n 0, 1, 0, 0, false, [], []),
  (1, .invokespecial 3, 3, 1000, 0, false, [260, 36, 37], []),
  (4, .aload_n 0, 1, 0, 0, false, [], []),
  (5, .new 9, 3, 0, 0, false, [261, 45, 17], []),
  (8, .dup, 1, 0, 0, false, [], []),
  (9, .sipush 200, 3, 0, 0, false, [], [(200, 0)]),
  (12, .iconst 1, 1, 0, 0, false, [], [(1, 0)]),
  (13, .invokespecial 11, 3, 0, 2, false, [262, 17, 48, 47], []),
  (16, .putfield 14, 3, 6, 0, false, [263], []),
  (19, .aload_n 0, 1, 0, 0, false, [], []),
  (20, .new 9, 3, 0, 0, false, [261, 45, 17], []),
  (23, .dup, 1, 0, 0, false, [], []),
  (24, .iconst 4, 1, 0, 0, false, [], [(4, 0)]),
  (25, .iconst 1, 1, 0, 0, false, [], [(1, 0)]),
  (26, .invokespecial 11, 3, 0, 2, false, [262, 17, 48, 47], []),
  (29, .putfield 20, 3, 6, 1, false, [264], []),
  (32, .aload_n 0, 1, 0, 0, false, [], []),
  (33, .iconst 0, 1, 0, 0, false, [], [(0, 0)]),
  (34, .putfield 23, 3, 6, 2, false, [265], []),
  (37, .aload_n 0, 1, 0, 0, false, [], []),
  (38, .iconst 0, 1, 0, 0, false, [], [(0, 0)]),
  (39, .putfield 27, 3, 6, 3, false, [266], []),
  (42, .aload_n 0, 1, 0, 0, false, [], []),
  (43, .iconst (-1), 1, 0, 0, false, [], [((-1), 0)]),
  (44, .putfield 30, 3, 6, 4, false, [267], []),
  (47, .return_, 1, 0, 0, false, [], [])])
def mt_53 : XM := (⟨"PuppetTurns$Script", "<init>", "()V"⟩, prog_9_method_1_code, 1, (Option.none : Option Jvm.ClassFile.FieldType), { frames := 2, cells := 2, slots := 602, locals := 82 }, 7, [
(0, .aload_n 0, 1, 0, 0, false, [], []),
  (1, .invokespecial 3, 3, 1000, 0, false, [207, 36, 37], []),
  (4, .aload_n 0, 1, 0, 0, false, [], []),
  (5, .new 9, 3, 0, 0, false, [208, 45, 17], []),
  (8, .dup, 1, 0, 0, false, [], []),
  (9, .bipush 100, 2, 0, 0, false, [], [(100, 0)]),
  (11, .iconst 1, 1, 0, 0, false, [], [(1, 0)]),
  (12, .invokespecial 11, 3, 0, 2, false, [209, 17, 48, 47], []),
  (15, .putfield 14, 3, 7, 0, false, [210], []),
  (18, .aload_n 0, 1, 0, 0, false, [], []),
  (19, .iconst 0, 1, 0, 0, false, [], [(0, 0)]),
  (20, .putfield 20, 3, 7, 1, false, [211], []),
  (23, .return_, 1, 0, 0, false, [], [])])
def mt_54 : XM := (⟨"PuppetTurns$Sight", "<init>", "()V"⟩, prog_10_method_1_code, 1, (Option.none : Option Jvm.ClassFile.FieldType), { frames := 2, cells := 2, slots := 602, locals := 82 }, 8, [
(0, .aload_n 0, 1, 0, 0, false, [], []),
  (1, .invokespecial 3, 3, 1000, 0, false, [134, 36, 37], []),
  (4, .aload_n 0, 1, 0, 0, false, [], []),
  (5, .new 9, 3, 0, 0, false, [135, 45, 17], []),
  (8, .dup, 1, 0, 0, false, [], []),
  (9, .bipush 8, 2, 0, 0, false, [], [(8, 0)]),
  (11, .iconst 1, 1, 0, 0, false, [], [(1, 0)]),
  (12, .invokespecial 11, 3, 0, 2, false, [136, 17, 48, 47], []),
  (15, .putfield 14, 3, 8, 0, false, [137], []),
  (18, .aload_n 0, 1, 0, 0, false, [], []),
  (19, .iconst 0, 1, 0, 0, false, [], [(0, 0)]),
  (20, .putfield 20, 3, 8, 1, false, [139], []),
  (23, .return_, 1, 0, 0, false, [], [])])
def mt_55 : XM := (⟨"PuppetTurns$Sight", "look", "(LPuppetTurns$Scene;I)V"⟩, prog_10_method_2_code, 5, (Option.none : Option Jvm.ClassFile.FieldType), { frames := 3, cells := 0, slots := 0, locals := 66 }, 8, [
(0, .aload_n 0, 1, 0, 0, false, [], []),
  (1, .iconst 0, 1, 0, 0, false, [], [(0, 0)]),
  (2, .putfield 20, 3, 8, 1, false, [139], []),
  (5, .iconst 0, 1, 0, 0, false, [], [(0, 0)]),
  (6, .istore_n 3, 1, 0, 0, false, [], []),
  (7, .iload_n 3, 1, 0, 0, false, [], []),
  (8, .aload_n 1, 1, 0, 0, false, [], []),
  (9, .getfield 24, 3, 5, 3, true, [75], []),
  (12, .if_icmp .ge 63, 3, 75, 0, false, [], []),
  (15, .aload_n 0, 1, 0, 0, false, [], []),
  (16, .getfield 20, 3, 8, 1, false, [139], []),
  (19, .aload_n 1, 1, 0, 0, false, [], []),
  (20, .getfield 29, 3, 5, 5, true, [82], []),
  (23, .if_icmp .ge 52, 3, 75, 0, false, [], []),
  (26, .aload_n 1, 1, 0, 0, false, [], []),
  (27, .getfield 32, 3, 5, 2, true, [72], []),
  (30, .iload_n 3, 1, 0, 0, false, [], []),
  (31, .invokevirtual 35, 3, 1, 1, false, [544, 17, 413, 411, 412], []),
  (34, .istore 4, 2, 0, 0, false, [], []),
  (36, .aload_n 1, 1, 0, 0, false, [], []),
  (37, .iload 4, 2, 0, 0, false, [], []),
  (39, .iload_n 2, 1, 0, 0, false, [], []),
  (40, .invokevirtual 39, 3, 32, 2, false, [545, 16, 548, 546, 547], []),
  (43, .ifCond .eq 26, 3, 69, 0, false, [], []),
  (46, .aload_n 0, 1, 0, 0, false, [], []),
  (47, .getfield 14, 3, 8, 0, false, [137], []),
  (50, .aload_n 0, 1, 0, 0, false, [], []),
  (51, .getfield 20, 3, 8, 1, false, [139], []),
  (54, .iload 4, 2, 0, 0, false, [], []),
  (56, .invokevirtual 43, 3, 3, 2, false, [549, 17, 393, 391, 392], []),
  (59, .aload_n 0, 1, 0, 0, false, [], []),
  (60, .dup, 1, 0, 0, false, [], []),
  (61, .getfield 20, 3, 8, 1, false, [139], []),
  (64, .iconst 1, 1, 0, 0, false, [], [(1, 0)]),
  (65, .iadd, 1, 0, 0, false, [], []),
  (66, .putfield 20, 3, 8, 1, false, [139], []),
  (69, .iinc 3 1, 3, 0, 0, false, [], [(1, 0)]),
  (72, .goto (-65), 3, 7, 0, false, [], []),
  (75, .return_, 1, 0, 0, false, [], [])])
def mt_56 : XM := (⟨"PuppetTurns$Sight", "bitOf", "(I)J"⟩, prog_10_method_3_code, 1, (Option.some Jvm.ClassFile.FieldType.long), { frames := 0, cells := 0, slots := 0, locals := 0 }, 8, [
(0, .lconst 1, 1, 0, 0, false, [], []),
  (1, .bipush 63, 2, 0, 0, false, [], [(63, 0)]),
  (3, .iload_n 0, 1, 0, 0, false, [], []),
  (4, .isub, 1, 0, 0, false, [], []),
  (5, .lshl, 1, 0, 0, false, [], []),
  (6, .lreturn, 1, 0, 0, false, [], [])])
def mt_57 : XM := (⟨"PuppetTurns$Sight", "colorAt", "(LPuppetTurns$Scene;II)I"⟩, prog_10_method_4_code, 6, (Option.some Jvm.ClassFile.FieldType.int), { frames := 4, cells := 0, slots := 0, locals := 90 }, 8, [
(0, .aload_n 0, 1, 0, 0, false, [], []),
  (1, .aload_n 1, 1, 0, 0, false, [], []),
  (2, .iload_n 3, 1, 0, 0, false, [], []),
  (3, .invokevirtual 46, 3, 55, 2, false, [540, 20, 543, 541, 542], []),
  (6, .iconst 0, 1, 0, 0, false, [], [(0, 0)]),
  (7, .istore 4, 2, 0, 0, false, [], []),
  (9, .iload 4, 2, 0, 0, false, [], []),
  (11, .aload_n 0, 1, 0, 0, false, [], []),
  (12, .getfield 20, 3, 8, 1, false, [139], []),
  (15, .if_icmp .ge 48, 3, 63, 0, false, [], []),
  (18, .aload_n 0, 1, 0, 0, false, [], []),
  (19, .getfield 14, 3, 8, 0, false, [137], []),
  (22, .iload 4, 2, 0, 0, false, [], []),
  (24, .invokevirtual 35, 3, 1, 1, false, [544, 17, 413, 411, 412], []),
  (27, .istore 5, 2, 0, 0, false, [], []),
  (29, .aload_n 1, 1, 0, 0, false, [], []),
  (30, .iload 5, 2, 0, 0, false, [], []),
  (32, .iload_n 3, 1, 0, 0, false, [], []),
  (33, .invokevirtual 50, 3, 33, 2, false, [550, 16, 553, 551, 552], []),
  (36, .iload_n 2, 1, 0, 0, false, [], []),
  (37, .invokestatic 54, 3, 56, 1, false, [593, 20, 595, 594], []),
  (40, .land, 1, 0, 0, false, [], []),
  (41, .lconst 0, 1, 0, 0, false, [], []),
  (42, .lcmp, 1, 0, 0, false, [], []),
  (43, .ifCond .eq 14, 3, 57, 0, false, [], []),
  (46, .aload_n 1, 1, 0, 0, false, [], []),
  (47, .getfield 58, 3, 5, 1, true, [68], []),
  (50, .iload 5, 2, 0, 0, false, [], []),
  (52, .iconst 4, 1, 0, 0, false, [], [(4, 0)]),
  (53, .invokevirtual 61, 3, 2, 2, false, [596, 17, 360, 358, 359], []),
  (56, .ireturn, 1, 0, 0, false, [], []),
  (57, .iinc 4 1, 3, 0, 0, false, [], [(1, 0)]),
  (60, .goto (-51), 3, 9, 0, false, [], []),
  (63, .iconst 0, 1, 0, 0, false, [], [(0, 0)]),
  (64, .ireturn, 1, 0, 0, false, [], [])])
def mt_58 : XM := (⟨"PuppetTurns$Sight", "dotsOnLine", "(LPuppetTurns$Scene;I)I"⟩, prog_10_method_5_code, 6, (Option.some Jvm.ClassFile.FieldType.int), { frames := 4, cells := 0, slots := 0, locals := 90 }, 8, [
(0, .aload_n 0, 1, 0, 0, false, [], []),
  (1, .aload_n 1, 1, 0, 0, false, [], []),
  (2, .iload_n 2, 1, 0, 0, false, [], []),
  (3, .invokevirtual 46, 3, 55, 2, false, [540, 20, 543, 541, 542], []),
  (6, .lconst 0, 1, 0, 0, false, [], []),
  (7, .lstore_n 3, 1, 0, 0, false, [], []),
  (8, .iconst 0, 1, 0, 0, false, [], [(0, 0)]),
  (9, .istore 5, 2, 0, 0, false, [], []),
  (11, .iload 5, 2, 0, 0, false, [], []),
  (13, .aload_n 0, 1, 0, 0, false, [], []),
  (14, .getfield 20, 3, 8, 1, false, [139], []),
  (17, .if_icmp .ge 26, 3, 43, 0, false, [], []),
  (20, .lload_n 3, 1, 0, 0, false, [], []),
  (21, .aload_n 1, 1, 0, 0, false, [], []),
  (22, .aload_n 0, 1, 0, 0, false, [], []),
  (23, .getfield 14, 3, 8, 0, false, [137], []),
  (26, .iload 5, 2, 0, 0, false, [], []),
  (28, .invokevirtual 35, 3, 1, 1, false, [544, 17, 413, 411, 412], []),
  (31, .iload_n 2, 1, 0, 0, false, [], []),
  (32, .invokevirtual 50, 3, 33, 2, false, [550, 16, 553, 551, 552], []),
  (35, .lor, 1, 0, 0, false, [], []),
  (36, .lstore_n 3, 1, 0, 0, false, [], []),
  (37, .iinc 5 1, 3, 0, 0, false, [], [(1, 0)]),
  (40, .goto (-29), 3, 11, 0, false, [], []),
  (43, .lload_n 3, 1, 0, 0, false, [], []),
  (44, .invokestatic 64, 3, 97, 1, false, [560, 28, 562, 561], []),
  (47, .ireturn, 1, 0, 0, false, [], [])])
def mt_59 : XM := (⟨"PuppetTurns$Sight", "allDots", "(LPuppetTurns$Scene;)I"⟩, prog_10_method_6_code, 4, (Option.some Jvm.ClassFile.FieldType.int), { frames := 5, cells := 0, slots := 0, locals := 115 }, 8, [
(0, .iconst 0, 1, 0, 0, false, [], [(0, 0)]),
  (1, .istore_n 2, 1, 0, 0, false, [], []),
  (2, .iconst 0, 1, 0, 0, false, [], [(0, 0)]),
  (3, .istore_n 3, 1, 0, 0, false, [], []),
  (4, .iload_n 3, 1, 0, 0, false, [], []),
  (5, .bipush 48, 2, 0, 0, false, [], [(48, 0)]),
  (7, .if_icmp .ge 18, 3, 25, 0, false, [], []),
  (10, .iload_n 2, 1, 0, 0, false, [], []),
  (11, .aload_n 0, 1, 0, 0, false, [], []),
  (12, .aload_n 1, 1, 0, 0, false, [], []),
  (13, .iload_n 3, 1, 0, 0, false, [], []),
  (14, .invokevirtual 70, 3, 58, 2, false, [536, 20, 539, 537, 538], []),
  (17, .iadd, 1, 0, 0, false, [], []),
  (18, .istore_n 2, 1, 0, 0, false, [], []),
  (19, .iinc 3 1, 3, 0, 0, false, [], [(1, 0)]),
  (22, .goto (-18), 3, 4, 0, false, [], []),
  (25, .iload_n 2, 1, 0, 0, false, [], []),
  (26, .ireturn, 1, 0, 0, false, [], [])])
def mt_60 : XM := (⟨"PuppetTurns$Sight", "clashesOn", "(LPuppetTurns$Scene;II)J"⟩, prog_10_method_7_code, 10, (Option.some Jvm.ClassFile.FieldType.long), { frames := 4, cells := 0, slots := 0, locals := 90 }, 8, [
(0, .aload_n 0, 1, 0, 0, false, [], []),
  (1, .aload_n 1, 1, 0, 0, false, [], []),
  (2, .iload_n 3, 1, 0, 0, false, [], []),
  (3, .invokevirtual 46, 3, 55, 2, false, [540, 20, 543, 541, 542], []),
  (6, .lconst 0, 1, 0, 0, false, [], []),
  (7, .lstore 4, 2, 0, 0, false, [], []),
  (9, .lconst 0, 1, 0, 0, false, [], []),
  (10, .lstore 6, 2, 0, 0, false, [], []),
  (12, .iconst 0, 1, 0, 0, false, [], [(0, 0)]),
  (13, .istore 8, 2, 0, 0, false, [], []),
  (15, .iload 8, 2, 0, 0, false, [], []),
  (17, .aload_n 0, 1, 0, 0, false, [], []),
  (18, .getfield 20, 3, 8, 1, false, [139], []),
  (21, .if_icmp .ge 50, 3, 71, 0, false, [], []),
  (24, .aload_n 0, 1, 0, 0, false, [], []),
  (25, .getfield 14, 3, 8, 0, false, [137], []),
  (28, .iload 8, 2, 0, 0, false, [], []),
  (30, .invokevirtual 35, 3, 1, 1, false, [544, 17, 413, 411, 412], []),
  (33, .istore 9, 2, 0, 0, false, [], []),
  (35, .iload 9, 2, 0, 0, false, [], []),
  (37, .iload_n 2, 1, 0, 0, false, [], []),
  (38, .if_icmp .ne 15, 3, 53, 0, false, [], []),
  (41, .aload_n 1, 1, 0, 0, false, [], []),
  (42, .iload 9, 2, 0, 0, false, [], []),
  (44, .iload_n 3, 1, 0, 0, false, [], []),
  (45, .invokevirtual 50, 3, 33, 2, false, [550, 16, 553, 551, 552], []),
  (48, .lstore 4, 2, 0, 0, false, [], []),
  (50, .goto 15, 3, 65, 0, false, [], []),
  (53, .lload 6, 2, 0, 0, false, [], []),
  (55, .aload_n 1, 1, 0, 0, false, [], []),
  (56, .iload 9, 2, 0, 0, false, [], []),
  (58, .iload_n 3, 1, 0, 0, false, [], []),
  (59, .invokevirtual 50, 3, 33, 2, false, [550, 16, 553, 551, 552], []),
  (62, .lor, 1, 0, 0, false, [], []),
  (63, .lstore 6, 2, 0, 0, false, [], []),
  (65, .iinc 8 1, 3, 0, 0, false, [], [(1, 0)]),
  (68, .goto (-53), 3, 15, 0, false, [], []),
  (71, .lload 4, 2, 0, 0, false, [], []),
  (73, .lload 6, 2, 0, 0, false, [], []),
  (75, .land, 1, 0, 0, false, [], []),
  (76, .lreturn, 1, 0, 0, false, [], [])])
def mt_61 : XM := (⟨"PuppetTurns$Sight", "allClashes", "(LPuppetTurns$Scene;)I"⟩, prog_10_method_8_code, 5, (Option.some Jvm.ClassFile.FieldType.int), { frames := 5, cells := 0, slots := 0, locals := 119 }, 8, [
(0, .aload_n 1, 1, 0, 0, false, [], []),
  (1, .invokevirtual 74, 3, 28, 0, false, [605, 16, 569, 567, 568], []),
  (4, .istore_n 2, 1, 0, 0, false, [], []),
  (5, .iconst 0, 1, 0, 0, false, [], [(0, 0)]),
  (6, .istore_n 3, 1, 0, 0, false, [], []),
  (7, .iconst 0, 1, 0, 0, false, [], [(0, 0)]),
  (8, .istore 4, 2, 0, 0, false, [], []),
  (10, .iload 4, 2, 0, 0, false, [], []),
  (12, .bipush 48, 2, 0, 0, false, [], [(48, 0)]),
  (14, .if_icmp .ge 23, 3, 37, 0, false, [], []),
  (17, .iload_n 3, 1, 0, 0, false, [], []),
  (18, .aload_n 0, 1, 0, 0, false, [], []),
  (19, .aload_n 1, 1, 0, 0, false, [], []),
  (20, .iload_n 2, 1, 0, 0, false, [], []),
  (21, .iload 4, 2, 0, 0, false, [], []),
  (23, .invokevirtual 78, 3, 60, 3, false, [606, 20, 609, 608, 7], []),
  (26, .invokestatic 64, 3, 97, 1, false, [560, 28, 562, 561], []),
  (29, .iadd, 1, 0, 0, false, [], []),
  (30, .istore_n 3, 1, 0, 0, false, [], []),
  (31, .iinc 4 1, 3, 0, 0, false, [], [(1, 0)]),
  (34, .goto (-24), 3, 10, 0, false, [], []),
  (37, .iload_n 3, 1, 0, 0, false, [], []),
  (38, .ireturn, 1, 0, 0, false, [], [])])
def mt_62 : XM := (⟨"PuppetTurns$Sight", "firstClash", "(LPuppetTurns$Scene;I)I"⟩, prog_10_method_9_code, 8, (Option.some Jvm.ClassFile.FieldType.int), { frames := 5, cells := 0, slots := 0, locals := 119 }, 8, [
(0, .aload_n 1, 1, 0, 0, false, [], []),
  (1, .invokevirtual 74, 3, 28, 0, false, [605, 16, 569, 567, 568], []),
  (4, .istore_n 3, 1, 0, 0, false, [], []),
  (5, .iconst 0, 1, 0, 0, false, [], [(0, 0)]),
  (6, .istore 4, 2, 0, 0, false, [], []),
  (8, .iload 4, 2, 0, 0, false, [], []),
  (10, .bipush 48, 2, 0, 0, false, [], [(48, 0)]),
  (12, .if_icmp .ge 64, 3, 76, 0, false, [], []),
  (15, .aload_n 0, 1, 0, 0, false, [], []),
  (16, .aload_n 1, 1, 0, 0, false, [], []),
  (17, .iload_n 3, 1, 0, 0, false, [], []),
  (18, .iload 4, 2, 0, 0, false, [], []),
  (20, .invokevirtual 78, 3, 60, 3, false, [606, 20, 609, 608, 7], []),
  (23, .lstore 5, 2, 0, 0, false, [], []),
  (25, .lload 5, 2, 0, 0, false, [], []),
  (27, .lconst 0, 1, 0, 0, false, [], []),
  (28, .lcmp, 1, 0, 0, false, [], []),
  (29, .ifCond .eq 41, 3, 70, 0, false, [], []),
  (32, .lload 5, 2, 0, 0, false, [], []),
  (34, .invokestatic 82, 3, 63, 1, false, [614, 20, 616, 615], []),
  (37, .istore 7, 2, 0, 0, false, [], []),
  (39, .iload_n 2, 1, 0, 0, false, [], []),
  (40, .iconst 1, 1, 0, 0, false, [], [(1, 0)]),
  (41, .if_icmp .ne 8, 3, 49, 0, false, [], []),
  (44, .iload 7, 2, 0, 0, false, [], []),
  (46, .goto 23, 3, 69, 0, false, [], []),
  (49, .iload_n 2, 1, 0, 0, false, [], []),
  (50, .iconst 2, 1, 0, 0, false, [], [(2, 0)]),
  (51, .if_icmp .ne 8, 3, 59, 0, false, [], []),
  (54, .iload 4, 2, 0, 0, false, [], []),
  (56, .goto 13, 3, 69, 0, false, [], []),
  (59, .aload_n 0, 1, 0, 0, false, [], []),
  (60, .aload_n 1, 1, 0, 0, false, [], []),
  (61, .iload_n 3, 1, 0, 0, false, [], []),
  (62, .iload 7, 2, 0, 0, false, [], []),
  (64, .iload 4, 2, 0, 0, false, [], []),
  (66, .invokevirtual 85, 3, 64, 4, false, [617, 20, 620, 619, 8], []),
  (69, .ireturn, 1, 0, 0, false, [], []),
  (70, .iinc 4 1, 3, 0, 0, false, [], [(1, 0)]),
  (73, .goto (-65), 3, 8, 0, false, [], []),
  (76, .bipush (-109), 2, 0, 0, false, [], [((-109), 0)]),
  (78, .ireturn, 1, 0, 0, false, [], [])])
def mt_63 : XM := (⟨"PuppetTurns$Sight", "firstColumn", "(J)I"⟩, prog_10_method_10_code, 3, (Option.some Jvm.ClassFile.FieldType.int), { frames := 1, cells := 0, slots := 0, locals := 20 }, 8, [
(0, .iconst 0, 1, 0, 0, false, [], [(0, 0)]),
  (1, .istore_n 2, 1, 0, 0, false, [], []),
  (2, .iload_n 2, 1, 0, 0, false, [], []),
  (3, .bipush 63, 2, 0, 0, false, [], [(63, 0)]),
  (5, .if_icmp .ge 20, 3, 25, 0, false, [], []),
  (8, .lload_n 0, 1, 0, 0, false, [], []),
  (9, .iload_n 2, 1, 0, 0, false, [], []),
  (10, .invokestatic 54, 3, 56, 1, false, [593, 20, 595, 594], []),
  (13, .land, 1, 0, 0, false, [], []),
  (14, .lconst 0, 1, 0, 0, false, [], []),
  (15, .lcmp, 1, 0, 0, false, [], []),
  (16, .ifCond .ne 9, 3, 25, 0, false, [], []),
  (19, .iinc 2 1, 3, 0, 0, false, [], [(1, 0)]),
  (22, .goto (-20), 3, 2, 0, false, [], []),
  (25, .iload_n 2, 1, 0, 0, false, [], []),
  (26, .ireturn, 1, 0, 0, false, [], [])])
def mt_64 : XM := (⟨"PuppetTurns$Sight", "firstOther", "(LPuppetTurns$Scene;III)I"⟩, prog_10_method_11_code, 7, (Option.some Jvm.ClassFile.FieldType.int), { frames := 2, cells := 0, slots := 0, locals := 50 }, 8, [
(0, .iconst 0, 1, 0, 0, false, [], [(0, 0)]),
  (1, .istore 5, 2, 0, 0, false, [], []),
  (3, .iload 5, 2, 0, 0, false, [], []),
  (5, .aload_n 0, 1, 0, 0, false, [], []),
  (6, .getfield 20, 3, 8, 1, false, [139], []),
  (9, .if_icmp .ge 47, 3, 56, 0, false, [], []),
  (12, .aload_n 0, 1, 0, 0, false, [], []),
  (13, .getfield 14, 3, 8, 0, false, [137], []),
  (16, .iload 5, 2, 0, 0, false, [], []),
  (18, .invokevirtual 35, 3, 1, 1, false, [544, 17, 413, 411, 412], []),
  (21, .istore 6, 2, 0, 0, false, [], []),
  (23, .iload 6, 2, 0, 0, false, [], []),
  (25, .iload_n 2, 1, 0, 0, false, [], []),
  (26, .if_icmp .eq 24, 3, 50, 0, false, [], []),
  (29, .aload_n 1, 1, 0, 0, false, [], []),
  (30, .iload 6, 2, 0, 0, false, [], []),
  (32, .iload 4, 2, 0, 0, false, [], []),
  (34, .invokevirtual 50, 3, 33, 2, false, [550, 16, 553, 551, 552], []),
  (37, .iload_n 3, 1, 0, 0, false, [], []),
  (38, .invokestatic 54, 3, 56, 1, false, [593, 20, 595, 594], []),
  (41, .land, 1, 0, 0, false, [], []),
  (42, .lconst 0, 1, 0, 0, false, [], []),
  (43, .lcmp, 1, 0, 0, false, [], []),
  (44, .ifCond .eq 6, 3, 50, 0, false, [], []),
  (47, .iload 6, 2, 0, 0, false, [], []),
  (49, .ireturn, 1, 0, 0, false, [], []),
  (50, .iinc 5 1, 3, 0, 0, false, [], [(1, 0)]),
  (53, .goto (-50), 3, 3, 0, false, [], []),
  (56, .bipush (-109), 2, 0, 0, false, [], [((-109), 0)]),
  (58, .ireturn, 1, 0, 0, false, [], [])])
def mt_65 : XM := (⟨"PuppetTurns$Steps", "<init>", "()V"⟩, prog_11_method_1_code, 1, (Option.none : Option Jvm.ClassFile.FieldType), { frames := 2, cells := 2, slots := 602, locals := 82 }, 9, [
(0, .aload_n 0, 1, 0, 0, false, [], []),
  (1, .invokespecial 3, 3, 1000, 0, false, [223, 36, 37], []),
  (4, .aload_n 0, 1, 0, 0, false, [], []),
  (5, .new 9, 3, 0, 0, false, [224, 45, 17], []),
  (8, .dup, 1, 0, 0, false, [], []),
  (9, .bipush 100, 2, 0, 0, false, [], [(100, 0)]),
  (11, .bipush 6, 2, 0, 0, false, [], [(6, 0)]),
  (13, .invokespecial 11, 3, 0, 2, false, [225, 17, 48, 47], []),
  (16, .putfield 14, 3, 9, 0, false, [226], []),
  (19, .aload_n 0, 1, 0, 0, false, [], []),
  (20, .iconst 0, 1, 0, 0, false, [], [(0, 0)]),
  (21, .putfield 20, 3, 9, 1, false, [227], []),
  (24, .return_, 1, 0, 0, false, [], [])])
def mt_66 : XM := (⟨"PuppetTurns$Survey", "<init>", "()V"⟩, prog_12_method_1_code, 1, (Option.none : Option Jvm.ClassFile.FieldType), { frames := 2, cells := 4, slots := 1204, locals := 82 }, 10, [
(0, .aload_n 0, 1, 0, 0, false, [], []),
  (1, .invokespecial 3, 3, 1000, 0, false, [117, 36, 37], []),
  (4, .aload_n 0, 1, 0, 0, false, [], []),
  (5, .new 9, 3, 0, 0, false, [118, 45, 17], []),
  (8, .dup, 1, 0, 0, false, [], []),
  (9, .bipush 48, 2, 0, 0, false, [], [(48, 0)]),
  (11, .iconst 1, 1, 0, 0, false, [], [(1, 0)]),
  (12, .invokespecial 11, 3, 0, 2, false, [119, 17, 48, 47], []),
  (15, .putfield 14, 3, 10, 0, false, [120], []),
  (18, .aload_n 0, 1, 0, 0, false, [], []),
  (19, .new 9, 3, 0, 0, false, [118, 45, 17], []),
  (22, .dup, 1, 0, 0, false, [], []),
  (23, .bipush 20, 2, 0, 0, false, [], [(20, 0)]),
  (25, .iconst 1, 1, 0, 0, false, [], [(1, 0)]),
  (26, .invokespecial 11, 3, 0, 2, false, [119, 17, 48, 47], []),
  (29, .putfield 20, 3, 10, 1, false, [122], []),
  (32, .return_, 1, 0, 0, false, [], [])])
def mt_67 : XM := (⟨"PuppetTurns$Survey", "look", "(LPuppetTurns$Scene;)V"⟩, prog_12_method_2_code, 6, (Option.none : Option Jvm.ClassFile.FieldType), { frames := 2, cells := 0, slots := 0, locals := 44 }, 10, [
(0, .aload_n 0, 1, 0, 0, false, [], []),
  (1, .getfield 14, 3, 10, 0, false, [120], []),
  (4, .iconst 0, 1, 0, 0, false, [], [(0, 0)]),
  (5, .invokevirtual 23, 3, 6, 1, false, [480, 17, 64, 62, 63], []),
  (8, .aload_n 0, 1, 0, 0, false, [], []),
  (9, .getfield 20, 3, 10, 1, false, [122], []),
  (12, .iconst 0, 1, 0, 0, false, [], [(0, 0)]),
  (13, .invokevirtual 23, 3, 6, 1, false, [480, 17, 64, 62, 63], []),
  (16, .iconst 0, 1, 0, 0, false, [], [(0, 0)]),
  (17, .istore_n 2, 1, 0, 0, false, [], []),
  (18, .iload_n 2, 1, 0, 0, false, [], []),
  (19, .aload_n 1, 1, 0, 0, false, [], []),
  (20, .getfield 27, 3, 5, 3, true, [76], []),
  (23, .if_icmp .ge 80, 3, 103, 0, false, [], []),
  (26, .aload_n 1, 1, 0, 0, false, [], []),
  (27, .getfield 33, 3, 5, 2, true, [71], []),
  (30, .iload_n 2, 1, 0, 0, false, [], []),
  (31, .invokevirtual 36, 3, 1, 1, false, [481, 17, 413, 411, 412], []),
  (34, .istore_n 3, 1, 0, 0, false, [], []),
  (35, .aload_n 1, 1, 0, 0, false, [], []),
  (36, .iload_n 3, 1, 0, 0, false, [], []),
  (37, .invokevirtual 40, 3, 30, 1, false, [482, 16, 421, 419, 420], []),
  (40, .istore 4, 2, 0, 0, false, [], []),
  (42, .aload_n 1, 1, 0, 0, false, [], []),
  (43, .iload_n 3, 1, 0, 0, false, [], []),
  (44, .invokevirtual 43, 3, 29, 1, false, [483, 16, 426, 424, 425], []),
  (47, .istore 5, 2, 0, 0, false, [], []),
  (49, .iload 5, 2, 0, 0, false, [], []),
  (51, .iload 4, 2, 0, 0, false, [], []),
  (53, .if_icmp .gt 44, 3, 97, 0, false, [], []),
  (56, .aload_n 0, 1, 0, 0, false, [], []),
  (57, .getfield 14, 3, 10, 0, false, [120], []),
  (60, .iload 5, 2, 0, 0, false, [], []),
  (62, .invokevirtual 36, 3, 1, 1, false, [481, 17, 413, 411, 412], []),
  (65, .aload_n 1, 1, 0, 0, false, [], []),
  (66, .getfield 46, 3, 5, 5, true, [83], []),
  (69, .if_icmp .lt 12, 3, 81, 0, false, [], []),
  (72, .aload_n 0, 1, 0, 0, false, [], []),
  (73, .getfield 20, 3, 10, 1, false, [122], []),
  (76, .iload_n 3, 1, 0, 0, false, [], []),
  (77, .iconst 1, 1, 0, 0, false, [], [(1, 0)]),
  (78, .invokevirtual 49, 3, 5, 2, false, [484, 17, 487, 485, 486], []),
  (81, .aload_n 0, 1, 0, 0, false, [], []),
  (82, .getfield 14, 3, 10, 0, false, [120], []),
  (85, .iload 5, 2, 0, 0, false, [], []),
  (87, .iconst 1, 1, 0, 0, false, [], [(1, 0)]),
  (88, .invokevirtual 49, 3, 5, 2, false, [484, 17, 487, 485, 486], []),
  (91, .iinc 5 1, 3, 0, 0, false, [], [(1, 0)]),
  (94, .goto (-45), 3, 49, 0, false, [], []),
  (97, .iinc 2 1, 3, 0, 0, false, [], [(1, 0)]),
  (100, .goto (-82), 3, 18, 0, false, [], []),
  (103, .return_, 1, 0, 0, false, [], [])])
def mt_68 : XM := (⟨"PuppetTurns$Survey", "isHidden", "(I)Z"⟩, prog_12_method_3_code, 2, (Option.some Jvm.ClassFile.FieldType.boolean), { frames := 1, cells := 0, slots := 0, locals := 21 }, 10, [
(0, .aload_n 0, 1, 0, 0, false, [], []),
  (1, .getfield 20, 3, 10, 1, false, [122], []),
  (4, .iload_n 1, 1, 0, 0, false, [], []),
  (5, .invokevirtual 36, 3, 1, 1, false, [481, 17, 413, 411, 412], []),
  (8, .ifCond .le 7, 3, 15, 0, false, [], []),
  (11, .iconst 1, 1, 0, 0, false, [], [(1, 0)]),
  (12, .goto 4, 3, 16, 0, false, [], []),
  (15, .iconst 0, 1, 0, 0, false, [], [(0, 0)]),
  (16, .ireturn, 1, 0, 0, false, [], [])])
def mt_69 : XM := (⟨"PuppetTurns$Survey", "hiddenPuppets", "()I"⟩, prog_12_method_4_code, 3, (Option.some Jvm.ClassFile.FieldType.int), { frames := 2, cells := 0, slots := 0, locals := 42 }, 10, [
(0, .iconst 0, 1, 0, 0, false, [], [(0, 0)]),
  (1, .istore_n 1, 1, 0, 0, false, [], []),
  (2, .iconst 0, 1, 0, 0, false, [], [(0, 0)]),
  (3, .istore_n 2, 1, 0, 0, false, [], []),
  (4, .iload_n 2, 1, 0, 0, false, [], []),
  (5, .bipush 20, 2, 0, 0, false, [], [(20, 0)]),
  (7, .if_icmp .ge 20, 3, 27, 0, false, [], []),
  (10, .aload_n 0, 1, 0, 0, false, [], []),
  (11, .iload_n 2, 1, 0, 0, false, [], []),
  (12, .invokevirtual 52, 3, 68, 1, false, [508, 19, 495, 493, 494], []),
  (15, .ifCond .eq 6, 3, 21, 0, false, [], []),
  (18, .iinc 1 1, 3, 0, 0, false, [], [(1, 0)]),
  (21, .iinc 2 1, 3, 0, 0, false, [], [(1, 0)]),
  (24, .goto (-20), 3, 4, 0, false, [], []),
  (27, .iload_n 1, 1, 0, 0, false, [], []),
  (28, .ireturn, 1, 0, 0, false, [], [])])
def mt_70 : XM := (⟨"PuppetTurns$Survey", "hiddenBits", "()I"⟩, prog_12_method_5_code, 3, (Option.some Jvm.ClassFile.FieldType.int), { frames := 2, cells := 0, slots := 0, locals := 42 }, 10, [
(0, .iconst 0, 1, 0, 0, false, [], [(0, 0)]),
  (1, .istore_n 1, 1, 0, 0, false, [], []),
  (2, .iconst 0, 1, 0, 0, false, [], [(0, 0)]),
  (3, .istore_n 2, 1, 0, 0, false, [], []),
  (4, .iload_n 2, 1, 0, 0, false, [], []),
  (5, .bipush 20, 2, 0, 0, false, [], [(20, 0)]),
  (7, .if_icmp .ge 23, 3, 30, 0, false, [], []),
  (10, .aload_n 0, 1, 0, 0, false, [], []),
  (11, .iload_n 2, 1, 0, 0, false, [], []),
  (12, .invokevirtual 52, 3, 68, 1, false, [508, 19, 495, 493, 494], []),
  (15, .ifCond .eq 9, 3, 24, 0, false, [], []),
  (18, .iload_n 1, 1, 0, 0, false, [], []),
  (19, .iconst 1, 1, 0, 0, false, [], [(1, 0)]),
  (20, .iload_n 2, 1, 0, 0, false, [], []),
  (21, .ishl, 1, 0, 0, false, [], []),
  (22, .ior, 1, 0, 0, false, [], []),
  (23, .istore_n 1, 1, 0, 0, false, [], []),
  (24, .iinc 2 1, 3, 0, 0, false, [], [(1, 0)]),
  (27, .goto (-23), 3, 4, 0, false, [], []),
  (30, .iload_n 1, 1, 0, 0, false, [], []),
  (31, .ireturn, 1, 0, 0, false, [], [])])
def mt_71 : XM := (⟨"PuppetTurns$Survey", "lineWithMostHidden", "(I)I"⟩, prog_12_method_6_code, 5, (Option.some Jvm.ClassFile.FieldType.int), { frames := 1, cells := 0, slots := 0, locals := 21 }, 10, [
(0, .iload_n 1, 1, 0, 0, false, [], []),
  (1, .istore_n 2, 1, 0, 0, false, [], []),
  (2, .bipush (-109), 2, 0, 0, false, [], [((-109), 0)]),
  (4, .istore_n 3, 1, 0, 0, false, [], []),
  (5, .iconst 0, 1, 0, 0, false, [], [(0, 0)]),
  (6, .istore 4, 2, 0, 0, false, [], []),
  (8, .iload 4, 2, 0, 0, false, [], []),
  (10, .bipush 48, 2, 0, 0, false, [], [(48, 0)]),
  (12, .if_icmp .ge 35, 3, 47, 0, false, [], []),
  (15, .aload_n 0, 1, 0, 0, false, [], []),
  (16, .getfield 14, 3, 10, 0, false, [120], []),
  (19, .iload 4, 2, 0, 0, false, [], []),
  (21, .invokevirtual 36, 3, 1, 1, false, [481, 17, 413, 411, 412], []),
  (24, .iload_n 2, 1, 0, 0, false, [], []),
  (25, .if_icmp .le 16, 3, 41, 0, false, [], []),
  (28, .aload_n 0, 1, 0, 0, false, [], []),
  (29, .getfield 14, 3, 10, 0, false, [120], []),
  (32, .iload 4, 2, 0, 0, false, [], []),
  (34, .invokevirtual 36, 3, 1, 1, false, [481, 17, 413, 411, 412], []),
  (37, .istore_n 2, 1, 0, 0, false, [], []),
  (38, .iload 4, 2, 0, 0, false, [], []),
  (40, .istore_n 3, 1, 0, 0, false, [], []),
  (41, .iinc 4 1, 3, 0, 0, false, [], [(1, 0)]),
  (44, .goto (-36), 3, 8, 0, false, [], []),
  (47, .iload_n 3, 1, 0, 0, false, [], []),
  (48, .ireturn, 1, 0, 0, false, [], [])])
def mt_72 : XM := (⟨"PuppetTurns", "<init>", "()V"⟩, prog_1_method_1_code, 1, (Option.none : Option Jvm.ClassFile.FieldType), { frames := 4, cells := 89, slots := 21182, locals := 123 }, 11, [
(0, .aload_n 0, 1, 0, 0, false, [], []),
  (1, .invokespecial 1, 3, 1000, 0, false, [35, 36, 37], []),
  (4, .aload_n 0, 1, 0, 0, false, [], []),
  (5, .new 7, 3, 5, 0, false, [38, 39, 16], []),
  (8, .dup, 1, 0, 0, false, [], []),
  (9, .invokespecial 9, 3, 24, 0, false, [40, 16, 42, 41], []),
  (12, .putfield 10, 3, 11, 0, false, [304], []),
  (15, .aload_n 0, 1, 0, 0, false, [], []),
  (16, .new 7, 3, 5, 0, false, [38, 39, 16], []),
  (19, .dup, 1, 0, 0, false, [], []),
  (20, .invokespecial 9, 3, 24, 0, false, [40, 16, 42, 41], []),
  (23, .putfield 16, 3, 11, 1, false, [305], []),
  (26, .aload_n 0, 1, 0, 0, false, [], []),
  (27, .new 19, 3, 10, 0, false, [112, 113, 19], []),
  (30, .dup, 1, 0, 0, false, [], []),
  (31, .invokespecial 21, 3, 66, 0, true, [114, 19, 116, 115], []),
  (34, .putfield 22, 3, 11, 2, false, [306], []),
  (37, .aload_n 0, 1, 0, 0, false, [], []),
  (38, .new 26, 3, 8, 0, false, [129, 130, 20], []),
  (41, .dup, 1, 0, 0, false, [], []),
  (42, .invokespecial 28, 3, 54, 0, true, [131, 20, 133, 132], []),
  (45, .putfield 29, 3, 11, 3, false, [307], []),
  (48, .aload_n 0, 1, 0, 0, false, [], []),
  (49, .new 33, 3, 2, 0, false, [146, 147, 21], []),
  (52, .dup, 1, 0, 0, false, [], []),
  (53, .invokespecial 35, 3, 10, 0, true, [148, 21, 150, 149], []),
  (56, .putfield 36, 3, 11, 4, false, [308], []),
  (59, .aload_n 0, 1, 0, 0, false, [], []),
  (60, .new 40, 3, 3, 0, false, [176, 177, 22], []),
  (63, .dup, 1, 0, 0, false, [], []),
  (64, .invokespecial 42, 3, 19, 0, false, [178, 22, 180, 179], []),
  (67, .putfield 43, 3, 11, 5, false, [309], []),
  (70, .aload_n 0, 1, 0, 0, false, [], []),
  (71, .new 47, 3, 4, 0, false, [196, 197, 23], []),
  (74, .dup, 1, 0, 0, false, [], []),
  (75, .invokespecial 49, 3, 23, 0, true, [198, 23, 200, 199], []),
  (78, .putfield 50, 3, 11, 6, false, [310], []),
  (81, .aload_n 0, 1, 0, 0, false, [], []),
  (82, .new 54, 3, 6, 0, false, [255, 256, 26], []),
  (85, .dup, 1, 0, 0, false, [], []),
  (86, .invokespecial 56, 3, 52, 0, true, [257, 26, 259, 258], []),
  (89, .putfield 57, 3, 11, 7, false, [311], []),
  (92, .aload_n 0, 1, 0, 0, false, [], []),
  (93, .new 61, 3, 1, 0, false, [279, 280, 27], []),
  (96, .dup, 1, 0, 0, false, [], []),
  (97, .invokespecial 63, 3, 8, 0, true, [281, 27, 283, 282], []),
  (100, .putfield 64, 3, 11, 8, false, [312], []),
  (103, .return_, 1, 0, 0, false, [], [])])
def mt_73 : XM := (⟨"PuppetTurns", "setRow", "(III)I"⟩, prog_1_method_2_code, 4, (Option.some Jvm.ClassFile.FieldType.int), { frames := 5, cells := 0, slots := 0, locals := 145 }, 11, [
(0, .aload_n 0, 1, 0, 0, false, [], []),
  (1, .getfield 16, 3, 11, 1, false, [305], []),
  (4, .aload_n 0, 1, 0, 0, false, [], []),
  (5, .getfield 10, 3, 11, 0, false, [304], []),
  (8, .invokevirtual 68, 3, 25, 1, false, [336, 16, 339, 337, 338], []),
  (11, .aload_n 0, 1, 0, 0, false, [], []),
  (12, .aload_n 0, 1, 0, 0, false, [], []),
  (13, .getfield 10, 3, 11, 0, false, [304], []),
  (16, .iload_n 1, 1, 0, 0, false, [], []),
  (17, .iload_n 2, 1, 0, 0, false, [], []),
  (18, .iload_n 3, 1, 0, 0, false, [], []),
  (19, .invokevirtual 72, 3, 36, 3, false, [350, 16, 353, 351, 352], []),
  (22, .invokevirtual 76, 3, 96, 1, false, [365, 15, 368, 367, 0], []),
  (25, .ireturn, 1, 0, 0, false, [], [])])
def mt_74 : XM := (⟨"PuppetTurns", "come", "(IIIII)I"⟩, prog_1_method_3_code, 6, (Option.some Jvm.ClassFile.FieldType.int), { frames := 5, cells := 0, slots := 0, locals := 145 }, 11, [
(0, .aload_n 0, 1, 0, 0, false, [], []),
  (1, .getfield 16, 3, 11, 1, false, [305], []),
  (4, .aload_n 0, 1, 0, 0, false, [], []),
  (5, .getfield 10, 3, 11, 0, false, [304], []),
  (8, .invokevirtual 68, 3, 25, 1, false, [336, 16, 339, 337, 338], []),
  (11, .aload_n 0, 1, 0, 0, false, [], []),
  (12, .aload_n 0, 1, 0, 0, false, [], []),
  (13, .getfield 10, 3, 11, 0, false, [304], []),
  (16, .iload_n 1, 1, 0, 0, false, [], []),
  (17, .iload_n 2, 1, 0, 0, false, [], []),
  (18, .iload_n 3, 1, 0, 0, false, [], []),
  (19, .iload 4, 2, 0, 0, false, [], []),
  (21, .iload 5, 2, 0, 0, false, [], []),
  (23, .invokevirtual 80, 3, 38, 5, false, [383, 16, 386, 384, 385], []),
  (26, .invokevirtual 76, 3, 96, 1, false, [365, 15, 368, 367, 0], []),
  (29, .ireturn, 1, 0, 0, false, [], [])])
def mt_75 : XM := (⟨"PuppetTurns", "leave", "(I)I"⟩, prog_1_method_4_code, 2, (Option.some Jvm.ClassFile.FieldType.int), { frames := 5, cells := 0, slots := 0, locals := 145 }, 11, [
(0, .aload_n 0, 1, 0, 0, false, [], []),
  (1, .getfield 16, 3, 11, 1, false, [305], []),
  (4, .aload_n 0, 1, 0, 0, false, [], []),
  (5, .getfield 10, 3, 11, 0, false, [304], []),
  (8, .invokevirtual 68, 3, 25, 1, false, [336, 16, 339, 337, 338], []),
  (11, .aload_n 0, 1, 0, 0, false, [], []),
  (12, .aload_n 0, 1, 0, 0, false, [], []),
  (13, .getfield 10, 3, 11, 0, false, [304], []),
  (16, .iload_n 1, 1, 0, 0, false, [], []),
  (17, .invokevirtual 84, 3, 39, 1, false, [698, 16, 701, 699, 700], []),
  (20, .invokevirtual 76, 3, 96, 1, false, [365, 15, 368, 367, 0], []),
  (23, .ireturn, 1, 0, 0, false, [], [])])
def mt_76 : XM := (⟨"PuppetTurns", "move", "(III)I"⟩, prog_1_method_5_code, 4, (Option.some Jvm.ClassFile.FieldType.int), { frames := 5, cells := 0, slots := 0, locals := 145 }, 11, [
(0, .aload_n 0, 1, 0, 0, false, [], []),
  (1, .getfield 16, 3, 11, 1, false, [305], []),
  (4, .aload_n 0, 1, 0, 0, false, [], []),
  (5, .getfield 10, 3, 11, 0, false, [304], []),
  (8, .invokevirtual 68, 3, 25, 1, false, [336, 16, 339, 337, 338], []),
  (11, .aload_n 0, 1, 0, 0, false, [], []),
  (12, .aload_n 0, 1, 0, 0, false, [], []),
  (13, .getfield 10, 3, 11, 0, false, [304], []),
  (16, .iload_n 1, 1, 0, 0, false, [], []),
  (17, .iload_n 2, 1, 0, 0, false, [], []),
  (18, .iload_n 3, 1, 0, 0, false, [], []),
  (19, .invokevirtual 87, 3, 40, 3, false, [398, 16, 401, 399, 400], []),
  (22, .invokevirtual 76, 3, 96, 1, false, [365, 15, 368, 367, 0], []),
  (25, .ireturn, 1, 0, 0, false, [], [])])
def mt_77 : XM := (⟨"PuppetTurns", "turn", "(II)I"⟩, prog_1_method_6_code, 3, (Option.some Jvm.ClassFile.FieldType.int), { frames := 5, cells := 0, slots := 0, locals := 145 }, 11, [
(0, .aload_n 0, 1, 0, 0, false, [], []),
  (1, .getfield 16, 3, 11, 1, false, [305], []),
  (4, .aload_n 0, 1, 0, 0, false, [], []),
  (5, .getfield 10, 3, 11, 0, false, [304], []),
  (8, .invokevirtual 68, 3, 25, 1, false, [336, 16, 339, 337, 338], []),
  (11, .aload_n 0, 1, 0, 0, false, [], []),
  (12, .aload_n 0, 1, 0, 0, false, [], []),
  (13, .getfield 10, 3, 11, 0, false, [304], []),
  (16, .iload_n 1, 1, 0, 0, false, [], []),
  (17, .iload_n 2, 1, 0, 0, false, [], []),
  (18, .invokevirtual 90, 3, 41, 2, false, [432, 16, 435, 433, 434], []),
  (21, .invokevirtual 76, 3, 96, 1, false, [365, 15, 368, 367, 0], []),
  (24, .ireturn, 1, 0, 0, false, [], [])])
def mt_78 : XM := (⟨"PuppetTurns", "lift", "(I)I"⟩, prog_1_method_7_code, 2, (Option.some Jvm.ClassFile.FieldType.int), { frames := 5, cells := 0, slots := 0, locals := 145 }, 11, [
(0, .aload_n 0, 1, 0, 0, false, [], []),
  (1, .getfield 16, 3, 11, 1, false, [305], []),
  (4, .aload_n 0, 1, 0, 0, false, [], []),
  (5, .getfield 10, 3, 11, 0, false, [304], []),
  (8, .invokevirtual 68, 3, 25, 1, false, [336, 16, 339, 337, 338], []),
  (11, .aload_n 0, 1, 0, 0, false, [], []),
  (12, .aload_n 0, 1, 0, 0, false, [], []),
  (13, .getfield 10, 3, 11, 0, false, [304], []),
  (16, .iload_n 1, 1, 0, 0, false, [], []),
  (17, .invokevirtual 94, 3, 42, 1, false, [440, 16, 443, 441, 442], []),
  (20, .invokevirtual 76, 3, 96, 1, false, [365, 15, 368, 367, 0], []),
  (23, .ireturn, 1, 0, 0, false, [], [])])
def mt_79 : XM := (⟨"PuppetTurns", "lower", "(I)I"⟩, prog_1_method_8_code, 2, (Option.some Jvm.ClassFile.FieldType.int), { frames := 5, cells := 0, slots := 0, locals := 145 }, 11, [
(0, .aload_n 0, 1, 0, 0, false, [], []),
  (1, .getfield 16, 3, 11, 1, false, [305], []),
  (4, .aload_n 0, 1, 0, 0, false, [], []),
  (5, .getfield 10, 3, 11, 0, false, [304], []),
  (8, .invokevirtual 68, 3, 25, 1, false, [336, 16, 339, 337, 338], []),
  (11, .aload_n 0, 1, 0, 0, false, [], []),
  (12, .aload_n 0, 1, 0, 0, false, [], []),
  (13, .getfield 10, 3, 11, 0, false, [304], []),
  (16, .iload_n 1, 1, 0, 0, false, [], []),
  (17, .invokevirtual 97, 3, 43, 1, false, [710, 16, 705, 703, 704], []),
  (20, .invokevirtual 76, 3, 96, 1, false, [365, 15, 368, 367, 0], []),
  (23, .ireturn, 1, 0, 0, false, [], [])])
def mt_80 : XM := (⟨"PuppetTurns", "setLimit", "(I)I"⟩, prog_1_method_9_code, 2, (Option.some Jvm.ClassFile.FieldType.int), { frames := 5, cells := 0, slots := 0, locals := 145 }, 11, [
(0, .aload_n 0, 1, 0, 0, false, [], []),
  (1, .getfield 16, 3, 11, 1, false, [305], []),
  (4, .aload_n 0, 1, 0, 0, false, [], []),
  (5, .getfield 10, 3, 11, 0, false, [304], []),
  (8, .invokevirtual 68, 3, 25, 1, false, [336, 16, 339, 337, 338], []),
  (11, .aload_n 0, 1, 0, 0, false, [], []),
  (12, .aload_n 0, 1, 0, 0, false, [], []),
  (13, .getfield 10, 3, 11, 0, false, [304], []),
  (16, .iload_n 1, 1, 0, 0, false, [], []),
  (17, .invokevirtual 100, 3, 46, 1, false, [456, 16, 459, 457, 458], []),
  (20, .invokevirtual 76, 3, 96, 1, false, [365, 15, 368, 367, 0], []),
  (23, .ireturn, 1, 0, 0, false, [], [])])
def mt_81 : XM := (⟨"PuppetTurns", "setRule", "(II)I"⟩, prog_1_method_10_code, 3, (Option.some Jvm.ClassFile.FieldType.int), { frames := 5, cells := 0, slots := 0, locals := 145 }, 11, [
(0, .aload_n 0, 1, 0, 0, false, [], []),
  (1, .getfield 16, 3, 11, 1, false, [305], []),
  (4, .aload_n 0, 1, 0, 0, false, [], []),
  (5, .getfield 10, 3, 11, 0, false, [304], []),
  (8, .invokevirtual 68, 3, 25, 1, false, [336, 16, 339, 337, 338], []),
  (11, .aload_n 0, 1, 0, 0, false, [], []),
  (12, .aload_n 0, 1, 0, 0, false, [], []),
  (13, .getfield 10, 3, 11, 0, false, [304], []),
  (16, .iload_n 1, 1, 0, 0, false, [], []),
  (17, .iload_n 2, 1, 0, 0, false, [], []),
  (18, .invokevirtual 103, 3, 47, 2, false, [464, 16, 467, 465, 466], []),
  (21, .invokevirtual 76, 3, 96, 1, false, [365, 15, 368, 367, 0], []),
  (24, .ireturn, 1, 0, 0, false, [], [])])
def mt_82 : XM := (⟨"PuppetTurns", "frame", "()I"⟩, prog_1_method_11_code, 1, (Option.some Jvm.ClassFile.FieldType.int), { frames := 5, cells := 0, slots := 0, locals := 145 }, 11, [
(0, .aload_n 0, 1, 0, 0, false, [], []),
  (1, .getfield 16, 3, 11, 1, false, [305], []),
  (4, .aload_n 0, 1, 0, 0, false, [], []),
  (5, .getfield 10, 3, 11, 0, false, [304], []),
  (8, .invokevirtual 68, 3, 25, 1, false, [336, 16, 339, 337, 338], []),
  (11, .aload_n 0, 1, 0, 0, false, [], []),
  (12, .aload_n 0, 1, 0, 0, false, [], []),
  (13, .getfield 10, 3, 11, 0, false, [304], []),
  (16, .aload_n 0, 1, 0, 0, false, [], []),
  (17, .getfield 22, 3, 11, 2, false, [306], []),
  (20, .sipush 9999, 3, 0, 0, false, [], [(9999, 0)]),
  (23, .invokevirtual 106, 3, 48, 2, false, [472, 16, 475, 473, 474], []),
  (26, .invokevirtual 76, 3, 96, 1, false, [365, 15, 368, 367, 0], []),
  (29, .ireturn, 1, 0, 0, false, [], [])])
def mt_83 : XM := (⟨"PuppetTurns", "undo", "()I"⟩, prog_1_method_12_code, 1, (Option.some Jvm.ClassFile.FieldType.int), { frames := 4, cells := 0, slots := 0, locals := 124 }, 11, [
(0, .aload_n 0, 1, 0, 0, false, [], []),
  (1, .getfield 43, 3, 11, 5, false, [309], []),
  (4, .getfield 110, 3, 3, 2, true, [188], []),
  (7, .ifCond .ne 6, 3, 13, 0, false, [], []),
  (10, .bipush (-102), 2, 0, 0, false, [], [((-102), 0)]),
  (12, .ireturn, 1, 0, 0, false, [], []),
  (13, .aload_n 0, 1, 0, 0, false, [], []),
  (14, .getfield 43, 3, 11, 5, false, [309], []),
  (17, .aload_n 0, 1, 0, 0, false, [], []),
  (18, .getfield 10, 3, 11, 0, false, [304], []),
  (21, .invokevirtual 114, 3, 22, 1, false, [513, 22, 516, 514, 515], []),
  (24, .aload_n 0, 1, 0, 0, false, [], []),
  (25, .getfield 43, 3, 11, 5, false, [309], []),
  (28, .getfield 110, 3, 3, 2, true, [188], []),
  (31, .ireturn, 1, 0, 0, false, [], [])])
def mt_84 : XM := (⟨"PuppetTurns", "failure", "(I)I"⟩, prog_1_method_16_code, 2, (Option.some Jvm.ClassFile.FieldType.int), { frames := 1, cells := 0, slots := 0, locals := 22 }, 11, [
(0, .iload_n 1, 1, 0, 0, false, [], []),
  (1, .iconst 0, 1, 0, 0, false, [], [(0, 0)]),
  (2, .iconst 4, 1, 0, 0, false, [], [(4, 0)]),
  (3, .invokestatic 162, 3, 95, 3, false, [521, 15, 356, 355], []),
  (6, .ifCond .ne 6, 3, 12, 0, false, [], []),
  (9, .bipush (-101), 2, 0, 0, false, [], [((-101), 0)]),
  (11, .ireturn, 1, 0, 0, false, [], []),
  (12, .aload_n 0, 1, 0, 0, false, [], []),
  (13, .getfield 64, 3, 11, 8, false, [312], []),
  (16, .iload_n 1, 1, 0, 0, false, [], []),
  (17, .invokevirtual 166, 3, 9, 1, false, [522, 27, 525, 523, 524], []),
  (20, .ireturn, 1, 0, 0, false, [], [])])
def mt_85 : XM := (⟨"PuppetTurns", "count", "(I)I"⟩, prog_1_method_17_code, 2, (Option.some Jvm.ClassFile.FieldType.int), { frames := 6, cells := 0, slots := 0, locals := 138 }, 11, [
(0, .iload_n 1, 1, 0, 0, false, [], []),
  (1, .tableswitch 165 0 10 #[59, 67, 75, 83, 91, 99, 107, 126, 138, 146, 154], 59, 166, 0, false, [], [(0, 60), (1, 68), (2, 76), (3, 84), (4, 92), (5, 100), (6, 108), (7, 127), (8, 139), (9, 147), (10, 155)]),
  (60, .aload_n 0, 1, 0, 0, false, [], []),
  (61, .getfield 10, 3, 11, 0, false, [304], []),
  (64, .getfield 169, 3, 5, 3, true, [78], []),
  (67, .ireturn, 1, 0, 0, false, [], []),
  (68, .aload_n 0, 1, 0, 0, false, [], []),
  (69, .getfield 10, 3, 11, 0, false, [304], []),
  (72, .getfield 172, 3, 5, 4, true, [80], []),
  (75, .ireturn, 1, 0, 0, false, [], []),
  (76, .aload_n 0, 1, 0, 0, false, [], []),
  (77, .getfield 10, 3, 11, 0, false, [304], []),
  (80, .getfield 175, 3, 5, 5, true, [84], []),
  (83, .ireturn, 1, 0, 0, false, [], []),
  (84, .aload_n 0, 1, 0, 0, false, [], []),
  (85, .getfield 10, 3, 11, 0, false, [304], []),
  (88, .getfield 178, 3, 5, 6, true, [87], []),
  (91, .ireturn, 1, 0, 0, false, [], []),
  (92, .aload_n 0, 1, 0, 0, false, [], []),
  (93, .getfield 10, 3, 11, 0, false, [304], []),
  (96, .getfield 181, 3, 5, 7, true, [90], []),
  (99, .ireturn, 1, 0, 0, false, [], []),
  (100, .aload_n 0, 1, 0, 0, false, [], []),
  (101, .getfield 10, 3, 11, 0, false, [304], []),
  (104, .getfield 184, 3, 5, 8, true, [92], []),
  (107, .ireturn, 1, 0, 0, false, [], []),
  (108, .aload_n 0, 1, 0, 0, false, [], []),
  (109, .getfield 22, 3, 11, 2, false, [306], []),
  (112, .aload_n 0, 1, 0, 0, false, [], []),
  (113, .getfield 10, 3, 11, 0, false, [304], []),
  (116, .invokevirtual 187, 3, 67, 1, false, [530, 19, 479, 477, 478], []),
  (119, .aload_n 0, 1, 0, 0, false, [], []),
  (120, .getfield 22, 3, 11, 2, false, [306], []),
  (123, .invokevirtual 190, 3, 69, 0, false, [531, 19, 507, 505, 506], []),
  (126, .ireturn, 1, 0, 0, false, [], []),
  (127, .aload_n 0, 1, 0, 0, false, [], []),
  (128, .getfield 29, 3, 11, 3, false, [307], []),
  (131, .aload_n 0, 1, 0, 0, false, [], []),
  (132, .getfield 10, 3, 11, 0, false, [304], []),
  (135, .invokevirtual 193, 3, 59, 1, false, [532, 20, 535, 533, 534], []),
  (138, .ireturn, 1, 0, 0, false, [], []),
  (139, .aload_n 0, 1, 0, 0, false, [], []),
  (140, .getfield 10, 3, 11, 0, false, [304], []),
  (143, .invokevirtual 197, 3, 28, 0, false, [566, 16, 569, 567, 568], []),
  (146, .ireturn, 1, 0, 0, false, [], []),
  (147, .aload_n 0, 1, 0, 0, false, [], []),
  (148, .getfield 43, 3, 11, 5, false, [309], []),
  (151, .getfield 110, 3, 3, 2, true, [188], []),
  (154, .ireturn, 1, 0, 0, false, [], []),
  (155, .aload_n 0, 1, 0, 0, false, [], []),
  (156, .getfield 50, 3, 11, 6, false, [310], []),
  (159, .getfield 117, 3, 4, 0, true, [236], []),
  (162, .getfield 126, 3, 7, 1, true, [212], []),
  (165, .ireturn, 1, 0, 0, false, [], []),
  (166, .bipush (-101), 2, 0, 0, false, [], [((-101), 0)]),
  (168, .ireturn, 1, 0, 0, false, [], [])])
def mt_86 : XM := (⟨"PuppetTurns", "puppet", "(II)I"⟩, prog_1_method_18_code, 3, (Option.some Jvm.ClassFile.FieldType.int), { frames := 3, cells := 0, slots := 0, locals := 69 }, 11, [
(0, .aload_n 0, 1, 0, 0, false, [], []),
  (1, .getfield 10, 3, 11, 0, false, [304], []),
  (4, .iload_n 1, 1, 0, 0, false, [], []),
  (5, .invokevirtual 200, 3, 27, 1, false, [574, 16, 405, 403, 404], []),
  (8, .ifCond .ne 6, 3, 14, 0, false, [], []),
  (11, .bipush (-101), 2, 0, 0, false, [], [((-101), 0)]),
  (13, .ireturn, 1, 0, 0, false, [], []),
  (14, .iload_n 2, 1, 0, 0, false, [], []),
  (15, .iconst 0, 1, 0, 0, false, [], [(0, 0)]),
  (16, .iconst 5, 1, 0, 0, false, [], [(5, 0)]),
  (17, .invokestatic 162, 3, 95, 3, false, [521, 15, 356, 355], []),
  (20, .ifCond .eq 16, 3, 36, 0, false, [], []),
  (23, .aload_n 0, 1, 0, 0, false, [], []),
  (24, .getfield 10, 3, 11, 0, false, [304], []),
  (27, .getfield 204, 3, 5, 1, true, [69], []),
  (30, .iload_n 1, 1, 0, 0, false, [], []),
  (31, .iload_n 2, 1, 0, 0, false, [], []),
  (32, .invokevirtual 208, 3, 2, 2, false, [575, 17, 360, 358, 359], []),
  (35, .ireturn, 1, 0, 0, false, [], []),
  (36, .iload_n 2, 1, 0, 0, false, [], []),
  (37, .tableswitch 122 6 11 #[39, 48, 57, 80, 94, 108], 39, 159, 0, false, [], [(6, 76), (7, 85), (8, 94), (9, 117), (10, 131), (11, 145)]),
  (76, .aload_n 0, 1, 0, 0, false, [], []),
  (77, .getfield 10, 3, 11, 0, false, [304], []),
  (80, .iload_n 1, 1, 0, 0, false, [], []),
  (81, .invokevirtual 213, 3, 26, 1, false, [576, 16, 409, 407, 408], []),
  (84, .ireturn, 1, 0, 0, false, [], []),
  (85, .aload_n 0, 1, 0, 0, false, [], []),
  (86, .getfield 10, 3, 11, 0, false, [304], []),
  (89, .iload_n 1, 1, 0, 0, false, [], []),
  (90, .invokevirtual 216, 3, 31, 1, false, [577, 16, 417, 415, 416], []),
  (93, .ireturn, 1, 0, 0, false, [], []),
  (94, .aload_n 0, 1, 0, 0, false, [], []),
  (95, .getfield 22, 3, 11, 2, false, [306], []),
  (98, .aload_n 0, 1, 0, 0, false, [], []),
  (99, .getfield 10, 3, 11, 0, false, [304], []),
  (102, .invokevirtual 187, 3, 67, 1, false, [530, 19, 479, 477, 478], []),
  (105, .aload_n 0, 1, 0, 0, false, [], []),
  (106, .getfield 22, 3, 11, 2, false, [306], []),
  (109, .getfield 219, 3, 10, 1, true, [123], []),
  (112, .iload_n 1, 1, 0, 0, false, [], []),
  (113, .invokevirtual 222, 3, 1, 1, false, [578, 17, 413, 411, 412], []),
  (116, .ireturn, 1, 0, 0, false, [], []),
  (117, .aload_n 0, 1, 0, 0, false, [], []),
  (118, .getfield 10, 3, 11, 0, false, [304], []),
  (121, .getfield 204, 3, 5, 1, true, [69], []),
  (124, .iload_n 1, 1, 0, 0, false, [], []),
  (125, .bipush 7, 2, 0, 0, false, [], [(7, 0)]),
  (127, .invokevirtual 208, 3, 2, 2, false, [575, 17, 360, 358, 359], []),
  (130, .ireturn, 1, 0, 0, false, [], []),
  (131, .aload_n 0, 1, 0, 0, false, [], []),
  (132, .getfield 10, 3, 11, 0, false, [304], []),
  (135, .getfield 204, 3, 5, 1, true, [69], []),
  (138, .iload_n 1, 1, 0, 0, false, [], []),
  (139, .bipush 8, 2, 0, 0, false, [], [(8, 0)]),
  (141, .invokevirtual 208, 3, 2, 2, false, [575, 17, 360, 358, 359], []),
  (144, .ireturn, 1, 0, 0, false, [], []),
  (145, .aload_n 0, 1, 0, 0, false, [], []),
  (146, .getfield 10, 3, 11, 0, false, [304], []),
  (149, .getfield 204, 3, 5, 1, true, [69], []),
  (152, .iload_n 1, 1, 0, 0, false, [], []),
  (153, .bipush 9, 2, 0, 0, false, [], [(9, 0)]),
  (155, .invokevirtual 208, 3, 2, 2, false, [575, 17, 360, 358, 359], []),
  (158, .ireturn, 1, 0, 0, false, [], []),
  (159, .bipush (-101), 2, 0, 0, false, [], [((-101), 0)]),
  (161, .ireturn, 1, 0, 0, false, [], [])])
def mt_87 : XM := (⟨"PuppetTurns", "line", "(II)I"⟩, prog_1_method_19_code, 3, (Option.some Jvm.ClassFile.FieldType.int), { frames := 5, cells := 0, slots := 0, locals := 115 }, 11, [
(0, .iload_n 1, 1, 0, 0, false, [], []),
  (1, .iconst 0, 1, 0, 0, false, [], [(0, 0)]),
  (2, .bipush 47, 2, 0, 0, false, [], [(47, 0)]),
  (4, .invokestatic 162, 3, 95, 3, false, [521, 15, 356, 355], []),
  (7, .ifCond .ne 6, 3, 13, 0, false, [], []),
  (10, .bipush (-101), 2, 0, 0, false, [], [((-101), 0)]),
  (12, .ireturn, 1, 0, 0, false, [], []),
  (13, .iload_n 2, 1, 0, 0, false, [], []),
  (14, .tableswitch 82 0 2 #[26, 49, 69], 26, 96, 0, false, [], [(0, 40), (1, 63), (2, 83)]),
  (40, .aload_n 0, 1, 0, 0, false, [], []),
  (41, .getfield 22, 3, 11, 2, false, [306], []),
  (44, .aload_n 0, 1, 0, 0, false, [], []),
  (45, .getfield 10, 3, 11, 0, false, [304], []),
  (48, .invokevirtual 187, 3, 67, 1, false, [530, 19, 479, 477, 478], []),
  (51, .aload_n 0, 1, 0, 0, false, [], []),
  (52, .getfield 22, 3, 11, 2, false, [306], []),
  (55, .getfield 224, 3, 10, 0, true, [121], []),
  (58, .iload_n 1, 1, 0, 0, false, [], []),
  (59, .invokevirtual 222, 3, 1, 1, false, [578, 17, 413, 411, 412], []),
  (62, .ireturn, 1, 0, 0, false, [], []),
  (63, .aload_n 0, 1, 0, 0, false, [], []),
  (64, .getfield 29, 3, 11, 3, false, [307], []),
  (67, .aload_n 0, 1, 0, 0, false, [], []),
  (68, .getfield 10, 3, 11, 0, false, [304], []),
  (71, .iload_n 1, 1, 0, 0, false, [], []),
  (72, .invokevirtual 227, 3, 55, 2, false, [583, 20, 543, 541, 542], []),
  (75, .aload_n 0, 1, 0, 0, false, [], []),
  (76, .getfield 29, 3, 11, 3, false, [307], []),
  (79, .getfield 230, 3, 8, 1, true, [140], []),
  (82, .ireturn, 1, 0, 0, false, [], []),
  (83, .aload_n 0, 1, 0, 0, false, [], []),
  (84, .getfield 29, 3, 11, 3, false, [307], []),
  (87, .aload_n 0, 1, 0, 0, false, [], []),
  (88, .getfield 10, 3, 11, 0, false, [304], []),
  (91, .iload_n 1, 1, 0, 0, false, [], []),
  (92, .invokevirtual 231, 3, 58, 2, false, [584, 20, 539, 537, 538], []),
  (95, .ireturn, 1, 0, 0, false, [], []),
  (96, .bipush (-101), 2, 0, 0, false, [], [((-101), 0)]),
  (98, .ireturn, 1, 0, 0, false, [], [])])
def mt_88 : XM := (⟨"PuppetTurns", "shown", "(II)I"⟩, prog_1_method_20_code, 3, (Option.some Jvm.ClassFile.FieldType.int), { frames := 4, cells := 0, slots := 0, locals := 90 }, 11, [
(0, .iload_n 1, 1, 0, 0, false, [], []),
  (1, .iconst 0, 1, 0, 0, false, [], [(0, 0)]),
  (2, .bipush 47, 2, 0, 0, false, [], [(47, 0)]),
  (4, .invokestatic 162, 3, 95, 3, false, [521, 15, 356, 355], []),
  (7, .ifCond .eq 7, 3, 14, 0, false, [], []),
  (10, .iload_n 2, 1, 0, 0, false, [], []),
  (11, .ifCond .ge 6, 3, 17, 0, false, [], []),
  (14, .bipush (-101), 2, 0, 0, false, [], [((-101), 0)]),
  (16, .ireturn, 1, 0, 0, false, [], []),
  (17, .aload_n 0, 1, 0, 0, false, [], []),
  (18, .getfield 29, 3, 11, 3, false, [307], []),
  (21, .aload_n 0, 1, 0, 0, false, [], []),
  (22, .getfield 10, 3, 11, 0, false, [304], []),
  (25, .iload_n 1, 1, 0, 0, false, [], []),
  (26, .invokevirtual 227, 3, 55, 2, false, [583, 20, 543, 541, 542], []),
  (29, .iload_n 2, 1, 0, 0, false, [], []),
  (30, .aload_n 0, 1, 0, 0, false, [], []),
  (31, .getfield 29, 3, 11, 3, false, [307], []),
  (34, .getfield 230, 3, 8, 1, true, [140], []),
  (37, .if_icmp .ge 17, 3, 54, 0, false, [], []),
  (40, .aload_n 0, 1, 0, 0, false, [], []),
  (41, .getfield 29, 3, 11, 3, false, [307], []),
  (44, .getfield 235, 3, 8, 0, true, [138], []),
  (47, .iload_n 2, 1, 0, 0, false, [], []),
  (48, .invokevirtual 222, 3, 1, 1, false, [578, 17, 413, 411, 412], []),
  (51, .goto 5, 3, 56, 0, false, [], []),
  (54, .bipush (-109), 2, 0, 0, false, [], [((-109), 0)]),
  (56, .ireturn, 1, 0, 0, false, [], [])])
def mt_89 : XM := (⟨"PuppetTurns", "dot", "(II)I"⟩, prog_1_method_21_code, 3, (Option.some Jvm.ClassFile.FieldType.int), { frames := 5, cells := 0, slots := 0, locals := 115 }, 11, [
(0, .iload_n 1, 1, 0, 0, false, [], []),
  (1, .iconst 0, 1, 0, 0, false, [], [(0, 0)]),
  (2, .bipush 63, 2, 0, 0, false, [], [(63, 0)]),
  (4, .invokestatic 162, 3, 95, 3, false, [521, 15, 356, 355], []),
  (7, .ifCond .eq 13, 3, 20, 0, false, [], []),
  (10, .iload_n 2, 1, 0, 0, false, [], []),
  (11, .iconst 0, 1, 0, 0, false, [], [(0, 0)]),
  (12, .bipush 47, 2, 0, 0, false, [], [(47, 0)]),
  (14, .invokestatic 162, 3, 95, 3, false, [521, 15, 356, 355], []),
  (17, .ifCond .ne 6, 3, 23, 0, false, [], []),
  (20, .bipush (-101), 2, 0, 0, false, [], [((-101), 0)]),
  (22, .ireturn, 1, 0, 0, false, [], []),
  (23, .aload_n 0, 1, 0, 0, false, [], []),
  (24, .getfield 29, 3, 11, 3, false, [307], []),
  (27, .aload_n 0, 1, 0, 0, false, [], []),
  (28, .getfield 10, 3, 11, 0, false, [304], []),
  (31, .iload_n 1, 1, 0, 0, false, [], []),
  (32, .iload_n 2, 1, 0, 0, false, [], []),
  (33, .invokevirtual 238, 3, 57, 3, false, [589, 20, 592, 590, 591], []),
  (36, .ireturn, 1, 0, 0, false, [], [])])
def mt_90 : XM := (⟨"PuppetTurns", "clash", "(I)I"⟩, prog_1_method_22_code, 2, (Option.some Jvm.ClassFile.FieldType.int), { frames := 6, cells := 0, slots := 0, locals := 146 }, 11, [
(0, .iload_n 1, 1, 0, 0, false, [], []),
  (1, .iconst 0, 1, 0, 0, false, [], [(0, 0)]),
  (2, .iconst 3, 1, 0, 0, false, [], [(3, 0)]),
  (3, .invokestatic 162, 3, 95, 3, false, [521, 15, 356, 355], []),
  (6, .ifCond .ne 6, 3, 12, 0, false, [], []),
  (9, .bipush (-101), 2, 0, 0, false, [], [((-101), 0)]),
  (11, .ireturn, 1, 0, 0, false, [], []),
  (12, .iload_n 1, 1, 0, 0, false, [], []),
  (13, .ifCond .ne 17, 3, 30, 0, false, [], []),
  (16, .aload_n 0, 1, 0, 0, false, [], []),
  (17, .getfield 29, 3, 11, 3, false, [307], []),
  (20, .aload_n 0, 1, 0, 0, false, [], []),
  (21, .getfield 10, 3, 11, 0, false, [304], []),
  (24, .invokevirtual 242, 3, 61, 1, false, [601, 20, 604, 602, 603], []),
  (27, .goto 15, 3, 42, 0, false, [], []),
  (30, .aload_n 0, 1, 0, 0, false, [], []),
  (31, .getfield 29, 3, 11, 3, false, [307], []),
  (34, .aload_n 0, 1, 0, 0, false, [], []),
  (35, .getfield 10, 3, 11, 0, false, [304], []),
  (38, .iload_n 1, 1, 0, 0, false, [], []),
  (39, .invokevirtual 245, 3, 62, 2, false, [610, 20, 613, 611, 612], []),
  (42, .ireturn, 1, 0, 0, false, [], [])])
def mt_91 : XM := (⟨"PuppetTurns", "hiddenIn", "(II)I"⟩, prog_1_method_23_code, 3, (Option.some Jvm.ClassFile.FieldType.int), { frames := 5, cells := 0, slots := 0, locals := 126 }, 11, [
(0, .aload_n 0, 1, 0, 0, false, [], []),
  (1, .getfield 10, 3, 11, 0, false, [304], []),
  (4, .iload_n 1, 1, 0, 0, false, [], []),
  (5, .invokevirtual 200, 3, 27, 1, false, [574, 16, 405, 403, 404], []),
  (8, .ifCond .eq 13, 3, 21, 0, false, [], []),
  (11, .iload_n 2, 1, 0, 0, false, [], []),
  (12, .iconst 1, 1, 0, 0, false, [], [(1, 0)]),
  (13, .bipush 60, 2, 0, 0, false, [], [(60, 0)]),
  (15, .invokestatic 162, 3, 95, 3, false, [521, 15, 356, 355], []),
  (18, .ifCond .ne 6, 3, 24, 0, false, [], []),
  (21, .bipush (-101), 2, 0, 0, false, [], [((-101), 0)]),
  (23, .ireturn, 1, 0, 0, false, [], []),
  (24, .aload_n 0, 1, 0, 0, false, [], []),
  (25, .getfield 36, 3, 11, 4, false, [308], []),
  (28, .aload_n 0, 1, 0, 0, false, [], []),
  (29, .getfield 10, 3, 11, 0, false, [304], []),
  (32, .iload_n 1, 1, 0, 0, false, [], []),
  (33, .iload_n 2, 1, 0, 0, false, [], []),
  (34, .invokevirtual 248, 3, 12, 3, false, [625, 21, 628, 626, 627], []),
  (37, .ireturn, 1, 0, 0, false, [], [])])
def mt_92 : XM := (⟨"PuppetTurns", "allShownIn", "()I"⟩, prog_1_method_24_code, 1, (Option.some Jvm.ClassFile.FieldType.int), { frames := 5, cells := 0, slots := 0, locals := 124 }, 11, [
(0, .aload_n 0, 1, 0, 0, false, [], []),
  (1, .getfield 36, 3, 11, 4, false, [308], []),
  (4, .aload_n 0, 1, 0, 0, false, [], []),
  (5, .getfield 10, 3, 11, 0, false, [304], []),
  (8, .invokevirtual 251, 3, 13, 1, false, [641, 21, 644, 642, 643], []),
  (11, .ireturn, 1, 0, 0, false, [], [])])
def mt_93 : XM := (⟨"PuppetTurns", "bestStep", "(I)I"⟩, prog_1_method_25_code, 2, (Option.some Jvm.ClassFile.FieldType.int), { frames := 6, cells := 0, slots := 0, locals := 147 }, 11, [
(0, .iload_n 1, 1, 0, 0, false, [], []),
  (1, .iconst 0, 1, 0, 0, false, [], [(0, 0)]),
  (2, .iconst 1, 1, 0, 0, false, [], [(1, 0)]),
  (3, .invokestatic 162, 3, 95, 3, false, [521, 15, 356, 355], []),
  (6, .ifCond .ne 6, 3, 12, 0, false, [], []),
  (9, .bipush (-101), 2, 0, 0, false, [], [((-101), 0)]),
  (11, .ireturn, 1, 0, 0, false, [], []),
  (12, .aload_n 0, 1, 0, 0, false, [], []),
  (13, .getfield 36, 3, 11, 4, false, [308], []),
  (16, .aload_n 0, 1, 0, 0, false, [], []),
  (17, .getfield 10, 3, 11, 0, false, [304], []),
  (20, .invokevirtual 254, 3, 15, 1, false, [654, 21, 657, 655, 656], []),
  (23, .iload_n 1, 1, 0, 0, false, [], []),
  (24, .ifCond .ne 13, 3, 37, 0, false, [], []),
  (27, .aload_n 0, 1, 0, 0, false, [], []),
  (28, .getfield 36, 3, 11, 4, false, [308], []),
  (31, .getfield 257, 3, 2, 3, true, [162], []),
  (34, .goto 10, 3, 44, 0, false, [], []),
  (37, .aload_n 0, 1, 0, 0, false, [], []),
  (38, .getfield 36, 3, 11, 4, false, [308], []),
  (41, .getfield 258, 3, 2, 4, true, [164], []),
  (44, .ireturn, 1, 0, 0, false, [], [])])
def mt_94 : XM := (⟨"PuppetTurns", "worstLine", "()I"⟩, prog_1_method_26_code, 1, (Option.some Jvm.ClassFile.FieldType.int), { frames := 3, cells := 0, slots := 0, locals := 69 }, 11, [
(0, .aload_n 0, 1, 0, 0, false, [], []),
  (1, .getfield 22, 3, 11, 2, false, [306], []),
  (4, .aload_n 0, 1, 0, 0, false, [], []),
  (5, .getfield 10, 3, 11, 0, false, [304], []),
  (8, .invokevirtual 187, 3, 67, 1, false, [530, 19, 479, 477, 478], []),
  (11, .aload_n 0, 1, 0, 0, false, [], []),
  (12, .getfield 22, 3, 11, 2, false, [306], []),
  (15, .aload_n 0, 1, 0, 0, false, [], []),
  (16, .getfield 10, 3, 11, 0, false, [304], []),
  (19, .getfield 175, 3, 5, 5, true, [84], []),
  (22, .invokevirtual 261, 3, 71, 1, false, [718, 19, 721, 719, 720], []),
  (25, .ireturn, 1, 0, 0, false, [], [])])
def mt_95 : XM := (⟨"PuppetTurns", "within", "(III)Z"⟩, prog_1_method_27_code, 3, (Option.some Jvm.ClassFile.FieldType.boolean), { frames := 0, cells := 0, slots := 0, locals := 0 }, 11, [
(0, .iload_n 0, 1, 0, 0, false, [], []),
  (1, .iload_n 1, 1, 0, 0, false, [], []),
  (2, .if_icmp .lt 12, 3, 14, 0, false, [], []),
  (5, .iload_n 0, 1, 0, 0, false, [], []),
  (6, .iload_n 2, 1, 0, 0, false, [], []),
  (7, .if_icmp .gt 7, 3, 14, 0, false, [], []),
  (10, .iconst 1, 1, 0, 0, false, [], [(1, 0)]),
  (11, .goto 4, 3, 15, 0, false, [], []),
  (14, .iconst 0, 1, 0, 0, false, [], [(0, 0)]),
  (15, .ireturn, 1, 0, 0, false, [], [])])
def mt_96 : XM := (⟨"PuppetTurns", "recorded", "(I)I"⟩, prog_1_method_28_code, 2, (Option.some Jvm.ClassFile.FieldType.int), { frames := 4, cells := 0, slots := 0, locals := 124 }, 11, [
(0, .iload_n 1, 1, 0, 0, false, [], []),
  (1, .ifCond .lt 14, 3, 15, 0, false, [], []),
  (4, .aload_n 0, 1, 0, 0, false, [], []),
  (5, .getfield 43, 3, 11, 5, false, [309], []),
  (8, .aload_n 0, 1, 0, 0, false, [], []),
  (9, .getfield 16, 3, 11, 1, false, [305], []),
  (12, .invokevirtual 264, 3, 21, 1, false, [369, 22, 372, 370, 371], []),
  (15, .iload_n 1, 1, 0, 0, false, [], []),
  (16, .ireturn, 1, 0, 0, false, [], [])])
def mt_97 : XM := (⟨"java/lang/Long", "bitCount", "(J)I"⟩, prog_15_method_50_code, 2, (Option.some Jvm.ClassFile.FieldType.int), { frames := 0, cells := 0, slots := 0, locals := 0 }, 99, [
(0, .lload_n 0, 1, 0, 0, false, [], []),
  (1, .lload_n 0, 1, 0, 0, false, [], []),
  (2, .iconst 1, 1, 0, 0, false, [], [(1, 0)]),
  (3, .lushr, 1, 0, 0, false, [], []),
  (4, .ldc2_w 314, 3, 6148914691236517205, 0, false, [563], []),
  (7, .land, 1, 0, 0, false, [], []),
  (8, .lsub, 1, 0, 0, false, [], []),
  (9, .lstore_n 0, 1, 0, 0, false, [], []),
  (10, .lload_n 0, 1, 0, 0, false, [], []),
  (11, .ldc2_w 316, 3, 3689348814741910323, 0, false, [564], []),
  (14, .land, 1, 0, 0, false, [], []),
  (15, .lload_n 0, 1, 0, 0, false, [], []),
  (16, .iconst 2, 1, 0, 0, false, [], [(2, 0)]),
  (17, .lushr, 1, 0, 0, false, [], []),
  (18, .ldc2_w 316, 3, 3689348814741910323, 0, false, [564], []),
  (21, .land, 1, 0, 0, false, [], []),
  (22, .ladd, 1, 0, 0, false, [], []),
  (23, .lstore_n 0, 1, 0, 0, false, [], []),
  (24, .lload_n 0, 1, 0, 0, false, [], []),
  (25, .lload_n 0, 1, 0, 0, false, [], []),
  (26, .iconst 4, 1, 0, 0, false, [], [(4, 0)]),
  (27, .lushr, 1, 0, 0, false, [], []),
  (28, .ladd, 1, 0, 0, false, [], []),
  (29, .ldc2_w 318, 3, 1085102592571150095, 0, false, [565], []),
  (32, .land, 1, 0, 0, false, [], []),
  (33, .lstore_n 0, 1, 0, 0, false, [], []),
  (34, .lload_n 0, 1, 0, 0, false, [], []),
  (35, .lload_n 0, 1, 0, 0, false, [], []),
  (36, .bipush 8, 2, 0, 0, false, [], [(8, 0)]),
  (38, .lushr, 1, 0, 0, false, [], []),
  (39, .ladd, 1, 0, 0, false, [], []),
  (40, .lstore_n 0, 1, 0, 0, false, [], []),
  (41, .lload_n 0, 1, 0, 0, false, [], []),
  (42, .lload_n 0, 1, 0, 0, false, [], []),
  (43, .bipush 16, 2, 0, 0, false, [], [(16, 0)]),
  (45, .lushr, 1, 0, 0, false, [], []),
  (46, .ladd, 1, 0, 0, false, [], []),
  (47, .lstore_n 0, 1, 0, 0, false, [], []),
  (48, .lload_n 0, 1, 0, 0, false, [], []),
  (49, .lload_n 0, 1, 0, 0, false, [], []),
  (50, .bipush 32, 2, 0, 0, false, [], [(32, 0)]),
  (52, .lushr, 1, 0, 0, false, [], []),
  (53, .ladd, 1, 0, 0, false, [], []),
  (54, .lstore_n 0, 1, 0, 0, false, [], []),
  (55, .lload_n 0, 1, 0, 0, false, [], []),
  (56, .l2i, 1, 0, 0, false, [], []),
  (57, .bipush 127, 2, 0, 0, false, [], [(127, 0)]),
  (59, .iand, 1, 0, 0, false, [], []),
  (60, .ireturn, 1, 0, 0, false, [], [])])
def mt_98 : XM := (⟨"java/lang/Math", "max", "(II)I"⟩, prog_16_method_65_code, 2, (Option.some Jvm.ClassFile.FieldType.int), { frames := 0, cells := 0, slots := 0, locals := 0 }, 99, [
(0, .iload_n 0, 1, 0, 0, false, [], []),
  (1, .iload_n 1, 1, 0, 0, false, [], []),
  (2, .if_icmp .lt 7, 3, 9, 0, false, [], []),
  (5, .iload_n 0, 1, 0, 0, false, [], []),
  (6, .goto 4, 3, 10, 0, false, [], []),
  (9, .iload_n 1, 1, 0, 0, false, [], []),
  (10, .ireturn, 1, 0, 0, false, [], [])])
def mt_99 : XM := (⟨"java/lang/Math", "min", "(II)I"⟩, prog_16_method_69_code, 2, (Option.some Jvm.ClassFile.FieldType.int), { frames := 0, cells := 0, slots := 0, locals := 0 }, 99, [
(0, .iload_n 0, 1, 0, 0, false, [], []),
  (1, .iload_n 1, 1, 0, 0, false, [], []),
  (2, .if_icmp .gt 7, 3, 9, 0, false, [], []),
  (5, .iload_n 0, 1, 0, 0, false, [], []),
  (6, .goto 4, 3, 10, 0, false, [], []),
  (9, .iload_n 1, 1, 0, 0, false, [], []),
  (10, .ireturn, 1, 0, 0, false, [], [])])
def mt_100 : XM := (⟨"PuppetTurnsLaw", "cell", "([II)I"⟩, method_2_code, 2, (Option.some Jvm.ClassFile.FieldType.int), { frames := 0, cells := 0, slots := 0, locals := 0 }, 99, [
(0, .iload_n 1, 1, 0, 0, false, [], []),
  (1, .aload_n 0, 1, 0, 0, false, [], []),
  (2, .arraylength, 1, 0, 0, false, [], []),
  (3, .if_icmp .ge 9, 3, 12, 0, false, [], []),
  (6, .aload_n 0, 1, 0, 0, false, [], []),
  (7, .iload_n 1, 1, 0, 0, false, [], []),
  (8, .iaload, 1, 0, 0, false, [], []),
  (9, .goto 15, 3, 24, 0, false, [], []),
  (12, .sipush 7919, 3, 0, 0, false, [], [(7919, 0)]),
  (15, .iload_n 1, 1, 0, 0, false, [], []),
  (16, .iconst 3, 1, 0, 0, false, [], [(3, 0)]),
  (17, .iadd, 1, 0, 0, false, [], []),
  (18, .imul, 1, 0, 0, false, [], []),
  (19, .iload_n 1, 1, 0, 0, false, [], []),
  (20, .bipush 11, 2, 0, 0, false, [], [(11, 0)]),
  (22, .iadd, 1, 0, 0, false, [], []),
  (23, .imul, 1, 0, 0, false, [], []),
  (24, .ireturn, 1, 0, 0, false, [], [])])
def mt_101 : XM := (⟨"PuppetTurnsLaw", "low", "(II)I"⟩, method_3_code, 2, (Option.some Jvm.ClassFile.FieldType.int), { frames := 0, cells := 0, slots := 0, locals := 0 }, 99, [
(0, .iload_n 0, 1, 0, 0, false, [], []),
  (1, .ldc 7, 2, 0, 0, false, [682], [(2147483647, 0)]),
  (3, .iand, 1, 0, 0, false, [], []),
  (4, .iload_n 1, 1, 0, 0, false, [], []),
  (5, .irem, 1, 0, 0, false, [], []),
  (6, .ireturn, 1, 0, 0, false, [], [])])
def mt_102 : XM := (⟨"PuppetTurnsLaw", "digest", "(LPuppetTurns;)J"⟩, method_4_code, 4, (Option.some Jvm.ClassFile.FieldType.long), { frames := 7, cells := 0, slots := 0, locals := 159 }, 99, [
(0, .ldc2_w 8, 3, 3, 0, false, [686], []),
  (3, .lstore_n 1, 1, 0, 0, false, [], []),
  (4, .iconst 0, 1, 0, 0, false, [], [(0, 0)]),
  (5, .istore_n 3, 1, 0, 0, false, [], []),
  (6, .iload_n 3, 1, 0, 0, false, [], []),
  (7, .bipush 9, 2, 0, 0, false, [], [(9, 0)]),
  (9, .if_icmp .ge 22, 3, 31, 0, false, [], []),
  (12, .ldc2_w 10, 3, 31, 0, false, [687], []),
  (15, .lload_n 1, 1, 0, 0, false, [], []),
  (16, .lmul, 1, 0, 0, false, [], []),
  (17, .aload_n 0, 1, 0, 0, false, [], []),
  (18, .iload_n 3, 1, 0, 0, false, [], []),
  (19, .invokevirtual 12, 3, 85, 1, false, [526, 15, 529, 527, 528], []),
  (22, .i2l, 1, 0, 0, false, [], []),
  (23, .ladd, 1, 0, 0, false, [], []),
  (24, .lstore_n 1, 1, 0, 0, false, [], []),
  (25, .iinc 3 1, 3, 0, 0, false, [], [(1, 0)]),
  (28, .goto (-22), 3, 6, 0, false, [], []),
  (31, .iconst 0, 1, 0, 0, false, [], [(0, 0)]),
  (32, .istore_n 3, 1, 0, 0, false, [], []),
  (33, .iload_n 3, 1, 0, 0, false, [], []),
  (34, .bipush 120, 2, 0, 0, false, [], [(120, 0)]),
  (36, .if_icmp .ge 29, 3, 65, 0, false, [], []),
  (39, .ldc2_w 10, 3, 31, 0, false, [687], []),
  (42, .lload_n 1, 1, 0, 0, false, [], []),
  (43, .lmul, 1, 0, 0, false, [], []),
  (44, .aload_n 0, 1, 0, 0, false, [], []),
  (45, .iload_n 3, 1, 0, 0, false, [], []),
  (46, .bipush 12, 2, 0, 0, false, [], [(12, 0)]),
  (48, .idiv, 1, 0, 0, false, [], []),
  (49, .iload_n 3, 1, 0, 0, false, [], []),
  (50, .bipush 12, 2, 0, 0, false, [], [(12, 0)]),
  (52, .irem, 1, 0, 0, false, [], []),
  (53, .invokevirtual 18, 3, 86, 2, false, [570, 15, 573, 571, 572], []),
  (56, .i2l, 1, 0, 0, false, [], []),
  (57, .ladd, 1, 0, 0, false, [], []),
  (58, .lstore_n 1, 1, 0, 0, false, [], []),
  (59, .iinc 3 1, 3, 0, 0, false, [], [(1, 0)]),
  (62, .goto (-29), 3, 33, 0, false, [], []),
  (65, .lload_n 1, 1, 0, 0, false, [], []),
  (66, .lreturn, 1, 0, 0, false, [], [])])
def mt_103 : XM := (⟨"PuppetTurnsLaw", "there", "(LPuppetTurns;I)I"⟩, method_5_code, 5, (Option.some Jvm.ClassFile.FieldType.int), { frames := 7, cells := 0, slots := 0, locals := 159 }, 99, [
(0, .iconst 0, 1, 0, 0, false, [], [(0, 0)]),
  (1, .istore_n 2, 1, 0, 0, false, [], []),
  (2, .aload_n 0, 1, 0, 0, false, [], []),
  (3, .iconst 1, 1, 0, 0, false, [], [(1, 0)]),
  (4, .invokevirtual 12, 3, 85, 1, false, [526, 15, 529, 527, 528], []),
  (7, .istore_n 3, 1, 0, 0, false, [], []),
  (8, .iconst 0, 1, 0, 0, false, [], [(0, 0)]),
  (9, .istore 4, 2, 0, 0, false, [], []),
  (11, .iload 4, 2, 0, 0, false, [], []),
  (13, .bipush 12, 2, 0, 0, false, [], [(12, 0)]),
  (15, .if_icmp .ge 35, 3, 50, 0, false, [], []),
  (18, .iload_n 3, 1, 0, 0, false, [], []),
  (19, .ifCond .le 31, 3, 50, 0, false, [], []),
  (22, .iload_n 1, 1, 0, 0, false, [], []),
  (23, .iload 4, 2, 0, 0, false, [], []),
  (25, .iadd, 1, 0, 0, false, [], []),
  (26, .iload_n 3, 1, 0, 0, false, [], []),
  (27, .invokestatic 22, 3, 101, 2, false, [679, 14, 681, 680], []),
  (30, .istore_n 2, 1, 0, 0, false, [], []),
  (31, .aload_n 0, 1, 0, 0, false, [], []),
  (32, .iload_n 2, 1, 0, 0, false, [], []),
  (33, .iconst 0, 1, 0, 0, false, [], [(0, 0)]),
  (34, .invokevirtual 18, 3, 86, 2, false, [570, 15, 573, 571, 572], []),
  (37, .bipush (-101), 2, 0, 0, false, [], [((-101), 0)]),
  (39, .if_icmp .eq 5, 3, 44, 0, false, [], []),
  (42, .iload_n 2, 1, 0, 0, false, [], []),
  (43, .ireturn, 1, 0, 0, false, [], []),
  (44, .iinc 4 1, 3, 0, 0, false, [], [(1, 0)]),
  (47, .goto (-36), 3, 11, 0, false, [], []),
  (50, .iload_n 2, 1, 0, 0, false, [], []),
  (51, .ireturn, 1, 0, 0, false, [], [])])
def mt_104 : XM := (⟨"PuppetTurnsLaw", "act", "(LPuppetTurns;I)I"⟩, method_6_code, 3, (Option.some Jvm.ClassFile.FieldType.int), { frames := 8, cells := 0, slots := 0, locals := 183 }, 99, [
(0, .aload_n 0, 1, 0, 0, false, [], []),
  (1, .iload_n 1, 1, 0, 0, false, [], []),
  (2, .iconst 4, 1, 0, 0, false, [], [(4, 0)]),
  (3, .ishr, 1, 0, 0, false, [], []),
  (4, .invokestatic 27, 3, 103, 2, false, [688, 14, 690, 689], []),
  (7, .istore_n 2, 1, 0, 0, false, [], []),
  (8, .iload_n 1, 1, 0, 0, false, [], []),
  (9, .bipush 15, 2, 0, 0, false, [], [(15, 0)]),
  (11, .iand, 1, 0, 0, false, [], []),
  (12, .tableswitch 200 0 11 #[64, 96, 102, 132, 146, 152, 158, 172, 195, 195, 195, 195], 64, 212, 0, false, [], [(0, 76), (1, 108), (2, 114), (3, 144), (4, 158), (5, 164), (6, 170), (7, 184), (8, 207), (9, 207), (10, 207), (11, 207)]),
  (76, .aload_n 0, 1, 0, 0, false, [], []),
  (77, .iload_n 1, 1, 0, 0, false, [], []),
  (78, .iconst 4, 1, 0, 0, false, [], [(4, 0)]),
  (79, .ishr, 1, 0, 0, false, [], []),
  (80, .bipush 8, 2, 0, 0, false, [], [(8, 0)]),
  (82, .invokestatic 22, 3, 101, 2, false, [679, 14, 681, 680], []),
  (85, .iload_n 1, 1, 0, 0, false, [], []),
  (86, .bipush 7, 2, 0, 0, false, [], [(7, 0)]),
  (88, .ishr, 1, 0, 0, false, [], []),
  (89, .bipush 8, 2, 0, 0, false, [], [(8, 0)]),
  (91, .invokestatic 22, 3, 101, 2, false, [679, 14, 681, 680], []),
  (94, .iload_n 1, 1, 0, 0, false, [], []),
  (95, .bipush 10, 2, 0, 0, false, [], [(10, 0)]),
  (97, .ishr, 1, 0, 0, false, [], []),
  (98, .sipush 256, 3, 0, 0, false, [], [(256, 0)]),
  (101, .invokestatic 22, 3, 101, 2, false, [679, 14, 681, 680], []),
  (104, .invokevirtual 31, 3, 73, 3, false, [332, 15, 335, 333, 334], []),
  (107, .ireturn, 1, 0, 0, false, [], []),
  (108, .aload_n 0, 1, 0, 0, false, [], []),
  (109, .iload_n 2, 1, 0, 0, false, [], []),
  (110, .invokevirtual 35, 3, 75, 1, false, [694, 15, 697, 695, 696], []),
  (113, .ireturn, 1, 0, 0, false, [], []),
  (114, .aload_n 0, 1, 0, 0, false, [], []),
  (115, .iload_n 2, 1, 0, 0, false, [], []),
  (116, .iload_n 1, 1, 0, 0, false, [], []),
  (117, .bipush 8, 2, 0, 0, false, [], [(8, 0)]),
  (119, .ishr, 1, 0, 0, false, [], []),
  (120, .bipush 79, 2, 0, 0, false, [], [(79, 0)]),
  (122, .invokestatic 22, 3, 101, 2, false, [679, 14, 681, 680], []),
  (125, .bipush 15, 2, 0, 0, false, [], [(15, 0)]),
  (127, .isub, 1, 0, 0, false, [], []),
  (128, .iload_n 1, 1, 0, 0, false, [], []),
  (129, .bipush 12, 2, 0, 0, false, [], [(12, 0)]),
  (131, .ishr, 1, 0, 0, false, [], []),
  (132, .bipush 63, 2, 0, 0, false, [], [(63, 0)]),
  (134, .invokestatic 22, 3, 101, 2, false, [679, 14, 681, 680], []),
  (137, .bipush 15, 2, 0, 0, false, [], [(15, 0)]),
  (139, .isub, 1, 0, 0, false, [], []),
  (140, .invokevirtual 38, 3, 76, 3, false, [394, 15, 397, 395, 396], []),
  (143, .ireturn, 1, 0, 0, false, [], []),
  (144, .aload_n 0, 1, 0, 0, false, [], []),
  (145, .iload_n 2, 1, 0, 0, false, [], []),
  (146, .iload_n 1, 1, 0, 0, false, [], []),
  (147, .bipush 8, 2, 0, 0, false, [], [(8, 0)]),
  (149, .ishr, 1, 0, 0, false, [], []),
  (150, .iconst 4, 1, 0, 0, false, [], [(4, 0)]),
  (151, .invokestatic 22, 3, 101, 2, false, [679, 14, 681, 680], []),
  (154, .invokevirtual 41, 3, 77, 2, false, [428, 15, 431, 429, 430], []),
  (157, .ireturn, 1, 0, 0, false, [], []),
  (158, .aload_n 0, 1, 0, 0, false, [], []),
  (159, .iload_n 2, 1, 0, 0, false, [], []),
  (160, .invokevirtual 44, 3, 78, 1, false, [436, 15, 439, 437, 438], []),
  (163, .ireturn, 1, 0, 0, false, [], []),
  (164, .aload_n 0, 1, 0, 0, false, [], []),
  (165, .iload_n 2, 1, 0, 0, false, [], []),
  (166, .invokevirtual 47, 3, 79, 1, false, [706, 15, 709, 707, 708], []),
  (169, .ireturn, 1, 0, 0, false, [], []),
  (170, .aload_n 0, 1, 0, 0, false, [], []),
  (171, .iconst 1, 1, 0, 0, false, [], [(1, 0)]),
  (172, .iload_n 1, 1, 0, 0, false, [], []),
  (173, .iconst 4, 1, 0, 0, false, [], [(4, 0)]),
  (174, .ishr, 1, 0, 0, false, [], []),
  (175, .iconst 4, 1, 0, 0, false, [], [(4, 0)]),
  (176, .invokestatic 22, 3, 101, 2, false, [679, 14, 681, 680], []),
  (179, .iadd, 1, 0, 0, false, [], []),
  (180, .invokevirtual 50, 3, 80, 1, false, [452, 15, 455, 453, 454], []),
  (183, .ireturn, 1, 0, 0, false, [], []),
  (184, .aload_n 0, 1, 0, 0, false, [], []),
  (185, .iload_n 1, 1, 0, 0, false, [], []),
  (186, .iconst 4, 1, 0, 0, false, [], [(4, 0)]),
  (187, .ishr, 1, 0, 0, false, [], []),
  (188, .iconst 3, 1, 0, 0, false, [], [(3, 0)]),
  (189, .invokestatic 22, 3, 101, 2, false, [679, 14, 681, 680], []),
  (192, .iconst 1, 1, 0, 0, false, [], [(1, 0)]),
  (193, .iload_n 1, 1, 0, 0, false, [], []),
  (194, .bipush 6, 2, 0, 0, false, [], [(6, 0)]),
  (196, .ishr, 1, 0, 0, false, [], []),
  (197, .bipush 19, 2, 0, 0, false, [], [(19, 0)]),
  (199, .invokestatic 22, 3, 101, 2, false, [679, 14, 681, 680], []),
  (202, .iadd, 1, 0, 0, false, [], []),
  (203, .invokevirtual 53, 3, 81, 2, false, [460, 15, 463, 461, 462], []),
  (206, .ireturn, 1, 0, 0, false, [], []),
  (207, .aload_n 0, 1, 0, 0, false, [], []),
  (208, .invokevirtual 56, 3, 82, 0, false, [468, 15, 471, 469, 470], []),
  (211, .ireturn, 1, 0, 0, false, [], []),
  (212, .aload_n 0, 1, 0, 0, false, [], []),
  (213, .iload_n 1, 1, 0, 0, false, [], []),
  (214, .iconst 4, 1, 0, 0, false, [], [(4, 0)]),
  (215, .ishr, 1, 0, 0, false, [], []),
  (216, .bipush 40, 2, 0, 0, false, [], [(40, 0)]),
  (218, .invokestatic 22, 3, 101, 2, false, [679, 14, 681, 680], []),
  (221, .bipush 8, 2, 0, 0, false, [], [(8, 0)]),
  (223, .isub, 1, 0, 0, false, [], []),
  (224, .iload_n 1, 1, 0, 0, false, [], []),
  (225, .bipush 9, 2, 0, 0, false, [], [(9, 0)]),
  (227, .ishr, 1, 0, 0, false, [], []),
  (228, .bipush 30, 2, 0, 0, false, [], [(30, 0)]),
  (230, .invokestatic 22, 3, 101, 2, false, [679, 14, 681, 680], []),
  (233, .bipush 10, 2, 0, 0, false, [], [(10, 0)]),
  (235, .isub, 1, 0, 0, false, [], []),
  (236, .iload_n 1, 1, 0, 0, false, [], []),
  (237, .bipush 14, 2, 0, 0, false, [], [(14, 0)]),
  (239, .ishr, 1, 0, 0, false, [], []),
  (240, .iconst 1, 1, 0, 0, false, [], [(1, 0)]),
  (241, .iand, 1, 0, 0, false, [], []),
  (242, .iload_n 1, 1, 0, 0, false, [], []),
  (243, .bipush 15, 2, 0, 0, false, [], [(15, 0)]),
  (245, .ishr, 1, 0, 0, false, [], []),
  (246, .bipush 8, 2, 0, 0, false, [], [(8, 0)]),
  (248, .invokestatic 22, 3, 101, 2, false, [679, 14, 681, 680], []),
  (251, .iconst 1, 1, 0, 0, false, [], [(1, 0)]),
  (252, .iload_n 1, 1, 0, 0, false, [], []),
  (253, .bipush 18, 2, 0, 0, false, [], [(18, 0)]),
  (255, .ishr, 1, 0, 0, false, [], []),
  (256, .bipush 9, 2, 0, 0, false, [], [(9, 0)]),
  (258, .invokestatic 22, 3, 101, 2, false, [679, 14, 681, 680], []),
  (261, .iadd, 1, 0, 0, false, [], []),
  (262, .invokevirtual 60, 3, 74, 5, false, [379, 15, 382, 380, 381], []),
  (265, .ireturn, 1, 0, 0, false, [], [])])
def mt_105 : XM := (⟨"PuppetTurnsLaw", "addsUp", "(LPuppetTurns;)Z"⟩, method_7_code, 9, (Option.some Jvm.ClassFile.FieldType.boolean), { frames := 7, cells := 0, slots := 0, locals := 159 }, 99, [
(0, .iconst 0, 1, 0, 0, false, [], [(0, 0)]),
  (1, .istore_n 1, 1, 0, 0, false, [], []),
  (2, .iconst 0, 1, 0, 0, false, [], [(0, 0)]),
  (3, .istore_n 2, 1, 0, 0, false, [], []),
  (4, .iconst 0, 1, 0, 0, false, [], [(0, 0)]),
  (5, .istore_n 3, 1, 0, 0, false, [], []),
  (6, .iconst 0, 1, 0, 0, false, [], [(0, 0)]),
  (7, .istore 4, 2, 0, 0, false, [], []),
  (9, .iconst 0, 1, 0, 0, false, [], [(0, 0)]),
  (10, .istore 5, 2, 0, 0, false, [], []),
  (12, .iconst 0, 1, 0, 0, false, [], [(0, 0)]),
  (13, .istore 6, 2, 0, 0, false, [], []),
  (15, .iconst 0, 1, 0, 0, false, [], [(0, 0)]),
  (16, .istore 7, 2, 0, 0, false, [], []),
  (18, .iconst 0, 1, 0, 0, false, [], [(0, 0)]),
  (19, .istore 8, 2, 0, 0, false, [], []),
  (21, .iload 8, 2, 0, 0, false, [], []),
  (23, .aload_n 0, 1, 0, 0, false, [], []),
  (24, .iconst 1, 1, 0, 0, false, [], [(1, 0)]),
  (25, .invokevirtual 12, 3, 85, 1, false, [526, 15, 529, 527, 528], []),
  (28, .if_icmp .ge 163, 3, 191, 0, false, [], []),
  (31, .aload_n 0, 1, 0, 0, false, [], []),
  (32, .iload 8, 2, 0, 0, false, [], []),
  (34, .iconst 0, 1, 0, 0, false, [], [(0, 0)]),
  (35, .invokevirtual 18, 3, 86, 2, false, [570, 15, 573, 571, 572], []),
  (38, .bipush (-101), 2, 0, 0, false, [], [((-101), 0)]),
  (40, .if_icmp .eq 145, 3, 185, 0, false, [], []),
  (43, .iload_n 3, 1, 0, 0, false, [], []),
  (44, .aload_n 0, 1, 0, 0, false, [], []),
  (45, .iload 8, 2, 0, 0, false, [], []),
  (47, .bipush 7, 2, 0, 0, false, [], [(7, 0)]),
  (49, .invokevirtual 18, 3, 86, 2, false, [570, 15, 573, 571, 572], []),
  (52, .iadd, 1, 0, 0, false, [], []),
  (53, .istore_n 3, 1, 0, 0, false, [], []),
  (54, .iload 4, 2, 0, 0, false, [], []),
  (56, .aload_n 0, 1, 0, 0, false, [], []),
  (57, .iload 8, 2, 0, 0, false, [], []),
  (59, .bipush 8, 2, 0, 0, false, [], [(8, 0)]),
  (61, .invokevirtual 18, 3, 86, 2, false, [570, 15, 573, 571, 572], []),
  (64, .iadd, 1, 0, 0, false, [], []),
  (65, .istore 4, 2, 0, 0, false, [], []),
  (67, .iload 5, 2, 0, 0, false, [], []),
  (69, .aload_n 0, 1, 0, 0, false, [], []),
  (70, .iload 8, 2, 0, 0, false, [], []),
  (72, .bipush 8, 2, 0, 0, false, [], [(8, 0)]),
  (74, .invokevirtual 18, 3, 86, 2, false, [570, 15, 573, 571, 572], []),
  (77, .ifCond .le 7, 3, 84, 0, false, [], []),
  (80, .iconst 1, 1, 0, 0, false, [], [(1, 0)]),
  (81, .goto 4, 3, 85, 0, false, [], []),
  (84, .iconst 0, 1, 0, 0, false, [], [(0, 0)]),
  (85, .iadd, 1, 0, 0, false, [], []),
  (86, .istore 5, 2, 0, 0, false, [], []),
  (88, .iload 6, 2, 0, 0, false, [], []),
  (90, .iconst 1, 1, 0, 0, false, [], [(1, 0)]),
  (91, .aload_n 0, 1, 0, 0, false, [], []),
  (92, .iload 8, 2, 0, 0, false, [], []),
  (94, .bipush 6, 2, 0, 0, false, [], [(6, 0)]),
  (96, .invokevirtual 18, 3, 86, 2, false, [570, 15, 573, 571, 572], []),
  (99, .ishl, 1, 0, 0, false, [], []),
  (100, .ior, 1, 0, 0, false, [], []),
  (101, .istore 6, 2, 0, 0, false, [], []),
  (103, .aload_n 0, 1, 0, 0, false, [], []),
  (104, .iload 8, 2, 0, 0, false, [], []),
  (106, .bipush 10, 2, 0, 0, false, [], [(10, 0)]),
  (108, .invokevirtual 18, 3, 86, 2, false, [570, 15, 573, 571, 572], []),
  (111, .aload_n 0, 1, 0, 0, false, [], []),
  (112, .iload 8, 2, 0, 0, false, [], []),
  (114, .bipush 11, 2, 0, 0, false, [], [(11, 0)]),
  (116, .invokevirtual 18, 3, 86, 2, false, [570, 15, 573, 571, 572], []),
  (119, .if_icmp .gt 64, 3, 183, 0, false, [], []),
  (122, .aload_n 0, 1, 0, 0, false, [], []),
  (123, .iload 8, 2, 0, 0, false, [], []),
  (125, .bipush 11, 2, 0, 0, false, [], [(11, 0)]),
  (127, .invokevirtual 18, 3, 86, 2, false, [570, 15, 573, 571, 572], []),
  (130, .aload_n 0, 1, 0, 0, false, [], []),
  (131, .iload 8, 2, 0, 0, false, [], []),
  (133, .bipush 9, 2, 0, 0, false, [], [(9, 0)]),
  (135, .invokevirtual 18, 3, 86, 2, false, [570, 15, 573, 571, 572], []),
  (138, .if_icmp .gt 45, 3, 183, 0, false, [], []),
  (141, .aload_n 0, 1, 0, 0, false, [], []),
  (142, .iload 8, 2, 0, 0, false, [], []),
  (144, .bipush 9, 2, 0, 0, false, [], [(9, 0)]),
  (146, .invokevirtual 18, 3, 86, 2, false, [570, 15, 573, 571, 572], []),
  (149, .aload_n 0, 1, 0, 0, false, [], []),
  (150, .iconst 5, 1, 0, 0, false, [], [(5, 0)]),
  (151, .invokevirtual 12, 3, 85, 1, false, [526, 15, 529, 527, 528], []),
  (154, .if_icmp .gt 29, 3, 183, 0, false, [], []),
  (157, .aload_n 0, 1, 0, 0, false, [], []),
  (158, .iload 8, 2, 0, 0, false, [], []),
  (160, .iconst 1, 1, 0, 0, false, [], [(1, 0)]),
  (161, .invokevirtual 64, 3, 91, 2, false, [621, 15, 624, 622, 623], []),
  (164, .aload_n 0, 1, 0, 0, false, [], []),
  (165, .iload 8, 2, 0, 0, false, [], []),
  (167, .bipush 8, 2, 0, 0, false, [], [(8, 0)]),
  (169, .invokevirtual 18, 3, 86, 2, false, [570, 15, 573, 571, 572], []),
  (172, .ifCond .le 7, 3, 179, 0, false, [], []),
  (175, .iconst 1, 1, 0, 0, false, [], [(1, 0)]),
  (176, .goto 4, 3, 180, 0, false, [], []),
  (179, .iconst 0, 1, 0, 0, false, [], [(0, 0)]),
  (180, .if_icmp .eq 5, 3, 185, 0, false, [], []),
  (183, .iconst 0, 1, 0, 0, false, [], [(0, 0)]),
  (184, .ireturn, 1, 0, 0, false, [], []),
  (185, .iinc 8 1, 3, 0, 0, false, [], [(1, 0)]),
  (188, .goto (-167), 3, 21, 0, false, [], []),
  (191, .iconst 0, 1, 0, 0, false, [], [(0, 0)]),
  (192, .istore 8, 2, 0, 0, false, [], []),
  (194, .iload 8, 2, 0, 0, false, [], []),
  (196, .bipush 48, 2, 0, 0, false, [], [(48, 0)]),
  (198, .if_icmp .ge 83, 3, 281, 0, false, [], []),
  (201, .iload_n 1, 1, 0, 0, false, [], []),
  (202, .aload_n 0, 1, 0, 0, false, [], []),
  (203, .iload 8, 2, 0, 0, false, [], []),
  (205, .iconst 0, 1, 0, 0, false, [], [(0, 0)]),
  (206, .invokevirtual 67, 3, 87, 2, false, [579, 15, 582, 580, 581], []),
  (209, .iadd, 1, 0, 0, false, [], []),
  (210, .istore_n 1, 1, 0, 0, false, [], []),
  (211, .iload_n 2, 1, 0, 0, false, [], []),
  (212, .aload_n 0, 1, 0, 0, false, [], []),
  (213, .iload 8, 2, 0, 0, false, [], []),
  (215, .iconst 1, 1, 0, 0, false, [], [(1, 0)]),
  (216, .invokevirtual 67, 3, 87, 2, false, [579, 15, 582, 580, 581], []),
  (219, .iadd, 1, 0, 0, false, [], []),
  (220, .istore_n 2, 1, 0, 0, false, [], []),
  (221, .iload 7, 2, 0, 0, false, [], []),
  (223, .aload_n 0, 1, 0, 0, false, [], []),
  (224, .iload 8, 2, 0, 0, false, [], []),
  (226, .iconst 2, 1, 0, 0, false, [], [(2, 0)]),
  (227, .invokevirtual 67, 3, 87, 2, false, [579, 15, 582, 580, 581], []),
  (230, .iadd, 1, 0, 0, false, [], []),
  (231, .istore 7, 2, 0, 0, false, [], []),
  (233, .aload_n 0, 1, 0, 0, false, [], []),
  (234, .iload 8, 2, 0, 0, false, [], []),
  (236, .iconst 1, 1, 0, 0, false, [], [(1, 0)]),
  (237, .invokevirtual 67, 3, 87, 2, false, [579, 15, 582, 580, 581], []),
  (240, .aload_n 0, 1, 0, 0, false, [], []),
  (241, .iload 8, 2, 0, 0, false, [], []),
  (243, .iconst 0, 1, 0, 0, false, [], [(0, 0)]),
  (244, .invokevirtual 67, 3, 87, 2, false, [579, 15, 582, 580, 581], []),
  (247, .aload_n 0, 1, 0, 0, false, [], []),
  (248, .iconst 2, 1, 0, 0, false, [], [(2, 0)]),
  (249, .invokevirtual 12, 3, 85, 1, false, [526, 15, 529, 527, 528], []),
  (252, .if_icmp .ge 13, 3, 265, 0, false, [], []),
  (255, .aload_n 0, 1, 0, 0, false, [], []),
  (256, .iload 8, 2, 0, 0, false, [], []),
  (258, .iconst 0, 1, 0, 0, false, [], [(0, 0)]),
  (259, .invokevirtual 67, 3, 87, 2, false, [579, 15, 582, 580, 581], []),
  (262, .goto 8, 3, 270, 0, false, [], []),
  (265, .aload_n 0, 1, 0, 0, false, [], []),
  (266, .iconst 2, 1, 0, 0, false, [], [(2, 0)]),
  (267, .invokevirtual 12, 3, 85, 1, false, [526, 15, 529, 527, 528], []),
  (270, .if_icmp .eq 5, 3, 275, 0, false, [], []),
  (273, .iconst 0, 1, 0, 0, false, [], [(0, 0)]),
  (274, .ireturn, 1, 0, 0, false, [], []),
  (275, .iinc 8 1, 3, 0, 0, false, [], [(1, 0)]),
  (278, .goto (-84), 3, 194, 0, false, [], []),
  (281, .iload_n 1, 1, 0, 0, false, [], []),
  (282, .iload_n 3, 1, 0, 0, false, [], []),
  (283, .if_icmp .ne 78, 3, 361, 0, false, [], []),
  (286, .iload_n 1, 1, 0, 0, false, [], []),
  (287, .iload_n 2, 1, 0, 0, false, [], []),
  (288, .isub, 1, 0, 0, false, [], []),
  (289, .iload 4, 2, 0, 0, false, [], []),
  (291, .if_icmp .ne 70, 3, 361, 0, false, [], []),
  (294, .iload 5, 2, 0, 0, false, [], []),
  (296, .aload_n 0, 1, 0, 0, false, [], []),
  (297, .bipush 6, 2, 0, 0, false, [], [(6, 0)]),
  (299, .invokevirtual 12, 3, 85, 1, false, [526, 15, 529, 527, 528], []),
  (302, .if_icmp .ne 59, 3, 361, 0, false, [], []),
  (305, .iload 6, 2, 0, 0, false, [], []),
  (307, .iconst 1, 1, 0, 0, false, [], [(1, 0)]),
  (308, .aload_n 0, 1, 0, 0, false, [], []),
  (309, .iconst 0, 1, 0, 0, false, [], [(0, 0)]),
  (310, .invokevirtual 12, 3, 85, 1, false, [526, 15, 529, 527, 528], []),
  (313, .ishl, 1, 0, 0, false, [], []),
  (314, .iconst 1, 1, 0, 0, false, [], [(1, 0)]),
  (315, .isub, 1, 0, 0, false, [], []),
  (316, .if_icmp .ne 45, 3, 361, 0, false, [], []),
  (319, .iload 7, 2, 0, 0, false, [], []),
  (321, .aload_n 0, 1, 0, 0, false, [], []),
  (322, .bipush 7, 2, 0, 0, false, [], [(7, 0)]),
  (324, .invokevirtual 12, 3, 85, 1, false, [526, 15, 529, 527, 528], []),
  (327, .if_icmp .ne 34, 3, 361, 0, false, [], []),
  (330, .aload_n 0, 1, 0, 0, false, [], []),
  (331, .invokevirtual 70, 3, 94, 0, false, [714, 15, 717, 715, 716], []),
  (334, .bipush (-109), 2, 0, 0, false, [], [((-109), 0)]),
  (336, .if_icmp .ne 7, 3, 343, 0, false, [], []),
  (339, .iconst 1, 1, 0, 0, false, [], [(1, 0)]),
  (340, .goto 4, 3, 344, 0, false, [], []),
  (343, .iconst 0, 1, 0, 0, false, [], [(0, 0)]),
  (344, .iload 5, 2, 0, 0, false, [], []),
  (346, .ifCond .ne 7, 3, 353, 0, false, [], []),
  (349, .iconst 1, 1, 0, 0, false, [], [(1, 0)]),
  (350, .goto 4, 3, 354, 0, false, [], []),
  (353, .iconst 0, 1, 0, 0, false, [], [(0, 0)]),
  (354, .if_icmp .ne 7, 3, 361, 0, false, [], []),
  (357, .iconst 1, 1, 0, 0, false, [], [(1, 0)]),
  (358, .goto 4, 3, 362, 0, false, [], []),
  (361, .iconst 0, 1, 0, 0, false, [], [(0, 0)]),
  (362, .ireturn, 1, 0, 0, false, [], [])])
def mt_106 : XM := (⟨"PuppetTurnsLaw", "isLine", "(LPuppetTurns;I)Z"⟩, method_8_code, 9, (Option.some Jvm.ClassFile.FieldType.boolean), { frames := 6, cells := 0, slots := 0, locals := 137 }, 99, [
(0, .iconst (-1), 1, 0, 0, false, [], [((-1), 0)]),
  (1, .istore_n 2, 1, 0, 0, false, [], []),
  (2, .aload_n 0, 1, 0, 0, false, [], []),
  (3, .iload_n 1, 1, 0, 0, false, [], []),
  (4, .iconst 1, 1, 0, 0, false, [], [(1, 0)]),
  (5, .invokevirtual 67, 3, 87, 2, false, [579, 15, 582, 580, 581], []),
  (8, .istore_n 3, 1, 0, 0, false, [], []),
  (9, .iconst 0, 1, 0, 0, false, [], [(0, 0)]),
  (10, .istore 4, 2, 0, 0, false, [], []),
  (12, .iconst 0, 1, 0, 0, false, [], [(0, 0)]),
  (13, .istore 5, 2, 0, 0, false, [], []),
  (15, .iload 5, 2, 0, 0, false, [], []),
  (17, .iload_n 3, 1, 0, 0, false, [], []),
  (18, .if_icmp .ge 57, 3, 75, 0, false, [], []),
  (21, .aload_n 0, 1, 0, 0, false, [], []),
  (22, .iload_n 1, 1, 0, 0, false, [], []),
  (23, .iload 5, 2, 0, 0, false, [], []),
  (25, .invokevirtual 73, 3, 88, 2, false, [725, 15, 728, 726, 727], []),
  (28, .istore 6, 2, 0, 0, false, [], []),
  (30, .iload 6, 2, 0, 0, false, [], []),
  (32, .ifCond .lt 26, 3, 58, 0, false, [], []),
  (35, .aload_n 0, 1, 0, 0, false, [], []),
  (36, .iload 6, 2, 0, 0, false, [], []),
  (38, .bipush 6, 2, 0, 0, false, [], [(6, 0)]),
  (40, .invokevirtual 18, 3, 86, 2, false, [570, 15, 573, 571, 572], []),
  (43, .iload_n 2, 1, 0, 0, false, [], []),
  (44, .if_icmp .le 14, 3, 58, 0, false, [], []),
  (47, .aload_n 0, 1, 0, 0, false, [], []),
  (48, .iload 6, 2, 0, 0, false, [], []),
  (50, .iconst 1, 1, 0, 0, false, [], [(1, 0)]),
  (51, .invokevirtual 18, 3, 86, 2, false, [570, 15, 573, 571, 572], []),
  (54, .iload_n 1, 1, 0, 0, false, [], []),
  (55, .if_icmp .le 5, 3, 60, 0, false, [], []),
  (58, .iconst 0, 1, 0, 0, false, [], [(0, 0)]),
  (59, .ireturn, 1, 0, 0, false, [], []),
  (60, .aload_n 0, 1, 0, 0, false, [], []),
  (61, .iload 6, 2, 0, 0, false, [], []),
  (63, .bipush 6, 2, 0, 0, false, [], [(6, 0)]),
  (65, .invokevirtual 18, 3, 86, 2, false, [570, 15, 573, 571, 572], []),
  (68, .istore_n 2, 1, 0, 0, false, [], []),
  (69, .iinc 5 1, 3, 0, 0, false, [], [(1, 0)]),
  (72, .goto (-57), 3, 15, 0, false, [], []),
  (75, .iconst 0, 1, 0, 0, false, [], [(0, 0)]),
  (76, .istore 5, 2, 0, 0, false, [], []),
  (78, .iload 5, 2, 0, 0, false, [], []),
  (80, .bipush 64, 2, 0, 0, false, [], [(64, 0)]),
  (82, .if_icmp .ge 96, 3, 178, 0, false, [], []),
  (85, .aload_n 0, 1, 0, 0, false, [], []),
  (86, .iload 5, 2, 0, 0, false, [], []),
  (88, .iload_n 1, 1, 0, 0, false, [], []),
  (89, .invokevirtual 76, 3, 89, 2, false, [585, 15, 588, 586, 587], []),
  (92, .istore 6, 2, 0, 0, false, [], []),
  (94, .iload 6, 2, 0, 0, false, [], []),
  (96, .ifCond .ne 7, 3, 103, 0, false, [], []),
  (99, .iconst 1, 1, 0, 0, false, [], [(1, 0)]),
  (100, .goto 4, 3, 104, 0, false, [], []),
  (103, .iconst 0, 1, 0, 0, false, [], [(0, 0)]),
  (104, .istore 7, 2, 0, 0, false, [], []),
  (106, .iconst 0, 1, 0, 0, false, [], [(0, 0)]),
  (107, .istore 8, 2, 0, 0, false, [], []),
  (109, .iload 8, 2, 0, 0, false, [], []),
  (111, .iload_n 3, 1, 0, 0, false, [], []),
  (112, .if_icmp .ge 38, 3, 150, 0, false, [], []),
  (115, .iload 7, 2, 0, 0, false, [], []),
  (117, .ifCond .ne 20, 3, 137, 0, false, [], []),
  (120, .aload_n 0, 1, 0, 0, false, [], []),
  (121, .aload_n 0, 1, 0, 0, false, [], []),
  (122, .iload_n 1, 1, 0, 0, false, [], []),
  (123, .iload 8, 2, 0, 0, false, [], []),
  (125, .invokevirtual 73, 3, 88, 2, false, [725, 15, 728, 726, 727], []),
  (128, .iconst 4, 1, 0, 0, false, [], [(4, 0)]),
  (129, .invokevirtual 18, 3, 86, 2, false, [570, 15, 573, 571, 572], []),
  (132, .iload 6, 2, 0, 0, false, [], []),
  (134, .if_icmp .ne 7, 3, 141, 0, false, [], []),
  (137, .iconst 1, 1, 0, 0, false, [], [(1, 0)]),
  (138, .goto 4, 3, 142, 0, false, [], []),
  (141, .iconst 0, 1, 0, 0, false, [], [(0, 0)]),
  (142, .istore 7, 2, 0, 0, false, [], []),
  (144, .iinc 8 1, 3, 0, 0, false, [], [(1, 0)]),
  (147, .goto (-38), 3, 109, 0, false, [], []),
  (150, .iload 4, 2, 0, 0, false, [], []),
  (152, .iload 6, 2, 0, 0, false, [], []),
  (154, .ifCond .le 7, 3, 161, 0, false, [], []),
  (157, .iconst 1, 1, 0, 0, false, [], [(1, 0)]),
  (158, .goto 4, 3, 162, 0, false, [], []),
  (161, .iconst 0, 1, 0, 0, false, [], [(0, 0)]),
  (162, .iadd, 1, 0, 0, false, [], []),
  (163, .istore 4, 2, 0, 0, false, [], []),
  (165, .iload 7, 2, 0, 0, false, [], []),
  (167, .ifCond .ne 5, 3, 172, 0, false, [], []),
  (170, .iconst 0, 1, 0, 0, false, [], [(0, 0)]),
  (171, .ireturn, 1, 0, 0, false, [], []),
  (172, .iinc 5 1, 3, 0, 0, false, [], [(1, 0)]),
  (175, .goto (-97), 3, 78, 0, false, [], []),
  (178, .aload_n 0, 1, 0, 0, false, [], []),
  (179, .iload_n 1, 1, 0, 0, false, [], []),
  (180, .iload_n 3, 1, 0, 0, false, [], []),
  (181, .invokevirtual 73, 3, 88, 2, false, [725, 15, 728, 726, 727], []),
  (184, .bipush (-109), 2, 0, 0, false, [], [((-109), 0)]),
  (186, .if_icmp .ne 18, 3, 204, 0, false, [], []),
  (189, .iload 4, 2, 0, 0, false, [], []),
  (191, .aload_n 0, 1, 0, 0, false, [], []),
  (192, .iload_n 1, 1, 0, 0, false, [], []),
  (193, .iconst 2, 1, 0, 0, false, [], [(2, 0)]),
  (194, .invokevirtual 67, 3, 87, 2, false, [579, 15, 582, 580, 581], []),
  (197, .if_icmp .ne 7, 3, 204, 0, false, [], []),
  (200, .iconst 1, 1, 0, 0, false, [], [(1, 0)]),
  (201, .goto 4, 3, 205, 0, false, [], []),
  (204, .iconst 0, 1, 0, 0, false, [], [(0, 0)]),
  (205, .ireturn, 1, 0, 0, false, [], [])])
def mt_107 : XM := (⟨"PuppetTurnsLaw", "law", "([I)Z"⟩, code, 14, (Option.some Jvm.ClassFile.FieldType.boolean), { frames := 9, cells := 0, slots := 0, locals := 205 }, 99, [
(0, .new 13, 3, 11, 0, false, [30, 31, 15], []),
  (3, .dup, 1, 0, 0, false, [], []),
  (4, .invokespecial 79, 3, 72, 0, false, [32, 15, 34, 33], []),
  (7, .astore_n 1, 1, 0, 0, false, [], []),
  (8, .aload_n 1, 1, 0, 0, false, [], []),
  (9, .bipush 8, 2, 0, 0, false, [], [(8, 0)]),
  (11, .invokevirtual 12, 3, 85, 1, false, [526, 15, 529, 527, 528], []),
  (14, .bipush (-109), 2, 0, 0, false, [], [((-109), 0)]),
  (16, .if_icmp .ne 47, 3, 63, 0, false, [], []),
  (19, .aload_n 1, 1, 0, 0, false, [], []),
  (20, .iconst 0, 1, 0, 0, false, [], [(0, 0)]),
  (21, .invokevirtual 80, 3, 90, 1, false, [597, 15, 600, 598, 599], []),
  (24, .ifCond .ne 39, 3, 63, 0, false, [], []),
  (27, .aload_n 1, 1, 0, 0, false, [], []),
  (28, .iconst 1, 1, 0, 0, false, [], [(1, 0)]),
  (29, .invokevirtual 80, 3, 90, 1, false, [597, 15, 600, 598, 599], []),
  (32, .bipush (-109), 2, 0, 0, false, [], [((-109), 0)]),
  (34, .if_icmp .ne 29, 3, 63, 0, false, [], []),
  (37, .aload_n 1, 1, 0, 0, false, [], []),
  (38, .invokevirtual 83, 3, 92, 0, false, [637, 15, 640, 638, 639], []),
  (41, .ifCond .ne 22, 3, 63, 0, false, [], []),
  (44, .aload_n 1, 1, 0, 0, false, [], []),
  (45, .iconst 0, 1, 0, 0, false, [], [(0, 0)]),
  (46, .invokevirtual 86, 3, 93, 1, false, [650, 15, 653, 651, 652], []),
  (49, .iconst 1, 1, 0, 0, false, [], [(1, 0)]),
  (50, .if_icmp .ne 13, 3, 63, 0, false, [], []),
  (53, .aload_n 1, 1, 0, 0, false, [], []),
  (54, .iconst 0, 1, 0, 0, false, [], [(0, 0)]),
  (55, .invokevirtual 89, 3, 84, 1, false, [517, 15, 520, 518, 519], []),
  (58, .bipush (-109), 2, 0, 0, false, [], [((-109), 0)]),
  (60, .if_icmp .eq 5, 3, 65, 0, false, [], []),
  (63, .iconst 0, 1, 0, 0, false, [], [(0, 0)]),
  (64, .ireturn, 1, 0, 0, false, [], []),
  (65, .iconst 0, 1, 0, 0, false, [], [(0, 0)]),
  (66, .istore_n 2, 1, 0, 0, false, [], []),
  (67, .iload_n 2, 1, 0, 0, false, [], []),
  (68, .bipush 18, 2, 0, 0, false, [], [(18, 0)]),
  (70, .if_icmp .ge 133, 3, 203, 0, false, [], []),
  (73, .iload_n 2, 1, 0, 0, false, [], []),
  (74, .iconst 3, 1, 0, 0, false, [], [(3, 0)]),
  (75, .if_icmp .ge 14, 3, 89, 0, false, [], []),
  (78, .aload_n 0, 1, 0, 0, false, [], []),
  (79, .iload_n 2, 1, 0, 0, false, [], []),
  (80, .invokestatic 92, 3, 100, 2, false, [676, 14, 678, 677], []),
  (83, .bipush 15, 2, 0, 0, false, [], [(15, 0)]),
  (85, .ior, 1, 0, 0, false, [], []),
  (86, .goto 8, 3, 94, 0, false, [], []),
  (89, .aload_n 0, 1, 0, 0, false, [], []),
  (90, .iload_n 2, 1, 0, 0, false, [], []),
  (91, .invokestatic 92, 3, 100, 2, false, [676, 14, 678, 677], []),
  (94, .istore_n 3, 1, 0, 0, false, [], []),
  (95, .aload_n 1, 1, 0, 0, false, [], []),
  (96, .invokestatic 96, 3, 102, 1, false, [683, 14, 685, 684], []),
  (99, .lstore 4, 2, 0, 0, false, [], []),
  (101, .aload_n 1, 1, 0, 0, false, [], []),
  (102, .bipush 6, 2, 0, 0, false, [], [(6, 0)]),
  (104, .invokevirtual 12, 3, 85, 1, false, [526, 15, 529, 527, 528], []),
  (107, .istore 6, 2, 0, 0, false, [], []),
  (109, .aload_n 1, 1, 0, 0, false, [], []),
  (110, .iload_n 3, 1, 0, 0, false, [], []),
  (111, .invokestatic 100, 3, 104, 2, false, [691, 14, 693, 692], []),
  (114, .istore 7, 2, 0, 0, false, [], []),
  (116, .iload 7, 2, 0, 0, false, [], []),
  (118, .ifCond .ge 13, 3, 131, 0, false, [], []),
  (121, .aload_n 1, 1, 0, 0, false, [], []),
  (122, .invokestatic 96, 3, 102, 1, false, [683, 14, 685, 684], []),
  (125, .lload 4, 2, 0, 0, false, [], []),
  (127, .lcmp, 1, 0, 0, false, [], []),
  (128, .ifCond .ne 28, 3, 156, 0, false, [], []),
  (131, .iload_n 3, 1, 0, 0, false, [], []),
  (132, .bipush 15, 2, 0, 0, false, [], [(15, 0)]),
  (134, .iand, 1, 0, 0, false, [], []),
  (135, .bipush 7, 2, 0, 0, false, [], [(7, 0)]),
  (137, .if_icmp .le 21, 3, 158, 0, false, [], []),
  (140, .iload_n 3, 1, 0, 0, false, [], []),
  (141, .bipush 15, 2, 0, 0, false, [], [(15, 0)]),
  (143, .iand, 1, 0, 0, false, [], []),
  (144, .bipush 12, 2, 0, 0, false, [], [(12, 0)]),
  (146, .if_icmp .ge 12, 3, 158, 0, false, [], []),
  (149, .iload 7, 2, 0, 0, false, [], []),
  (151, .iload 6, 2, 0, 0, false, [], []),
  (153, .if_icmp .eq 5, 3, 158, 0, false, [], []),
  (156, .iconst 0, 1, 0, 0, false, [], [(0, 0)]),
  (157, .ireturn, 1, 0, 0, false, [], []),
  (158, .iload 7, 2, 0, 0, false, [], []),
  (160, .ifCond .lt 37, 3, 197, 0, false, [], []),
  (163, .iload_n 2, 1, 0, 0, false, [], []),
  (164, .iconst 3, 1, 0, 0, false, [], [(3, 0)]),
  (165, .iand, 1, 0, 0, false, [], []),
  (166, .iconst 1, 1, 0, 0, false, [], [(1, 0)]),
  (167, .if_icmp .ne 30, 3, 197, 0, false, [], []),
  (170, .aload_n 1, 1, 0, 0, false, [], []),
  (171, .invokevirtual 103, 3, 83, 0, false, [509, 15, 512, 510, 511], []),
  (174, .pop, 1, 0, 0, false, [], []),
  (175, .aload_n 1, 1, 0, 0, false, [], []),
  (176, .invokestatic 96, 3, 102, 1, false, [683, 14, 685, 684], []),
  (179, .lload 4, 2, 0, 0, false, [], []),
  (181, .lcmp, 1, 0, 0, false, [], []),
  (182, .ifCond .ne 13, 3, 195, 0, false, [], []),
  (185, .aload_n 1, 1, 0, 0, false, [], []),
  (186, .iload_n 3, 1, 0, 0, false, [], []),
  (187, .invokestatic 100, 3, 104, 2, false, [691, 14, 693, 692], []),
  (190, .iload 7, 2, 0, 0, false, [], []),
  (192, .if_icmp .eq 5, 3, 197, 0, false, [], []),
  (195, .iconst 0, 1, 0, 0, false, [], [(0, 0)]),
  (196, .ireturn, 1, 0, 0, false, [], []),
  (197, .iinc 2 1, 3, 0, 0, false, [], [(1, 0)]),
  (200, .goto (-133), 3, 67, 0, false, [], []),
  (203, .aload_n 0, 1, 0, 0, false, [], []),
  (204, .bipush 18, 2, 0, 0, false, [], [(18, 0)]),
  (206, .invokestatic 92, 3, 100, 2, false, [676, 14, 678, 677], []),
  (209, .istore_n 2, 1, 0, 0, false, [], []),
  (210, .aload_n 1, 1, 0, 0, false, [], []),
  (211, .invokestatic 106, 3, 105, 1, false, [711, 14, 713, 712], []),
  (214, .ifCond .eq 32, 3, 246, 0, false, [], []),
  (217, .aload_n 1, 1, 0, 0, false, [], []),
  (218, .iload_n 2, 1, 0, 0, false, [], []),
  (219, .bipush 48, 2, 0, 0, false, [], [(48, 0)]),
  (221, .invokestatic 22, 3, 101, 2, false, [679, 14, 681, 680], []),
  (224, .invokestatic 110, 3, 106, 2, false, [722, 14, 724, 723], []),
  (227, .ifCond .eq 19, 3, 246, 0, false, [], []),
  (230, .aload_n 1, 1, 0, 0, false, [], []),
  (231, .iload_n 2, 1, 0, 0, false, [], []),
  (232, .bipush 6, 2, 0, 0, false, [], [(6, 0)]),
  (234, .ishr, 1, 0, 0, false, [], []),
  (235, .bipush 12, 2, 0, 0, false, [], [(12, 0)]),
  (237, .invokestatic 22, 3, 101, 2, false, [679, 14, 681, 680], []),
  (240, .invokestatic 110, 3, 106, 2, false, [722, 14, 724, 723], []),
  (243, .ifCond .ne 5, 3, 248, 0, false, [], []),
  (246, .iconst 0, 1, 0, 0, false, [], [(0, 0)]),
  (247, .ireturn, 1, 0, 0, false, [], []),
  (248, .aload_n 1, 1, 0, 0, false, [], []),
  (249, .iconst 0, 1, 0, 0, false, [], [(0, 0)]),
  (250, .invokevirtual 80, 3, 90, 1, false, [597, 15, 600, 598, 599], []),
  (253, .ifCond .le 50, 3, 303, 0, false, [], []),
  (256, .aload_n 1, 1, 0, 0, false, [], []),
  (257, .iconst 1, 1, 0, 0, false, [], [(1, 0)]),
  (258, .invokevirtual 80, 3, 90, 1, false, [597, 15, 600, 598, 599], []),
  (261, .istore_n 3, 1, 0, 0, false, [], []),
  (262, .aload_n 1, 1, 0, 0, false, [], []),
  (263, .iconst 2, 1, 0, 0, false, [], [(2, 0)]),
  (264, .invokevirtual 80, 3, 90, 1, false, [597, 15, 600, 598, 599], []),
  (267, .istore 4, 2, 0, 0, false, [], []),
  (269, .aload_n 1, 1, 0, 0, false, [], []),
  (270, .iload_n 3, 1, 0, 0, false, [], []),
  (271, .iload 4, 2, 0, 0, false, [], []),
  (273, .invokevirtual 76, 3, 89, 2, false, [585, 15, 588, 586, 587], []),
  (276, .ifCond .eq 25, 3, 301, 0, false, [], []),
  (279, .aload_n 1, 1, 0, 0, false, [], []),
  (280, .iconst 3, 1, 0, 0, false, [], [(3, 0)]),
  (281, .invokevirtual 80, 3, 90, 1, false, [597, 15, 600, 598, 599], []),
  (284, .aload_n 1, 1, 0, 0, false, [], []),
  (285, .bipush 8, 2, 0, 0, false, [], [(8, 0)]),
  (287, .invokevirtual 12, 3, 85, 1, false, [526, 15, 529, 527, 528], []),
  (290, .if_icmp .eq 11, 3, 301, 0, false, [], []),
  (293, .aload_n 1, 1, 0, 0, false, [], []),
  (294, .iconst 3, 1, 0, 0, false, [], [(3, 0)]),
  (295, .invokevirtual 80, 3, 90, 1, false, [597, 15, 600, 598, 599], []),
  (298, .ifCond .ge 5, 3, 303, 0, false, [], []),
  (301, .iconst 0, 1, 0, 0, false, [], [(0, 0)]),
  (302, .ireturn, 1, 0, 0, false, [], []),
  (303, .aload_n 1, 1, 0, 0, false, [], []),
  (304, .iconst 1, 1, 0, 0, false, [], [(1, 0)]),
  (305, .invokevirtual 86, 3, 93, 1, false, [650, 15, 653, 651, 652], []),
  (308, .istore_n 3, 1, 0, 0, false, [], []),
  (309, .aload_n 1, 1, 0, 0, false, [], []),
  (310, .invokevirtual 83, 3, 92, 0, false, [637, 15, 640, 638, 639], []),
  (313, .istore 4, 2, 0, 0, false, [], []),
  (315, .iload_n 3, 1, 0, 0, false, [], []),
  (316, .ifCond .lt 56, 3, 372, 0, false, [], []),
  (319, .iload_n 3, 1, 0, 0, false, [], []),
  (320, .bipush 20, 2, 0, 0, false, [], [(20, 0)]),
  (322, .if_icmp .gt 50, 3, 372, 0, false, [], []),
  (325, .aload_n 1, 1, 0, 0, false, [], []),
  (326, .iconst 0, 1, 0, 0, false, [], [(0, 0)]),
  (327, .invokevirtual 86, 3, 93, 1, false, [650, 15, 653, 651, 652], []),
  (330, .iconst 1, 1, 0, 0, false, [], [(1, 0)]),
  (331, .if_icmp .lt 41, 3, 372, 0, false, [], []),
  (334, .aload_n 1, 1, 0, 0, false, [], []),
  (335, .iconst 0, 1, 0, 0, false, [], [(0, 0)]),
  (336, .invokevirtual 86, 3, 93, 1, false, [650, 15, 653, 651, 652], []),
  (339, .bipush 19, 2, 0, 0, false, [], [(19, 0)]),
  (341, .if_icmp .gt 31, 3, 372, 0, false, [], []),
  (344, .aload_n 1, 1, 0, 0, false, [], []),
  (345, .bipush 6, 2, 0, 0, false, [], [(6, 0)]),
  (347, .invokevirtual 12, 3, 85, 1, false, [526, 15, 529, 527, 528], []),
  (350, .ifCond .ne 9, 3, 359, 0, false, [], []),
  (353, .iload 4, 2, 0, 0, false, [], []),
  (355, .iconst 1, 1, 0, 0, false, [], [(1, 0)]),
  (356, .if_icmp .gt 16, 3, 372, 0, false, [], []),
  (359, .aload_n 1, 1, 0, 0, false, [], []),
  (360, .iconst 0, 1, 0, 0, false, [], [(0, 0)]),
  (361, .invokevirtual 12, 3, 85, 1, false, [526, 15, 529, 527, 528], []),
  (364, .ifCond .le 10, 3, 374, 0, false, [], []),
  (367, .iload 4, 2, 0, 0, false, [], []),
  (369, .ifCond .ne 5, 3, 374, 0, false, [], []),
  (372, .iconst 0, 1, 0, 0, false, [], [(0, 0)]),
  (373, .ireturn, 1, 0, 0, false, [], []),
  (374, .aload_n 1, 1, 0, 0, false, [], []),
  (375, .iload_n 2, 1, 0, 0, false, [], []),
  (376, .bipush 9, 2, 0, 0, false, [], [(9, 0)]),
  (378, .ishr, 1, 0, 0, false, [], []),
  (379, .invokestatic 27, 3, 103, 2, false, [688, 14, 690, 689], []),
  (382, .istore 5, 2, 0, 0, false, [], []),
  (384, .iconst 1, 1, 0, 0, false, [], [(1, 0)]),
  (385, .iload_n 2, 1, 0, 0, false, [], []),
  (386, .bipush 12, 2, 0, 0, false, [], [(12, 0)]),
  (388, .ishr, 1, 0, 0, false, [], []),
  (389, .bipush 8, 2, 0, 0, false, [], [(8, 0)]),
  (391, .invokestatic 22, 3, 101, 2, false, [679, 14, 681, 680], []),
  (394, .iadd, 1, 0, 0, false, [], []),
  (395, .istore 6, 2, 0, 0, false, [], []),
  (397, .aload_n 1, 1, 0, 0, false, [], []),
  (398, .iload 5, 2, 0, 0, false, [], []),
  (400, .iload 6, 2, 0, 0, false, [], []),
  (402, .invokevirtual 64, 3, 91, 2, false, [621, 15, 624, 622, 623], []),
  (405, .istore 7, 2, 0, 0, false, [], []),
  (407, .aload_n 1, 1, 0, 0, false, [], []),
  (408, .iload 5, 2, 0, 0, false, [], []),
  (410, .bipush 9, 2, 0, 0, false, [], [(9, 0)]),
  (412, .invokevirtual 18, 3, 86, 2, false, [570, 15, 573, 571, 572], []),
  (415, .istore 8, 2, 0, 0, false, [], []),
  (417, .iconst 0, 1, 0, 0, false, [], [(0, 0)]),
  (418, .istore 9, 2, 0, 0, false, [], []),
  (420, .iload 9, 2, 0, 0, false, [], []),
  (422, .iload 6, 2, 0, 0, false, [], []),
  (424, .if_icmp .ge 19, 3, 443, 0, false, [], []),
  (427, .iload 7, 2, 0, 0, false, [], []),
  (429, .ifCond .lt 14, 3, 443, 0, false, [], []),
  (432, .aload_n 1, 1, 0, 0, false, [], []),
  (433, .invokevirtual 56, 3, 82, 0, false, [468, 15, 471, 469, 470], []),
  (436, .pop, 1, 0, 0, false, [], []),
  (437, .iinc 9 1, 3, 0, 0, false, [], [(1, 0)]),
  (440, .goto (-20), 3, 420, 0, false, [], []),
  (443, .iload 7, 2, 0, 0, false, [], []),
  (445, .ifCond .lt 21, 3, 466, 0, false, [], []),
  (448, .aload_n 1, 1, 0, 0, false, [], []),
  (449, .iload 5, 2, 0, 0, false, [], []),
  (451, .bipush 9, 2, 0, 0, false, [], [(9, 0)]),
  (453, .invokevirtual 18, 3, 86, 2, false, [570, 15, 573, 571, 572], []),
  (456, .iload 8, 2, 0, 0, false, [], []),
  (458, .iload 7, 2, 0, 0, false, [], []),
  (460, .iadd, 1, 0, 0, false, [], []),
  (461, .if_icmp .eq 5, 3, 466, 0, false, [], []),
  (464, .iconst 0, 1, 0, 0, false, [], [(0, 0)]),
  (465, .ireturn, 1, 0, 0, false, [], []),
  (466, .aload_n 1, 1, 0, 0, false, [], []),
  (467, .iconst 0, 1, 0, 0, false, [], [(0, 0)]),
  (468, .invokevirtual 12, 3, 85, 1, false, [526, 15, 529, 527, 528], []),
  (471, .ifCond .le 210, 3, 681, 0, false, [], []),
  (474, .iload 7, 2, 0, 0, false, [], []),
  (476, .ifCond .lt 205, 3, 681, 0, false, [], []),
  (479, .aload_n 1, 1, 0, 0, false, [], []),
  (480, .iconst 1, 1, 0, 0, false, [], [(1, 0)]),
  (481, .invokevirtual 50, 3, 80, 1, false, [452, 15, 455, 453, 454], []),
  (484, .pop, 1, 0, 0, false, [], []),
  (485, .aload_n 1, 1, 0, 0, false, [], []),
  (486, .iload 5, 2, 0, 0, false, [], []),
  (488, .invokevirtual 44, 3, 78, 1, false, [436, 15, 439, 437, 438], []),
  (491, .pop, 1, 0, 0, false, [], []),
  (492, .aload_n 1, 1, 0, 0, false, [], []),
  (493, .iload 5, 2, 0, 0, false, [], []),
  (495, .bipush 20, 2, 0, 0, false, [], [(20, 0)]),
  (497, .bipush 20, 2, 0, 0, false, [], [(20, 0)]),
  (499, .invokevirtual 38, 3, 76, 3, false, [394, 15, 397, 395, 396], []),
  (502, .pop, 1, 0, 0, false, [], []),
  (503, .aload_n 1, 1, 0, 0, false, [], []),
  (504, .iload 5, 2, 0, 0, false, [], []),
  (506, .iconst 2, 1, 0, 0, false, [], [(2, 0)]),
  (507, .invokevirtual 18, 3, 86, 2, false, [570, 15, 573, 571, 572], []),
  (510, .iconst 1, 1, 0, 0, false, [], [(1, 0)]),
  (511, .if_icmp .ne 8, 3, 519, 0, false, [], []),
  (514, .bipush 16, 2, 0, 0, false, [], [(16, 0)]),
  (516, .goto 5, 3, 521, 0, false, [], []),
  (519, .bipush 8, 2, 0, 0, false, [], [(8, 0)]),
  (521, .istore 9, 2, 0, 0, false, [], []),
  (523, .aload_n 1, 1, 0, 0, false, [], []),
  (524, .iload 5, 2, 0, 0, false, [], []),
  (526, .iconst 0, 1, 0, 0, false, [], [(0, 0)]),
  (527, .invokevirtual 41, 3, 77, 2, false, [428, 15, 431, 429, 430], []),
  (530, .pop, 1, 0, 0, false, [], []),
  (531, .bipush 16, 2, 0, 0, false, [], [(16, 0)]),
  (533, .newarray .int, 2, 0, 0, false, [60], []),
  (535, .astore 10, 2, 0, 0, false, [], []),
  (537, .aload_n 1, 1, 0, 0, false, [], []),
  (538, .iload 5, 2, 0, 0, false, [], []),
  (540, .iconst 4, 1, 0, 0, false, [], [(4, 0)]),
  (541, .invokevirtual 18, 3, 86, 2, false, [570, 15, 573, 571, 572], []),
  (544, .istore 11, 2, 0, 0, false, [], []),
  (546, .iconst 0, 1, 0, 0, false, [], [(0, 0)]),
  (547, .istore 12, 2, 0, 0, false, [], []),
  (549, .iload 12, 2, 0, 0, false, [], []),
  (551, .iload 9, 2, 0, 0, false, [], []),
  (553, .if_icmp .ge 60, 3, 613, 0, false, [], []),
  (556, .iconst 0, 1, 0, 0, false, [], [(0, 0)]),
  (557, .istore 13, 2, 0, 0, false, [], []),
  (559, .iload 13, 2, 0, 0, false, [], []),
  (561, .bipush 8, 2, 0, 0, false, [], [(8, 0)]),
  (563, .if_icmp .ge 44, 3, 607, 0, false, [], []),
  (566, .aload 10, 2, 0, 0, false, [], []),
  (568, .iload 12, 2, 0, 0, false, [], []),
  (570, .dup2, 1, 0, 0, false, [], []),
  (571, .iaload, 1, 0, 0, false, [], []),
  (572, .aload_n 1, 1, 0, 0, false, [], []),
  (573, .bipush 20, 2, 0, 0, false, [], [(20, 0)]),
  (575, .iload 13, 2, 0, 0, false, [], []),
  (577, .iadd, 1, 0, 0, false, [], []),
  (578, .bipush 20, 2, 0, 0, false, [], [(20, 0)]),
  (580, .iload 12, 2, 0, 0, false, [], []),
  (582, .iadd, 1, 0, 0, false, [], []),
  (583, .invokevirtual 76, 3, 89, 2, false, [585, 15, 588, 586, 587], []),
  (586, .iload 11, 2, 0, 0, false, [], []),
  (588, .if_icmp .ne 10, 3, 598, 0, false, [], []),
  (591, .iconst 1, 1, 0, 0, false, [], [(1, 0)]),
  (592, .iload 13, 2, 0, 0, false, [], []),
  (594, .ishl, 1, 0, 0, false, [], []),
  (595, .goto 4, 3, 599, 0, false, [], []),
  (598, .iconst 0, 1, 0, 0, false, [], [(0, 0)]),
  (599, .ior, 1, 0, 0, false, [], []),
  (600, .iastore, 1, 0, 0, false, [], []),
  (601, .iinc 13 1, 3, 0, 0, false, [], [(1, 0)]),
  (604, .goto (-45), 3, 559, 0, false, [], []),
  (607, .iinc 12 1, 3, 0, 0, false, [], [(1, 0)]),
  (610, .goto (-61), 3, 549, 0, false, [], []),
  (613, .aload_n 1, 1, 0, 0, false, [], []),
  (614, .iload 5, 2, 0, 0, false, [], []),
  (616, .iconst 3, 1, 0, 0, false, [], [(3, 0)]),
  (617, .invokevirtual 41, 3, 77, 2, false, [428, 15, 431, 429, 430], []),
  (620, .pop, 1, 0, 0, false, [], []),
  (621, .iconst 0, 1, 0, 0, false, [], [(0, 0)]),
  (622, .istore 12, 2, 0, 0, false, [], []),
  (624, .iload 12, 2, 0, 0, false, [], []),
  (626, .iload 9, 2, 0, 0, false, [], []),
  (628, .if_icmp .ge 53, 3, 681, 0, false, [], []),
  (631, .aload 10, 2, 0, 0, false, [], []),
  (633, .iload 12, 2, 0, 0, false, [], []),
  (635, .iaload, 1, 0, 0, false, [], []),
  (636, .iload_n 2, 1, 0, 0, false, [], []),
  (637, .bipush 8, 2, 0, 0, false, [], [(8, 0)]),
  (639, .invokestatic 22, 3, 101, 2, false, [679, 14, 681, 680], []),
  (642, .ishr, 1, 0, 0, false, [], []),
  (643, .iconst 1, 1, 0, 0, false, [], [(1, 0)]),
  (644, .iand, 1, 0, 0, false, [], []),
  (645, .iconst 1, 1, 0, 0, false, [], [(1, 0)]),
  (646, .if_icmp .ne 29, 3, 675, 0, false, [], []),
  (649, .aload_n 1, 1, 0, 0, false, [], []),
  (650, .bipush 27, 2, 0, 0, false, [], [(27, 0)]),
  (652, .iload_n 2, 1, 0, 0, false, [], []),
  (653, .bipush 8, 2, 0, 0, false, [], [(8, 0)]),
  (655, .invokestatic 22, 3, 101, 2, false, [679, 14, 681, 680], []),
  (658, .isub, 1, 0, 0, false, [], []),
  (659, .bipush 19, 2, 0, 0, false, [], [(19, 0)]),
  (661, .iload 9, 2, 0, 0, false, [], []),
  (663, .iadd, 1, 0, 0, false, [], []),
  (664, .iload 12, 2, 0, 0, false, [], []),
  (666, .isub, 1, 0, 0, false, [], []),
  (667, .invokevirtual 76, 3, 89, 2, false, [585, 15, 588, 586, 587], []),
  (670, .ifCond .ne 5, 3, 675, 0, false, [], []),
  (673, .iconst 0, 1, 0, 0, false, [], [(0, 0)]),
  (674, .ireturn, 1, 0, 0, false, [], []),
  (675, .iinc 12 1, 3, 0, 0, false, [], [(1, 0)]),
  (678, .goto (-54), 3, 624, 0, false, [], []),
  (681, .aload_n 1, 1, 0, 0, false, [], []),
  (682, .invokestatic 96, 3, 102, 1, false, [683, 14, 685, 684], []),
  (685, .lstore 9, 2, 0, 0, false, [], []),
  (687, .aload_n 1, 1, 0, 0, false, [], []),
  (688, .bipush 8, 2, 0, 0, false, [], [(8, 0)]),
  (690, .iconst 0, 1, 0, 0, false, [], [(0, 0)]),
  (691, .iconst 0, 1, 0, 0, false, [], [(0, 0)]),
  (692, .invokevirtual 31, 3, 73, 3, false, [332, 15, 335, 333, 334], []),
  (695, .bipush (-101), 2, 0, 0, false, [], [((-101), 0)]),
  (697, .if_icmp .ne 98, 3, 795, 0, false, [], []),
  (700, .aload_n 1, 1, 0, 0, false, [], []),
  (701, .bipush 64, 2, 0, 0, false, [], [(64, 0)]),
  (703, .iconst 0, 1, 0, 0, false, [], [(0, 0)]),
  (704, .iconst 0, 1, 0, 0, false, [], [(0, 0)]),
  (705, .iconst 0, 1, 0, 0, false, [], [(0, 0)]),
  (706, .iconst 1, 1, 0, 0, false, [], [(1, 0)]),
  (707, .invokevirtual 60, 3, 74, 5, false, [379, 15, 382, 380, 381], []),
  (710, .bipush (-101), 2, 0, 0, false, [], [((-101), 0)]),
  (712, .if_icmp .ne 83, 3, 795, 0, false, [], []),
  (715, .aload_n 1, 1, 0, 0, false, [], []),
  (716, .bipush 9, 2, 0, 0, false, [], [(9, 0)]),
  (718, .invokevirtual 50, 3, 80, 1, false, [452, 15, 455, 453, 454], []),
  (721, .bipush (-101), 2, 0, 0, false, [], [((-101), 0)]),
  (723, .if_icmp .ne 72, 3, 795, 0, false, [], []),
  (726, .aload_n 1, 1, 0, 0, false, [], []),
  (727, .iconst 3, 1, 0, 0, false, [], [(3, 0)]),
  (728, .iconst 1, 1, 0, 0, false, [], [(1, 0)]),
  (729, .invokevirtual 53, 3, 81, 2, false, [460, 15, 463, 461, 462], []),
  (732, .bipush (-101), 2, 0, 0, false, [], [((-101), 0)]),
  (734, .if_icmp .ne 61, 3, 795, 0, false, [], []),
  (737, .aload_n 1, 1, 0, 0, false, [], []),
  (738, .bipush 64, 2, 0, 0, false, [], [(64, 0)]),
  (740, .iconst 0, 1, 0, 0, false, [], [(0, 0)]),
  (741, .invokevirtual 76, 3, 89, 2, false, [585, 15, 588, 586, 587], []),
  (744, .bipush (-101), 2, 0, 0, false, [], [((-101), 0)]),
  (746, .if_icmp .ne 49, 3, 795, 0, false, [], []),
  (749, .aload_n 1, 1, 0, 0, false, [], []),
  (750, .bipush 48, 2, 0, 0, false, [], [(48, 0)]),
  (752, .iconst 0, 1, 0, 0, false, [], [(0, 0)]),
  (753, .invokevirtual 67, 3, 87, 2, false, [579, 15, 582, 580, 581], []),
  (756, .bipush (-101), 2, 0, 0, false, [], [((-101), 0)]),
  (758, .if_icmp .ne 37, 3, 795, 0, false, [], []),
  (761, .aload_n 1, 1, 0, 0, false, [], []),
  (762, .iconst 4, 1, 0, 0, false, [], [(4, 0)]),
  (763, .invokevirtual 80, 3, 90, 1, false, [597, 15, 600, 598, 599], []),
  (766, .bipush (-101), 2, 0, 0, false, [], [((-101), 0)]),
  (768, .if_icmp .ne 27, 3, 795, 0, false, [], []),
  (771, .aload_n 1, 1, 0, 0, false, [], []),
  (772, .iconst 2, 1, 0, 0, false, [], [(2, 0)]),
  (773, .invokevirtual 86, 3, 93, 1, false, [650, 15, 653, 651, 652], []),
  (776, .bipush (-101), 2, 0, 0, false, [], [((-101), 0)]),
  (778, .if_icmp .ne 17, 3, 795, 0, false, [], []),
  (781, .aload_n 1, 1, 0, 0, false, [], []),
  (782, .invokestatic 96, 3, 102, 1, false, [683, 14, 685, 684], []),
  (785, .lload 9, 2, 0, 0, false, [], []),
  (787, .lcmp, 1, 0, 0, false, [], []),
  (788, .ifCond .ne 7, 3, 795, 0, false, [], []),
  (791, .iconst 1, 1, 0, 0, false, [], [(1, 0)]),
  (792, .goto 4, 3, 796, 0, false, [], []),
  (795, .iconst 0, 1, 0, 0, false, [], [(0, 0)]),
  (796, .ireturn, 1, 0, 0, false, [], [])])
def e_mt : Nat → XM := fun k => (bif Nat.ble 54 k then (bif Nat.ble 81 k then (bif Nat.ble 94 k then (bif Nat.ble 101 k then (bif Nat.ble 104 k then (bif Nat.ble 106 k then (bif Nat.ble 107 k then mt_107 else mt_106) else (bif Nat.ble 105 k then mt_105 else mt_104)) else (bif Nat.ble 102 k then (bif Nat.ble 103 k then mt_103 else mt_102) else mt_101)) else (bif Nat.ble 97 k then (bif Nat.ble 99 k then (bif Nat.ble 100 k then mt_100 else mt_99) else (bif Nat.ble 98 k then mt_98 else mt_97)) else (bif Nat.ble 95 k then (bif Nat.ble 96 k then mt_96 else mt_95) else mt_94))) else (bif Nat.ble 87 k then (bif Nat.ble 90 k then (bif Nat.ble 92 k then (bif Nat.ble 93 k then mt_93 else mt_92) else (bif Nat.ble 91 k then mt_91 else mt_90)) else (bif Nat.ble 88 k then (bif Nat.ble 89 k then mt_89 else mt_88) else mt_87)) else (bif Nat.ble 84 k then (bif Nat.ble 85 k then (bif Nat.ble 86 k then mt_86 else mt_85) else mt_84) else (bif Nat.ble 82 k then (bif Nat.ble 83 k then mt_83 else mt_82) else mt_81)))) else (bif Nat.ble 67 k then (bif Nat.ble 74 k then (bif Nat.ble 77 k then (bif Nat.ble 79 k then (bif Nat.ble 80 k then mt_80 else mt_79) else (bif Nat.ble 78 k then mt_78 else mt_77)) else (bif Nat.ble 75 k then (bif Nat.ble 76 k then mt_76 else mt_75) else mt_74)) else (bif Nat.ble 70 k then (bif Nat.ble 72 k then (bif Nat.ble 73 k then mt_73 else mt_72) else (bif Nat.ble 71 k then mt_71 else mt_70)) else (bif Nat.ble 68 k then (bif Nat.ble 69 k then mt_69 else mt_68) else mt_67))) else (bif Nat.ble 60 k then (bif Nat.ble 63 k then (bif Nat.ble 65 k then (bif Nat.ble 66 k then mt_66 else mt_65) else (bif Nat.ble 64 k then mt_64 else mt_63)) else (bif Nat.ble 61 k then (bif Nat.ble 62 k then mt_62 else mt_61) else mt_60)) else (bif Nat.ble 57 k then (bif Nat.ble 58 k then (bif Nat.ble 59 k then mt_59 else mt_58) else mt_57) else (bif Nat.ble 55 k then (bif Nat.ble 56 k then mt_56 else mt_55) else mt_54))))) else (bif Nat.ble 27 k then (bif Nat.ble 40 k then (bif Nat.ble 47 k then (bif Nat.ble 50 k then (bif Nat.ble 52 k then (bif Nat.ble 53 k then mt_53 else mt_52) else (bif Nat.ble 51 k then mt_51 else mt_50)) else (bif Nat.ble 48 k then (bif Nat.ble 49 k then mt_49 else mt_48) else mt_47)) else (bif Nat.ble 43 k then (bif Nat.ble 45 k then (bif Nat.ble 46 k then mt_46 else mt_45) else (bif Nat.ble 44 k then mt_44 else mt_43)) else (bif Nat.ble 41 k then (bif Nat.ble 42 k then mt_42 else mt_41) else mt_40))) else (bif Nat.ble 33 k then (bif Nat.ble 36 k then (bif Nat.ble 38 k then (bif Nat.ble 39 k then mt_39 else mt_38) else (bif Nat.ble 37 k then mt_37 else mt_36)) else (bif Nat.ble 34 k then (bif Nat.ble 35 k then mt_35 else mt_34) else mt_33)) else (bif Nat.ble 30 k then (bif Nat.ble 31 k then (bif Nat.ble 32 k then mt_32 else mt_31) else mt_30) else (bif Nat.ble 28 k then (bif Nat.ble 29 k then mt_29 else mt_28) else mt_27)))) else (bif Nat.ble 13 k then (bif Nat.ble 20 k then (bif Nat.ble 23 k then (bif Nat.ble 25 k then (bif Nat.ble 26 k then mt_26 else mt_25) else (bif Nat.ble 24 k then mt_24 else mt_23)) else (bif Nat.ble 21 k then (bif Nat.ble 22 k then mt_22 else mt_21) else mt_20)) else (bif Nat.ble 16 k then (bif Nat.ble 18 k then (bif Nat.ble 19 k then mt_19 else mt_18) else (bif Nat.ble 17 k then mt_17 else mt_16)) else (bif Nat.ble 14 k then (bif Nat.ble 15 k then mt_15 else mt_14) else mt_13))) else (bif Nat.ble 6 k then (bif Nat.ble 9 k then (bif Nat.ble 11 k then (bif Nat.ble 12 k then mt_12 else mt_11) else (bif Nat.ble 10 k then mt_10 else mt_9)) else (bif Nat.ble 7 k then (bif Nat.ble 8 k then mt_8 else mt_7) else mt_6)) else (bif Nat.ble 3 k then (bif Nat.ble 4 k then (bif Nat.ble 5 k then mt_5 else mt_4) else mt_3) else (bif Nat.ble 1 k then (bif Nat.ble 2 k then mt_2 else mt_1) else mt_0))))))
abbrev y_Cells_init : Nat := 0
abbrev y_Cells_get1 : Nat := 1
abbrev y_Cells_get2 : Nat := 2
abbrev y_Cells_set2 : Nat := 3
abbrev y_Cells_set3 : Nat := 4
abbrev y_Cells_add : Nat := 5
abbrev y_Cells_fill : Nat := 6
abbrev y_Cells_copyFrom : Nat := 7
abbrev y_Fail_init : Nat := 8
abbrev y_Fail_part : Nat := 9
abbrev y_Fore_init : Nat := 10
abbrev y_Fore_hiddenSince : Nat := 11
abbrev y_Fore_hiddenFrames : Nat := 12
abbrev y_Fore_framesUntilAllShown : Nat := 13
abbrev y_Fore_allShownWithin : Nat := 14
abbrev y_Fore_findStep : Nat := 15
abbrev y_Fore_noteHiddenByTurns : Nat := 16
abbrev y_Fore_greatestWith : Nat := 17
abbrev y_Fore_framesHidden : Nat := 18
abbrev y_Hist_init : Nat := 19
abbrev y_Hist_newestSlot : Nat := 20
abbrev y_Hist_record : Nat := 21
abbrev y_Hist_restore : Nat := 22
abbrev y_Read_init : Nat := 23
abbrev y_Scene_init : Nat := 24
abbrev y_Scene_copyFrom : Nat := 25
abbrev y_Scene_position : Nat := 26
abbrev y_Scene_exists : Nat := 27
abbrev y_Scene_hero : Nat := 28
abbrev y_Scene_firstLine : Nat := 29
abbrev y_Scene_lastLine : Nat := 30
abbrev y_Scene_linesOf : Nat := 31
abbrev y_Scene_standsOn : Nat := 32
abbrev y_Scene_dotsOn : Nat := 33
abbrev y_Scene_mirrored : Nat := 34
abbrev y_Scene_placed : Nat := 35
abbrev y_Scene_redraw : Nat := 36
abbrev y_Scene_isPlace : Nat := 37
abbrev y_Scene_admit : Nat := 38
abbrev y_Scene_dismiss : Nat := 39
abbrev y_Scene_relocate : Nat := 40
abbrev y_Scene_flip : Nat := 41
abbrev y_Scene_putFirst : Nat := 42
abbrev y_Scene_putLast : Nat := 43
abbrev y_Scene_putAt : Nat := 44
abbrev y_Scene_shiftInOrder : Nat := 45
abbrev y_Scene_changeLimit : Nat := 46
abbrev y_Scene_changeRule : Nat := 47
abbrev y_Scene_makeFrame : Nat := 48
abbrev y_Scene_countHidden : Nat := 49
abbrev y_Scene_rotate : Nat := 50
abbrev y_Scene_bringHidden : Nat := 51
abbrev y_Sched_init : Nat := 52
abbrev y_Script_init : Nat := 53
abbrev y_Sight_init : Nat := 54
abbrev y_Sight_look : Nat := 55
abbrev y_Sight_bitOf : Nat := 56
abbrev y_Sight_colorAt : Nat := 57
abbrev y_Sight_dotsOnLine : Nat := 58
abbrev y_Sight_allDots : Nat := 59
abbrev y_Sight_clashesOn : Nat := 60
abbrev y_Sight_allClashes : Nat := 61
abbrev y_Sight_firstClash : Nat := 62
abbrev y_Sight_firstColumn : Nat := 63
abbrev y_Sight_firstOther : Nat := 64
abbrev y_Steps_init : Nat := 65
abbrev y_Surv_init : Nat := 66
abbrev y_Surv_look : Nat := 67
abbrev y_Surv_isHidden : Nat := 68
abbrev y_Surv_hiddenPuppets : Nat := 69
abbrev y_Surv_hiddenBits : Nat := 70
abbrev y_Surv_lineWithMostHidden : Nat := 71
abbrev y_P_init : Nat := 72
abbrev y_P_setRow : Nat := 73
abbrev y_P_come : Nat := 74
abbrev y_P_leave : Nat := 75
abbrev y_P_move : Nat := 76
abbrev y_P_turn : Nat := 77
abbrev y_P_lift : Nat := 78
abbrev y_P_lower : Nat := 79
abbrev y_P_setLimit : Nat := 80
abbrev y_P_setRule : Nat := 81
abbrev y_P_frame : Nat := 82
abbrev y_P_undo : Nat := 83
abbrev y_P_failure : Nat := 84
abbrev y_P_count : Nat := 85
abbrev y_P_puppet : Nat := 86
abbrev y_P_line : Nat := 87
abbrev y_P_shown : Nat := 88
abbrev y_P_dot : Nat := 89
abbrev y_P_clash : Nat := 90
abbrev y_P_hiddenIn : Nat := 91
abbrev y_P_allShownIn : Nat := 92
abbrev y_P_bestStep : Nat := 93
abbrev y_P_worstLine : Nat := 94
abbrev y_P_within : Nat := 95
abbrev y_P_recorded : Nat := 96
abbrev y_J_bitCount : Nat := 97
abbrev y_J_max : Nat := 98
abbrev y_J_min : Nat := 99
abbrev y_L_cell : Nat := 100
abbrev y_L_low : Nat := 101
abbrev y_L_digest : Nat := 102
abbrev y_L_there : Nat := 103
abbrev y_L_act : Nat := 104
abbrev y_L_addsUp : Nat := 105
abbrev y_L_isLine : Nat := 106
abbrev y_L_law : Nat := 107
/-- the objects that the law makes, by number: (class, 0), or (100, length) of an int array, (101, length) of an array of scenes -/
def e_SH : Nat → Nat × Nat := fun k => (bif Nat.ble 45 k then (bif Nat.ble 68 k then (bif Nat.ble 79 k then (bif Nat.ble 85 k then (bif Nat.ble 88 k then (bif Nat.ble 89 k then (bif Nat.ble 90 k then (100, 16) else (1, 0)) else (100, 4)) else (bif Nat.ble 86 k then (bif Nat.ble 87 k then (0, 0) else (100, 200)) else (0, 0))) else (bif Nat.ble 82 k then (bif Nat.ble 83 k then (bif Nat.ble 84 k then (6, 0) else (100, 4)) else (0, 0)) else (bif Nat.ble 80 k then (bif Nat.ble 81 k then (100, 600) else (0, 0)) else (9, 0)))) else (bif Nat.ble 73 k then (bif Nat.ble 76 k then (bif Nat.ble 77 k then (bif Nat.ble 78 k then (100, 100) else (0, 0)) else (7, 0)) else (bif Nat.ble 74 k then (bif Nat.ble 75 k then (4, 0) else (100, 20)) else (0, 0))) else (bif Nat.ble 70 k then (bif Nat.ble 71 k then (bif Nat.ble 72 k then (100, 200) else (0, 0)) else (100, 64)) else (bif Nat.ble 69 k then (0, 0) else (5, 0))))) else (bif Nat.ble 56 k then (bif Nat.ble 62 k then (bif Nat.ble 65 k then (bif Nat.ble 66 k then (bif Nat.ble 67 k then (100, 20) else (0, 0)) else (100, 200)) else (bif Nat.ble 63 k then (bif Nat.ble 64 k then (0, 0) else (100, 64)) else (0, 0))) else (bif Nat.ble 59 k then (bif Nat.ble 60 k then (bif Nat.ble 61 k then (5, 0) else (100, 20)) else (0, 0)) else (bif Nat.ble 57 k then (bif Nat.ble 58 k then (100, 200) else (0, 0)) else (100, 64)))) else (bif Nat.ble 50 k then (bif Nat.ble 53 k then (bif Nat.ble 54 k then (bif Nat.ble 55 k then (0, 0) else (5, 0)) else (100, 20)) else (bif Nat.ble 51 k then (bif Nat.ble 52 k then (0, 0) else (100, 200)) else (0, 0))) else (bif Nat.ble 47 k then (bif Nat.ble 48 k then (bif Nat.ble 49 k then (100, 64) else (0, 0)) else (5, 0)) else (bif Nat.ble 46 k then (100, 20) else (0, 0)))))) else (bif Nat.ble 22 k then (bif Nat.ble 33 k then (bif Nat.ble 39 k then (bif Nat.ble 42 k then (bif Nat.ble 43 k then (bif Nat.ble 44 k then (100, 200) else (0, 0)) else (100, 64)) else (bif Nat.ble 40 k then (bif Nat.ble 41 k then (0, 0) else (5, 0)) else (101, 5))) else (bif Nat.ble 36 k then (bif Nat.ble 37 k then (bif Nat.ble 38 k then (3, 0) else (100, 20)) else (0, 0)) else (bif Nat.ble 34 k then (bif Nat.ble 35 k then (100, 20) else (0, 0)) else (100, 48)))) else (bif Nat.ble 27 k then (bif Nat.ble 30 k then (bif Nat.ble 31 k then (bif Nat.ble 32 k then (0, 0) else (10, 0)) else (100, 20)) else (bif Nat.ble 28 k then (bif Nat.ble 29 k then (0, 0) else (100, 200)) else (0, 0))) else (bif Nat.ble 24 k then (bif Nat.ble 25 k then (bif Nat.ble 26 k then (100, 64) else (0, 0)) else (5, 0)) else (bif Nat.ble 23 k then (2, 0) else (100, 8))))) else (bif Nat.ble 11 k then (bif Nat.ble 16 k then (bif Nat.ble 19 k then (bif Nat.ble 20 k then (bif Nat.ble 21 k then (0, 0) else (8, 0)) else (100, 20)) else (bif Nat.ble 17 k then (bif Nat.ble 18 k then (0, 0) else (100, 48)) else (0, 0))) else (bif Nat.ble 13 k then (bif Nat.ble 14 k then (bif Nat.ble 15 k then (10, 0) else (100, 20)) else (0, 0)) else (bif Nat.ble 12 k then (100, 200) else (0, 0)))) else (bif Nat.ble 5 k then (bif Nat.ble 8 k then (bif Nat.ble 9 k then (bif Nat.ble 10 k then (100, 64) else (0, 0)) else (5, 0)) else (bif Nat.ble 6 k then (bif Nat.ble 7 k then (100, 20) else (0, 0)) else (100, 200))) else (bif Nat.ble 2 k then (bif Nat.ble 3 k then (bif Nat.ble 4 k then (0, 0) else (100, 64)) else (0, 0)) else (bif Nat.ble 1 k then (5, 0) else (11, 0)))))))
def e_GG : Nat → Nat → Option Nat := fun k j => (bif Nat.ble 45 k then (bif Nat.ble 68 k then (bif Nat.ble 79 k then (bif Nat.ble 85 k then (bif Nat.ble 88 k then (bif Nat.ble 89 k then (bif Nat.ble 90 k then none else none) else none) else (bif Nat.ble 86 k then (bif Nat.ble 87 k then (some 88) else none) else (some 86))) else (bif Nat.ble 82 k then (bif Nat.ble 83 k then (bif Nat.ble 84 k then (bif Nat.ble 1 j then (some 87) else (some 85)) else none) else (some 83)) else (bif Nat.ble 80 k then (bif Nat.ble 81 k then none else (some 81)) else (some 80)))) else (bif Nat.ble 73 k then (bif Nat.ble 76 k then (bif Nat.ble 77 k then (bif Nat.ble 78 k then none else (some 78)) else (some 77)) else (bif Nat.ble 74 k then (bif Nat.ble 75 k then (bif Nat.ble 1 j then (bif Nat.ble 2 j then (some 82) else (some 79)) else (some 76)) else none) else (some 74))) else (bif Nat.ble 70 k then (bif Nat.ble 71 k then (bif Nat.ble 72 k then none else (some 72)) else none) else (bif Nat.ble 69 k then (some 70) else (bif Nat.ble 1 j then (bif Nat.ble 2 j then (some 73) else (some 71)) else (some 69)))))) else (bif Nat.ble 56 k then (bif Nat.ble 62 k then (bif Nat.ble 65 k then (bif Nat.ble 66 k then (bif Nat.ble 67 k then none else (some 67)) else none) else (bif Nat.ble 63 k then (bif Nat.ble 64 k then (some 65) else none) else (some 63))) else (bif Nat.ble 59 k then (bif Nat.ble 60 k then (bif Nat.ble 61 k then (bif Nat.ble 1 j then (bif Nat.ble 2 j then (some 66) else (some 64)) else (some 62)) else none) else (some 60)) else (bif Nat.ble 57 k then (bif Nat.ble 58 k then none else (some 58)) else none))) else (bif Nat.ble 50 k then (bif Nat.ble 53 k then (bif Nat.ble 54 k then (bif Nat.ble 55 k then (some 56) else (bif Nat.ble 1 j then (bif Nat.ble 2 j then (some 59) else (some 57)) else (some 55))) else none) else (bif Nat.ble 51 k then (bif Nat.ble 52 k then (some 53) else none) else (some 51))) else (bif Nat.ble 47 k then (bif Nat.ble 48 k then (bif Nat.ble 49 k then none else (some 49)) else (bif Nat.ble 1 j then (bif Nat.ble 2 j then (some 52) else (some 50)) else (some 48))) else (bif Nat.ble 46 k then none else (some 46)))))) else (bif Nat.ble 22 k then (bif Nat.ble 33 k then (bif Nat.ble 39 k then (bif Nat.ble 42 k then (bif Nat.ble 43 k then (bif Nat.ble 44 k then none else (some 44)) else none) else (bif Nat.ble 40 k then (bif Nat.ble 41 k then (some 42) else (bif Nat.ble 1 j then (bif Nat.ble 2 j then (some 45) else (some 43)) else (some 41))) else (bif Nat.ble 2 j then (bif Nat.ble 3 j then (bif Nat.ble 4 j then (some 68) else (some 61)) else (some 54)) else (bif Nat.ble 1 j then (some 47) else (some 40))))) else (bif Nat.ble 36 k then (bif Nat.ble 37 k then (bif Nat.ble 38 k then (some 39) else none) else (some 37)) else (bif Nat.ble 34 k then (bif Nat.ble 35 k then none else (some 35)) else none))) else (bif Nat.ble 27 k then (bif Nat.ble 30 k then (bif Nat.ble 31 k then (bif Nat.ble 32 k then (some 33) else (bif Nat.ble 1 j then (some 34) else (some 32))) else none) else (bif Nat.ble 28 k then (bif Nat.ble 29 k then (some 30) else none) else (some 28))) else (bif Nat.ble 24 k then (bif Nat.ble 25 k then (bif Nat.ble 26 k then none else (some 26)) else (bif Nat.ble 1 j then (bif Nat.ble 2 j then (some 29) else (some 27)) else (some 25))) else (bif Nat.ble 23 k then (bif Nat.ble 1 j then (bif Nat.ble 2 j then (some 36) else (some 31)) else (some 24)) else none)))) else (bif Nat.ble 11 k then (bif Nat.ble 16 k then (bif Nat.ble 19 k then (bif Nat.ble 20 k then (bif Nat.ble 21 k then (some 22) else (some 21)) else none) else (bif Nat.ble 17 k then (bif Nat.ble 18 k then (some 19) else none) else (some 17))) else (bif Nat.ble 13 k then (bif Nat.ble 14 k then (bif Nat.ble 15 k then (bif Nat.ble 1 j then (some 18) else (some 16)) else none) else (some 14)) else (bif Nat.ble 12 k then none else (some 12)))) else (bif Nat.ble 5 k then (bif Nat.ble 8 k then (bif Nat.ble 9 k then (bif Nat.ble 10 k then none else (some 10)) else (bif Nat.ble 1 j then (bif Nat.ble 2 j then (some 13) else (some 11)) else (some 9))) else (bif Nat.ble 6 k then (bif Nat.ble 7 k then none else (some 7)) else none)) else (bif Nat.ble 2 k then (bif Nat.ble 3 k then (bif Nat.ble 4 k then (some 5) else none) else (some 3)) else (bif Nat.ble 1 k then (bif Nat.ble 1 j then (bif Nat.ble 2 j then (some 6) else (some 4)) else (some 2)) else (bif Nat.ble 4 j then (bif Nat.ble 6 j then (bif Nat.ble 7 j then (bif Nat.ble 8 j then (some 89) else (some 84)) else (some 75)) else (bif Nat.ble 5 j then (some 38) else (some 23))) else (bif Nat.ble 2 j then (bif Nat.ble 3 j then (some 20) else (some 15)) else (bif Nat.ble 1 j then (some 8) else (some 1))))))))))
def e_WD : Nat → Int32 := fun k => (bif Nat.ble 45 k then (bif Nat.ble 68 k then (bif Nat.ble 79 k then (bif Nat.ble 85 k then (bif Nat.ble 88 k then (bif Nat.ble 89 k then (bif Nat.ble 90 k then 0 else 0) else 0) else (bif Nat.ble 86 k then (bif Nat.ble 87 k then 1 else 0) else 1)) else (bif Nat.ble 82 k then (bif Nat.ble 83 k then (bif Nat.ble 84 k then 0 else 0) else 1) else (bif Nat.ble 80 k then (bif Nat.ble 81 k then 0 else 6) else 0))) else (bif Nat.ble 73 k then (bif Nat.ble 76 k then (bif Nat.ble 77 k then (bif Nat.ble 78 k then 0 else 1) else 0) else (bif Nat.ble 74 k then (bif Nat.ble 75 k then 0 else 0) else 1)) else (bif Nat.ble 70 k then (bif Nat.ble 71 k then (bif Nat.ble 72 k then 0 else 10) else 0) else (bif Nat.ble 69 k then 8 else 0)))) else (bif Nat.ble 56 k then (bif Nat.ble 62 k then (bif Nat.ble 65 k then (bif Nat.ble 66 k then (bif Nat.ble 67 k then 0 else 1) else 0) else (bif Nat.ble 63 k then (bif Nat.ble 64 k then 10 else 0) else 8)) else (bif Nat.ble 59 k then (bif Nat.ble 60 k then (bif Nat.ble 61 k then 0 else 0) else 1) else (bif Nat.ble 57 k then (bif Nat.ble 58 k then 0 else 10) else 0))) else (bif Nat.ble 50 k then (bif Nat.ble 53 k then (bif Nat.ble 54 k then (bif Nat.ble 55 k then 8 else 0) else 0) else (bif Nat.ble 51 k then (bif Nat.ble 52 k then 1 else 0) else 10)) else (bif Nat.ble 47 k then (bif Nat.ble 48 k then (bif Nat.ble 49 k then 0 else 8) else 0) else (bif Nat.ble 46 k then 0 else 1))))) else (bif Nat.ble 22 k then (bif Nat.ble 33 k then (bif Nat.ble 39 k then (bif Nat.ble 42 k then (bif Nat.ble 43 k then (bif Nat.ble 44 k then 0 else 10) else 0) else (bif Nat.ble 40 k then (bif Nat.ble 41 k then 8 else 0) else 0)) else (bif Nat.ble 36 k then (bif Nat.ble 37 k then (bif Nat.ble 38 k then 0 else 0) else 1) else (bif Nat.ble 34 k then (bif Nat.ble 35 k then 0 else 1) else 0))) else (bif Nat.ble 27 k then (bif Nat.ble 30 k then (bif Nat.ble 31 k then (bif Nat.ble 32 k then 1 else 0) else 0) else (bif Nat.ble 28 k then (bif Nat.ble 29 k then 1 else 0) else 10)) else (bif Nat.ble 24 k then (bif Nat.ble 25 k then (bif Nat.ble 26 k then 0 else 8) else 0) else (bif Nat.ble 23 k then 0 else 0)))) else (bif Nat.ble 11 k then (bif Nat.ble 16 k then (bif Nat.ble 19 k then (bif Nat.ble 20 k then (bif Nat.ble 21 k then 1 else 0) else 0) else (bif Nat.ble 17 k then (bif Nat.ble 18 k then 1 else 0) else 1)) else (bif Nat.ble 13 k then (bif Nat.ble 14 k then (bif Nat.ble 15 k then 0 else 0) else 1) else (bif Nat.ble 12 k then 0 else 10))) else (bif Nat.ble 5 k then (bif Nat.ble 8 k then (bif Nat.ble 9 k then (bif Nat.ble 10 k then 0 else 8) else 0) else (bif Nat.ble 6 k then (bif Nat.ble 7 k then 0 else 1) else 0)) else (bif Nat.ble 2 k then (bif Nat.ble 3 k then (bif Nat.ble 4 k then 10 else 0) else 8) else (bif Nat.ble 1 k then 0 else 0))))))
abbrev e_NN : Nat := 90
end
section
/-! THE ENGINE: an abstract machine over numbered objects, its weakest preconditions by computation, and that they hold of the machine. -/
abbrev Sg : Type := (Nat × (Nat → Nat × Nat)) × (Nat → Nat → Option Nat) × (Nat → Nat → Int32) × (Nat → Nat → Int32)
def mNm (y : Nat) : MethodName := (e_mt y).1
def mBy (y : Nat) : ByteArray := (e_mt y).2.1
def mML (y : Nat) : Nat := (e_mt y).2.2.1
def mRet (y : Nat) : Option FieldType := (e_mt y).2.2.2.1
def mRm (y : Nat) : Room := (e_mt y).2.2.2.2.1
def mCi (y : Nat) : Nat := (e_mt y).2.2.2.2.2.1
def mOps (y : Nat) : List (Nat × XO) := (e_mt y).2.2.2.2.2.2
def e_find : List (Nat × XO) → Nat → Option XO
  | [], _ => none
  | (q, o) :: r, pc => bif Nat.beq q pc then some o else e_find r pc
def e_op (y pc : Nat) : Option XO := e_find (mOps y) pc
theorem e_find_mem {pc : Nat} {o : XO} : ∀ {l : List (Nat × XO)}, e_find l pc = some o → (pc, o) ∈ l
  | [], h => by cases h
  | (q, o') :: r, h => by
    unfold e_find at h
    cases hq : Nat.beq q pc with
    | true =>
      rw [hq] at h
      have e1 := Nat.eq_of_beq_eq_true hq
      cases h
      subst e1
      exact List.mem_cons_self
    | false =>
      rw [hq] at h
      exact List.mem_cons_of_mem _ (e_find_mem h)
def u1 {α : Type} (f : Nat → α) (k : Nat) (x : α) : Nat → α := fun j => if j = k then x else f j
def u2 {α : Type} (f : Nat → Nat → α) (o k : Nat) (x : α) : Nat → Nat → α := u1 f o (u1 (f o) k x)
theorem u1_s {α : Type} (f : Nat → α) (k : Nat) (x : α) : u1 f k x k = x := if_pos rfl
theorem u1_n {α : Type} (f : Nat → α) {k j : Nat} (x : α) (h : j ≠ k) : u1 f k x j = f j := if_neg h
def e_v (b : Nat) : Value → Value
  | .ref a => .ref (b + a)
  | v => v
/-- a local of the law that holds its script: told by a float, of which there is none -/
def e_w (b : Nat) (x0 : Option Nat) : Value → Value
  | .float u => match x0 with
    | some a => .ref a
    | none => .float u
  | v => e_v b v
theorem e_w_none (b : Nat) (v : Value) : e_w b none v = e_v b v := by cases v <;> rfl
theorem e_w_cat (b : Nat) (x0 : Option Nat) (v : Value) : (e_w b x0 v).category = v.category := by cases v <;> (try rfl); cases x0 <;> rfl
def e_isI : FieldType → Bool
  | .int => true
  | .boolean => true
  | _ => false
def e_fty (c k : Nat) : FieldType := (e_ct c).2.2.2 k
def e_cls : List vw_C := (List.range 12).map (fun c => ((e_ct c).1, (e_ct c).2.1, (e_ct c).2.2.1))
theorem e_cls_at {c : Nat} (h : c < 12) : e_cls[c]? = some ((e_ct c).1, (e_ct c).2.1, (e_ct c).2.2.1) := by
  simp [e_cls, List.getElem?_map, List.getElem?_range h]
def e_fv (b : Nat) (σ : Sg) (c o k : Nat) : Value := bif e_isI (e_fty c k) then .int (σ.2.2.1 o k) else va_rf ((σ.2.1 o k).map (fun j => b + j))
def e_fl (b : Nat) (σ : Sg) (c o : Nat) : List Value := (List.range (e_ct c).2.2.1).map (e_fv b σ c o)
def e_ent (b : Nat) (cI cS : ClassId) (σ : Sg) (o : Nat) : va_E :=
  bif Nat.beq (σ.1.2 o).1 100 then .inl (cI, (σ.1.2 o).2, .inl (σ.2.2.2 o))
  else bif Nat.beq (σ.1.2 o).1 101 then .inl (cS, (σ.1.2 o).2, .inr (.inr (.inr (.inr (fun k => (σ.2.1 o k).map (fun j => b + j))))))
  else .inr ((σ.1.2 o).1, e_fl b σ (σ.1.2 o).1 o)
def e_Sim (D : va_G) (b : Nat) (cI cS : ClassId) (H0 : Heap) (σ : Sg) (H : Heap) : Prop :=
  H.size = b + σ.1.1 ∧ (∀ q : Nat, q < b → H[q]? = H0[q]?) ∧ ∀ o : Nat, o < σ.1.1 → va_at D e_cls (b + o, e_ent b cI cS σ o) H
abbrev e_tys (cI cS : ClassId) : List (ClassId × FieldType) := [(cI, .int), (cS, .object "PuppetTurns$Scene")]
/-! locals -/
def e_get : List (Option Value) → Nat → Option Value
  | [], _ => none
  | a :: _, 0 => a
  | _ :: r, n + 1 => e_get r n
def e_set : List (Option Value) → Nat → Option Value → List (Option Value)
  | [], _, _ => []
  | _ :: r, 0, v => v :: r
  | a :: r, n + 1, v => a :: e_set r n v
theorem e_set_len : ∀ (L : List (Option Value)) (k : Nat) (v : Option Value), (e_set L k v).length = L.length
  | [], _, _ => rfl
  | _ :: _, 0, _ => rfl
  | a :: r, n + 1, v => by simp [e_set, e_set_len r n v]
theorem e_set_get : ∀ (L : List (Option Value)) (k : Nat) (v : Option Value) (j : Nat) (w : Value), e_get (e_set L k v) j = some w → (j = k ∧ v = some w) ∨ (j ≠ k ∧ e_get L j = some w)
  | [], _, _, _, _, h => by cases h
  | _ :: _, 0, v, 0, w, h => Or.inl ⟨rfl, h⟩
  | _ :: _, 0, v, j + 1, w, h => Or.inr ⟨by omega, h⟩
  | a :: r, n + 1, v, 0, w, h => Or.inr ⟨by omega, h⟩
  | a :: r, n + 1, v, j + 1, w, h => by
    rcases e_set_get r n v j w h with ⟨h1, h2⟩ | ⟨h1, h2⟩
    · exact Or.inl ⟨by omega, h2⟩
    · exact Or.inr ⟨by omega, h2⟩
def e_below (L : List (Option Value)) : Nat → Bool
  | 0 => true
  | j + 1 => match e_get L j with
    | some w => Nat.beq w.category 1
    | none => true
def e_st1 (L : List (Option Value)) (k : Nat) (v : Value) : Option (List (Option Value)) := bif Nat.blt k L.length && e_below L k then some (e_set L k (some v)) else none
def e_st2 (L : List (Option Value)) (k : Nat) (v : Value) : Option (List (Option Value)) := bif Nat.blt (k + 1) L.length && e_below L k then some (e_set (e_set L k (some v)) (k + 1) none) else none
def e_LH (b : Nat) (x0 : Option Nat) (ls : Array Slot) (nL : Nat) (L : List (Option Value)) : Prop := L.length = nL ∧ ∃ l, lv_has ls nL l ∧ ∀ (j : Nat) (w : Value), e_get L j = some w → (j, e_w b x0 w) ∈ l
theorem e_v_cat (b : Nat) (v : Value) : (e_v b v).category = v.category := by cases v <;> rfl
theorem e_LH_get {b nL j : Nat} {x0 : Option Nat} {ls : Array Slot} {L : List (Option Value)} {w : Value} (h : e_LH b x0 ls nL L) (hg : e_get L j = some w) : ls[j]? = some (.val (e_w b x0 w)) := by
  obtain ⟨-, l, hl, hm⟩ := h
  exact hl.2.2 _ (hm j w hg)
theorem e_below_ok {L : List (Option Value)} {k j : Nat} {w : Value} (hb : e_below L k = true) (hg : e_get L j = some w) (hc : w.category = 2) : j + 1 ≠ k := by
  intro hk
  subst hk
  simp only [e_below, hg] at hb
  have := Nat.eq_of_beq_eq_true hb
  omega
theorem e_LH_st1 {b nL k : Nat} {x0 : Option Nat} {ls : Array Slot} {L L' : List (Option Value)} {v : Value} (h : e_LH b x0 ls nL L) (hs : e_st1 L k v = some L') :
    k < nL ∧ ∃ l, lv_has ls nL l ∧ ∀ ls', lv_has ls' nL ((k, e_w b x0 v) :: l.filter (fun q => !(q.1 == k) && !(q.1 + 1 == k && q.2.category == 2))) → e_LH b x0 ls' nL L' := by
  obtain ⟨hn, l, hl, hm⟩ := h
  unfold e_st1 at hs
  cases hc : (Nat.blt k L.length && e_below L k) with
  | false => rw [hc] at hs; cases hs
  | true =>
    rw [hc] at hs
    cases hs
    rw [Bool.and_eq_true] at hc
    have hk : k < L.length := by simpa [Nat.blt_eq] using hc.1
    refine ⟨by omega, l, hl, fun ls' h' => ⟨by rw [e_set_len]; exact hn, _, h', fun j w hj => ?_⟩⟩
    rcases e_set_get L k (some v) j w hj with ⟨h1, h2⟩ | ⟨h1, h2⟩
    · cases h2
      rw [h1]
      exact List.mem_cons_self
    · refine List.mem_cons_of_mem _ (List.mem_filter.mpr ⟨hm j w h2, ?_⟩)
      have h3 : ¬ (w.category = 2 ∧ j + 1 = k) := fun z => e_below_ok hc.2 h2 z.1 z.2
      rcases lv_cat w with h4 | h4
      · simp [h1, e_w_cat, h4]
      · have : j + 1 ≠ k := fun z => h3 ⟨h4, z⟩
        simp [h1, this]
theorem e_LH_st2 {b nL k : Nat} {x0 : Option Nat} {ls : Array Slot} {L L' : List (Option Value)} {v : Value} (h : e_LH b x0 ls nL L) (hs : e_st2 L k v = some L') :
    k + 1 < nL ∧ ∃ l, lv_has ls nL l ∧ ∀ ls', lv_has ls' nL ((k, e_w b x0 v) :: l.filter (fun q => !(q.1 == k) && (!(q.1 == k + 1) && !(q.1 + 1 == k && q.2.category == 2)))) → e_LH b x0 ls' nL L' := by
  obtain ⟨hn, l, hl, hm⟩ := h
  unfold e_st2 at hs
  cases hc : (Nat.blt (k + 1) L.length && e_below L k) with
  | false => rw [hc] at hs; cases hs
  | true =>
    rw [hc] at hs
    cases hs
    rw [Bool.and_eq_true] at hc
    have hk : k + 1 < L.length := by simpa [Nat.blt_eq] using hc.1
    refine ⟨by omega, l, hl, fun ls' h' => ⟨by rw [e_set_len, e_set_len]; exact hn, _, h', fun j w hj => ?_⟩⟩
    rcases e_set_get _ (k + 1) none j w hj with ⟨-, h2⟩ | ⟨h0, h2⟩
    · cases h2
    · rcases e_set_get L k (some v) j w h2 with ⟨h1, h2⟩ | ⟨h1, h2⟩
      · cases h2
        rw [h1]
        exact List.mem_cons_self
      · refine List.mem_cons_of_mem _ (List.mem_filter.mpr ⟨hm j w h2, ?_⟩)
        have h3 : ¬ (w.category = 2 ∧ j + 1 = k) := fun z => e_below_ok hc.2 h2 z.1 z.2
        rcases lv_cat w with h4 | h4
        · simp [h0, h1, e_w_cat, h4]
        · have : j + 1 ≠ k := fun z => h3 ⟨h4, z⟩
          simp [h0, h1, this]
def e_args : List Value → List (Option Value)
  | [] => []
  | v :: r => bif Nat.beq v.category 2 then some v :: none :: e_args r else some v :: e_args r
def e_pad : Nat → List (Option Value)
  | 0 => []
  | n + 1 => none :: e_pad n
def e_L0 (as : List Value) (nL : Nat) : List (Option Value) := e_args as ++ e_pad (nL - (e_args as).length)
theorem e_pad_get : ∀ n j, e_get (e_pad n) j = none
  | 0, _ => rfl
  | n + 1, 0 => rfl
  | n + 1, j + 1 => e_pad_get n j
theorem e_pad_len : ∀ n, (e_pad n).length = n
  | 0 => rfl
  | n + 1 => by simp [e_pad, e_pad_len n]
theorem e_args_mem (b n : Nat) : ∀ (as : List Value) (i j : Nat) (w : Value), e_get (e_args as ++ e_pad n) j = some w → (i + j, e_v b w) ∈ lv_args i (as.map (e_v b))
  | [], i, j, w, h => by simp only [e_args, List.nil_append] at h; rw [e_pad_get] at h; cases h
  | v :: r, i, j, w, h => by
    simp only [e_args] at h
    simp only [List.map_cons, lv_args, e_v_cat]
    rcases lv_cat v with hc | hc
    · rw [hc] at h
      simp only [show Nat.beq 1 2 = false from rfl, cond_false, List.cons_append] at h
      rw [if_neg (by omega)]
      cases j with
      | zero => simp only [e_get] at h; cases h; exact List.mem_cons_self
      | succ j => exact List.mem_cons_of_mem _ (by have := e_args_mem b n r (i + 1) j w h; rwa [show i + 1 + j = i + (j + 1) by omega] at this)
    · rw [hc] at h
      simp only [show Nat.beq 2 2 = true from rfl, cond_true, List.cons_append] at h
      rw [if_pos hc]
      cases j with
      | zero => simp only [e_get] at h; cases h; exact List.mem_cons_self
      | succ j =>
        cases j with
        | zero => simp only [e_get] at h; cases h
        | succ j => exact List.mem_cons_of_mem _ (by have := e_args_mem b n r (i + 2) j w h; rwa [show i + 2 + j = i + (j + 1 + 1) by omega] at this)
theorem e_args_len (b : Nat) : ∀ as : List Value, (lg_sl (as.map (e_v b))).length = (e_args as).length
  | [] => rfl
  | v :: r => by
    have ih := e_args_len b r
    unfold lg_sl at ih ⊢
    rcases lv_cat v with hc | hc
    · simp [e_args, hc, e_v_cat, ih, show Nat.beq 1 2 = false from rfl]
    · simp [e_args, hc, e_v_cat, ih, show Nat.beq 2 2 = true from rfl]
theorem e_LH_entry (b nL : Nat) (as : List Value) (h : (e_args as).length ≤ nL) : e_LH b none ((lg_sl (as.map (e_v b)) ++ List.replicate (nL - (lg_sl (as.map (e_v b))).length) Slot.unset).toArray) nL (e_L0 as nL) := by
  refine ⟨?_, _, lv_entry (as.map (e_v b)) (n := nL) (by rw [e_args_len]; exact h), fun j w hj => ?_⟩
  · simp [e_L0, e_pad_len]; omega
  · have := e_args_mem b _ as 0 j w hj
    rw [e_w_none]
    rwa [Nat.zero_add] at this
end
section
/-! instructions that touch locals and stack alone -/
def e_pure (i : Instr) (sw : List (Int32 × Nat)) (r1 : Nat) (L : List (Option Value)) (st : List Value) : Option (List (Option Value) × List Value) :=
  match i with
  | .iconst _ | .bipush _ | .sipush _ | .ldc _ => match sw with
    | [(v, _)] => some (L, .int v :: st)
    | _ => none
  | .lconst c => some (L, .long (Int64.ofNat (c : Nat)) :: st)
  | .ldc2_w _ => some (L, .long (Int64.ofNat r1) :: st)
  | .iload k => match e_get L k with
    | some (.int x) => some (L, .int x :: st)
    | _ => none
  | .iload_n k => match e_get L (k : Nat) with
    | some (.int x) => some (L, .int x :: st)
    | _ => none
  | .aload k => match e_get L k with
    | some (.ref x) => some (L, .ref x :: st)
    | _ => none
  | .aload_n k => match e_get L (k : Nat) with
    | some (.ref x) => some (L, .ref x :: st)
    | _ => none
  | .lload k => match e_get L k with
    | some (.long x) => some (L, .long x :: st)
    | _ => none
  | .lload_n k => match e_get L (k : Nat) with
    | some (.long x) => some (L, .long x :: st)
    | _ => none
  | .istore k => match st with
    | .int x :: st' => (e_st1 L k (.int x)).map (fun L' => (L', st'))
    | _ => none
  | .istore_n k => match st with
    | .int x :: st' => (e_st1 L (k : Nat) (.int x)).map (fun L' => (L', st'))
    | _ => none
  | .astore_n k => match st with
    | .ref x :: st' => (e_st1 L (k : Nat) (.ref x)).map (fun L' => (L', st'))
    | _ => none
  | .astore k => match st with
    | .ref x :: st' => (e_st1 L k (.ref x)).map (fun L' => (L', st'))
    | _ => none
  | .lstore k => match st with
    | .long x :: st' => (e_st2 L k (.long x)).map (fun L' => (L', st'))
    | _ => none
  | .lstore_n k => match st with
    | .long x :: st' => (e_st2 L (k : Nat) (.long x)).map (fun L' => (L', st'))
    | _ => none
  | .iinc k _ => match sw with
    | [(v, _)] => match e_get L k with
      | some (.int x) => (e_st1 L k (.int (x + v))).map (fun L' => (L', st))
      | _ => none
    | _ => none
  | .iadd => match st with
    | .int y :: .int x :: st' => some (L, .int (x + y) :: st')
    | _ => none
  | .isub => match st with
    | .int y :: .int x :: st' => some (L, .int (x - y) :: st')
    | _ => none
  | .imul => match st with
    | .int y :: .int x :: st' => some (L, .int (x * y) :: st')
    | _ => none
  | .iand => match st with
    | .int y :: .int x :: st' => some (L, .int (x &&& y) :: st')
    | _ => none
  | .ior => match st with
    | .int y :: .int x :: st' => some (L, .int (x ||| y) :: st')
    | _ => none
  | .ineg => match st with
    | .int x :: st' => some (L, .int (-x) :: st')
    | _ => none
  | .ishl => match st with
    | .int y :: .int x :: st' => some (L, .int (x <<< (y &&& 31)) :: st')
    | _ => none
  | .ishr => match st with
    | .int y :: .int x :: st' => some (L, .int (x >>> (y &&& 31)) :: st')
    | _ => none
  | .ladd => match st with
    | .long y :: .long x :: st' => some (L, .long (x + y) :: st')
    | _ => none
  | .lsub => match st with
    | .long y :: .long x :: st' => some (L, .long (x - y) :: st')
    | _ => none
  | .lmul => match st with
    | .long y :: .long x :: st' => some (L, .long (x * y) :: st')
    | _ => none
  | .land => match st with
    | .long y :: .long x :: st' => some (L, .long (x &&& y) :: st')
    | _ => none
  | .lor => match st with
    | .long y :: .long x :: st' => some (L, .long (x ||| y) :: st')
    | _ => none
  | .lshl => match st with
    | .int y :: .long x :: st' => some (L, .long (x <<< (y.toInt64 &&& 63)) :: st')
    | _ => none
  | .lushr => match st with
    | .int y :: .long x :: st' => some (L, .long (x.toUInt64 >>> (y.toInt64.toUInt64 &&& Int64.toUInt64 63)).toInt64 :: st')
    | _ => none
  | .l2i => match st with
    | .long x :: st' => some (L, .int x.toInt32 :: st')
    | _ => none
  | .i2l => match st with
    | .int x :: st' => some (L, .long x.toInt64 :: st')
    | _ => none
  | .lcmp => match st with
    | .long y :: .long x :: st' => some (L, .int (lg_cmp x y) :: st')
    | _ => none
  | .dup => match st with
    | v :: st' => bif Nat.beq v.category 1 then some (L, v :: v :: st') else none
    | _ => none
  | .dup2 => match st with
    | a :: b :: st' => bif Nat.beq a.category 1 && Nat.beq b.category 1 then some (L, a :: b :: a :: b :: st') else none
    | _ => none
  | .pop => match st with
    | v :: st' => bif Nat.beq v.category 1 then some (L, st') else none
    | _ => none
  | _ => none
/-- the lengths of the instructions that go on behind themselves -/
def e_len : Instr → Nat
  | .bipush _ | .iload _ | .aload _ | .lload _ | .istore _ | .astore _ | .lstore _ | .ldc _ | .newarray _ => 2
  | .sipush _ | .ldc2_w _ | .iinc _ _ | .goto _ | .if_icmp _ _ | .ifCond _ _ | .ifnull _ | .getfield _ | .putfield _ | .invokestatic _ | .invokevirtual _ | .invokespecial _ | .new _ | .anewarray _ => 3
  | _ => 1
/-- what constants an instruction means -/
def e_swOk (i : Instr) (sw : List (Int32 × Nat)) : Bool :=
  match i with
  | .iconst n => match sw with
    | [(v, _)] => decide (Int32.ofInt n = v)
    | _ => false
  | .bipush n => match sw with
    | [(v, _)] => decide ((Int8.ofInt n).toInt32 = v)
    | _ => false
  | .sipush n => match sw with
    | [(v, _)] => decide ((Int16.ofInt n).toInt32 = v)
    | _ => false
  | .iinc _ n => match sw with
    | [(v, _)] => decide (Int32.ofInt n = v)
    | _ => false
  | _ => true
def e_link (y r1 x : Nat) (nest : Bool) : Cond := bif nest then .methodLinkNest (mNm y).cls x (mNm r1) "PuppetTurns" else .methodLink (mNm y).cls x (mNm r1)
/-- the tables' words that an instruction needs -/
def e_need (y : Nat) (i : Instr) (r1 r2 : Nat) (nest : Bool) (sw : List (Int32 × Nat)) : List Cond :=
  match i with
  | .getfield x | .putfield x => [bif nest then .fieldLinkNest (mNm y).cls x ((e_ct r1).2.1 r2).1 ((e_ct r1).2.1 r2).2.1 ((e_ct r1).2.1 r2).2.2.1 "PuppetTurns" else .fieldLink (mNm y).cls x ((e_ct r1).2.1 r2).1 ((e_ct r1).2.1 r2).2.1 ((e_ct r1).2.1 r2).2.2.1]
  | .invokestatic x => bif Nat.beq r1 1001 then [.methodLink (mNm y).cls x arraycopyName, .native arraycopyName, .static arraycopyName, .initialized "java/lang/System"] else [e_link y r1 x nest, .initialized (mNm r1).cls, .code (mNm r1) (mBy r1) (mML r1) (mRet r1), .static (mNm r1)]
  | .invokevirtual x => [e_link y r1 x nest, .initialized (mNm r1).cls, .code (mNm r1) (mBy r1) (mML r1) (mRet r1), .instanceMethod (mNm r1), .selects (mNm r1).cls (mNm r1) (mNm r1)]
  | .invokespecial x => bif Nat.beq r1 1000 then [.methodLink (mNm y).cls x objectInit, .instanceMethod objectInit, .code objectInit ⟨#[0xb1]⟩ 1 none] else [e_link y r1 x nest, .initialized (mNm r1).cls, .code (mNm r1) (mBy r1) (mML r1) (mRet r1), .instanceMethod (mNm r1)]
  | .new x => [.classLink (mNm y).cls x (e_ct r1).1, .instantiable (e_ct r1).1 (e_ct r1).2.2.1, .initialized (e_ct r1).1]
  | .newarray _ => [.arrayClass .int]
  | .anewarray x => [.classLink (mNm y).cls x "PuppetTurns$Scene", .arrayOver (.object "PuppetTurns$Scene")]
  | .ldc x => match sw with
    | [(v, _)] => [.constant (mNm y).cls x v]
    | _ => []
  | .ldc2_w x => [.constantLong (mNm y).cls x (Int64.ofNat r1)]
  | _ => []
def e_callOk (y r1 n : Nat) : Bool :=
  decide ((mNm r1).cls ≠ "java/lang/invoke/MethodHandle") && decide ((mNm r1).cls ≠ "java/lang/invoke/VarHandle") && decide ((parseMethodDescriptor (mNm r1).desc).map (fun d => d.parameters.length) = some n)
    && Nat.ble ((mRm r1).frames + 1) (mRm y).frames && Nat.ble (8 + (mML r1 + 11) + (mRm r1).locals) (mRm y).locals && Nat.blt (mCi r1) 1000
def e_swT (pc : Nat) (lo hi : Int) (offs : Array Int) (sw : List (Int32 × Nat)) : Bool :=
  sw.all (fun q => decide (¬ q.1.toInt < lo) && decide (¬ hi < q.1.toInt) && decide (offs[(q.1.toInt - lo).toNat]? = some ((q.2 : Int) - pc)))
    && (List.range (hi + 1 - lo).toNat).all (fun j => sw.any (fun q => decide (q.1.toInt = lo + j)))
def e_swL (pc : Nat) (dflt : Int) (ps : Array (Int × Int)) (sw : List (Int32 × Nat)) : Bool :=
  sw.all (fun q => decide (Op.lookupswitch.offset ps.toList dflt q.1.toInt = (q.2 : Int) - pc)) && ps.toList.all (fun a => sw.any (fun q => decide (q.1.toInt = a.1)))
    && (ps.toList.zip (ps.toList.drop 1)).all (fun (a, next) => a.1 < next.1)
/-- what else must hold of an instruction: a program decides it -/
def e_okB (y pc : Nat) (o : XO) : Bool :=
  decide (decode (mBy y) pc = .ok (o.1, o.2.1)) && e_swOk o.1 o.2.2.2.2.2.2 &&
  match o with
  | (i, len, r1, r2, nest, _, sw) => match i with
    | .tableswitch dflt lo hi offs => decide ((pc : Int) + dflt = (r1 : Int)) && e_swT pc lo hi offs sw
    | .lookupswitch dflt ps => decide ((pc : Int) + dflt = (r1 : Int)) && e_swL pc dflt ps sw
    | .goto off => Nat.beq len 3 && decide ((pc : Int) + off = (r1 : Int))
    | .if_icmp _ off => Nat.beq len 3 && decide ((pc : Int) + off = (r1 : Int))
    | .ifCond _ off => Nat.beq len 3 && decide ((pc : Int) + off = (r1 : Int))
    | .getfield _ => Nat.beq len 3 && (Nat.blt r1 12 && Nat.blt r2 (e_ct r1).2.2.1)
    | .putfield _ => Nat.beq len 3 && (Nat.blt r1 12 && Nat.blt r2 (e_ct r1).2.2.1 && decide (((e_ct r1).2.1 r2).2.2.2 = false ∨ ((mNm y).name = "<init>" ∧ ((e_ct r1).2.1 r2).1 = (mNm y).cls ∧ nest = false)))
    | .invokestatic _ => Nat.beq len 3 && (bif Nat.beq r1 1001 then (Nat.ble 1 (mRm y).frames && Nat.ble (8 + (nativeFrameWords "java/lang/System" "arraycopy" 5 + 11)) (mRm y).locals && !nest) else e_callOk y r1 r2)
    | .invokevirtual _ => Nat.beq len 3 && (e_callOk y r1 r2 && Nat.blt (mCi r1) 12 && decide ((e_ct (mCi r1)).1 = (mNm r1).cls))
    | .invokespecial _ => Nat.beq len 3 && (bif Nat.beq r1 1000 then (Nat.ble 1 (mRm y).frames && Nat.ble 20 (mRm y).locals && !nest) else (e_callOk y r1 r2 && decide ((mNm r1).name = "<init>") && decide (mRet r1 = none)))
    | .new _ => Nat.beq len 3 && Nat.blt r1 12
    | i => Nat.beq len (e_len i)
/-! the tables' words stay true -/
def e_wmB (w : Cond) : Bool := goodWord w || match w with
  | .fieldLinkNest _ _ _ _ _ _ => true
  | .methodLinkNest _ _ _ _ => true
  | .arrayOver (.object _) => true
  | _ => false
/-- the words that a method may take along -/
def e_WS : List Cond := lw_tbl.filter e_wmB
def OkM (y : Nat) : Prop := ∀ q ∈ mOps y, (e_okB y q.1 q.2 && (e_need y q.2.1 q.2.2.2.1 q.2.2.2.2.1 q.2.2.2.2.2.1 q.2.2.2.2.2.2.2).all e_wmB && decide (e_need y q.2.1 q.2.2.2.1 q.2.2.2.2.1 q.2.2.2.2.2.1 q.2.2.2.2.2.2.2 = q.2.2.2.2.2.2.1.filterMap (fun i => lw_tbl[i]?))) = true
theorem okm_of {y : Nat} (h : (mOps y).all (fun q => e_okB y q.1 q.2 && (e_need y q.2.1 q.2.2.2.1 q.2.2.2.2.1 q.2.2.2.2.2.1 q.2.2.2.2.2.2.2).all e_wmB && decide (e_need y q.2.1 q.2.2.2.1 q.2.2.2.2.1 q.2.2.2.2.2.1 q.2.2.2.2.2.2.2 = q.2.2.2.2.2.2.1.filterMap (fun i => lw_tbl[i]?))) = true) : OkM y := List.all_eq_true.mp h
theorem okm_at {y pc : Nat} {i : Instr} {len r1 r2 : Nat} {nest : Bool} {hh : List Nat} {sw : List (Int32 × Nat)} (h : OkM y) (ho : e_op y pc = some (i, len, r1, r2, nest, hh, sw)) :
    e_okB y pc (i, len, r1, r2, nest, hh, sw) = true ∧ ∀ w ∈ e_need y i r1 r2 nest sw, w ∈ e_WS := by
  have h1 := h _ (e_find_mem ho)
  rw [Bool.and_eq_true, Bool.and_eq_true] at h1
  refine ⟨h1.1.1, fun w hw => ?_⟩
  have h2 := of_decide_eq_true h1.2
  dsimp only at h2
  have h3 := List.all_eq_true.mp h1.1.2 w hw
  refine List.mem_filter.mpr ⟨?_, h3⟩
  rw [h2] at hw
  obtain ⟨j, -, hj⟩ := List.mem_filterMap.mp hw
  exact List.mem_of_getElem? hj
theorem okb_dec {y pc : Nat} {o : XO} (h : e_okB y pc o = true) : decode (mBy y) pc = .ok (o.1, o.2.1) ∧ e_swOk o.1 o.2.2.2.2.2.2 = true := by
  unfold e_okB at h
  simp only [Bool.and_eq_true] at h
  exact ⟨of_decide_eq_true h.1.1, h.1.2⟩
end
section
section EPURE
variable {p : Program} {l : Launch} {e : Env} {R : Room} {s : State} {m : MethodId} {args : Array Value} {below : List Frame} {meth : Method} {c : Code} {H : Heap} {locs : List Loc} {cells slots : Nat} {Z : State → Prop}
set_option maxHeartbeats 4000000 in
theorem e_pure_ok {y b pc nL r1 : Nat} {x0 : Option Nat} {i : Instr} {sw : List (Int32 × Nat)} {L L' : List (Option Value)} {st st' : List Value} {ls : Array Slot} (hx : p.tables.exec = Jvm.exec) (hb : c.code = mBy y) (hown : s.vm.findClass (mNm y).cls = some m.cls)
    (hsw : e_swOk i sw = true) (hw : ∀ w ∈ e_need y i r1 0 false sw, w.before args s = true) (hdg : decode (mBy y) pc = .ok (i, e_len i)) (hL : e_LH b x0 ls nL L) (h : e_pure i sw r1 L st = some (L', st'))
    (kk : ∀ ls', e_LH b x0 ls' nL L' → W p l e R s m args below meth c H locs cells slots Z (F0 m (pc + e_len i) ls' (st'.map (e_v b)))) :
    W p l e R s m args below meth c H locs cells slots Z (F0 m pc ls (st.map (e_v b))) := by
  unfold e_pure at h
  split at h
  -- iconst
  · split at h
    · cases h
      simp only [e_swOk] at hsw
      exact lv_iconst hx hb hdg (of_decide_eq_true hsw) (kk ls hL)
    · cases h
  -- bipush
  · split at h
    · cases h
      simp only [e_swOk] at hsw
      exact lv_bipush hx hb hdg (of_decide_eq_true hsw) (kk ls hL)
    · cases h
  -- sipush
  · split at h
    · cases h
      simp only [e_swOk] at hsw
      exact lv_sipush hx hb hdg (of_decide_eq_true hsw) (kk ls hL)
    · cases h
  -- ldc
  · split at h
    · cases h
      exact lv_ldc hx hb hown (hw _ (by simp [e_need])) hdg (kk ls hL)
    · cases h
  -- lconst
  · cases h
    exact lv_lconst hx hb hdg rfl (kk ls hL)
  -- ldc2
  · cases h
    exact lv_ldc2 hx hb hown (hw _ (by simp [e_need])) hdg (kk ls hL)
  -- iload
  · split at h
    · next x hg => cases h; exact lv_iload hx hb hdg (e_LH_get hL hg) (kk ls hL)
    · cases h
  · split at h
    · next x hg => cases h; exact lv_iload_n hx hb hdg rfl (e_LH_get hL hg) (kk ls hL)
    · cases h
  · split at h
    · next x hg => cases h; exact lv_aload hx hb hdg (e_LH_get hL hg) (kk ls hL)
    · cases h
  · split at h
    · next x hg => cases h; exact lv_aload_n hx hb hdg rfl (e_LH_get hL hg) (kk ls hL)
    · cases h
  · split at h
    · next x hg => cases h; exact lv_lload hx hb hdg (e_LH_get hL hg) (kk ls hL)
    · cases h
  · split at h
    · next x hg => cases h; exact lv_lload_n hx hb hdg rfl (e_LH_get hL hg) (kk ls hL)
    · cases h
  -- stores
  · split at h
    · obtain ⟨L1, h1, h2⟩ := Option.map_eq_some_iff.mp h
      cases h2
      obtain ⟨hk, lv, hl, h3⟩ := e_LH_st1 hL h1
      exact lv_istore hx hb hdg hl hk rfl (fun ls' h' => kk ls' (h3 ls' h'))
    · cases h
  · split at h
    · obtain ⟨L1, h1, h2⟩ := Option.map_eq_some_iff.mp h
      cases h2
      obtain ⟨hk, lv, hl, h3⟩ := e_LH_st1 hL h1
      exact lv_istore_n hx hb hdg rfl hl hk rfl (fun ls' h' => kk ls' (h3 ls' h'))
    · cases h
  · split at h
    · obtain ⟨L1, h1, h2⟩ := Option.map_eq_some_iff.mp h
      cases h2
      obtain ⟨hk, lv, hl, h3⟩ := e_LH_st1 hL h1
      exact lv_astore_n hx hb hdg rfl hl hk rfl (fun ls' h' => kk ls' (h3 ls' h'))
    · cases h
  · split at h
    · obtain ⟨L1, h1, h2⟩ := Option.map_eq_some_iff.mp h
      cases h2
      obtain ⟨hk, lv, hl, h3⟩ := e_LH_st1 hL h1
      exact lv_astore hx hb hdg hl hk rfl (fun ls' h' => kk ls' (h3 ls' h'))
    · cases h
  · split at h
    · obtain ⟨L1, h1, h2⟩ := Option.map_eq_some_iff.mp h
      cases h2
      obtain ⟨hk, lv, hl, h3⟩ := e_LH_st2 hL h1
      exact lv_lstore hx hb hdg hl hk rfl (fun ls' h' => kk ls' (h3 ls' h'))
    · cases h
  · split at h
    · obtain ⟨L1, h1, h2⟩ := Option.map_eq_some_iff.mp h
      cases h2
      obtain ⟨hk, lv, hl, h3⟩ := e_LH_st2 hL h1
      exact lv_lstore_n hx hb hdg rfl hl hk rfl (fun ls' h' => kk ls' (h3 ls' h'))
    · cases h
  -- iinc
  · split at h
    · split at h
      · next k n _ v _ _ x hg =>
        obtain ⟨L1, h1, h2⟩ := Option.map_eq_some_iff.mp h
        cases h2
        simp only [e_swOk] at hsw
        have hv := of_decide_eq_true hsw
        obtain ⟨hk, lv, hl, h3⟩ := e_LH_st1 hL h1
        obtain ⟨hn, l0, hl0, hm0⟩ := hL
        have hgm := hm0 _ _ hg
        obtain ⟨q, hq⟩ := List.getElem?_of_mem hgm
        have hboth : lv_has ls nL (lv ++ l0) := ⟨hl.1, hl.2.1, fun z hz => (List.mem_append.mp hz).elim (hl.2.2 z) (hl0.2.2 z)⟩
        refine lv_iinc (k := lv.length + q) (v := x + v) hx hb hdg hboth (by rw [List.getElem?_append_right (by omega), Nat.add_sub_cancel_left]; exact hq) (by rw [hv]) hk rfl (fun ls' h' => kk ls' (h3 ls' ⟨h'.1, h'.2.1, fun z hz => h'.2.2 z ?_⟩))
        rcases List.mem_cons.mp hz with h4 | h4
        · rw [h4]; exact List.mem_cons_self
        · obtain ⟨h5, h6⟩ := List.mem_filter.mp h4
          exact List.mem_cons_of_mem _ (List.mem_filter.mpr ⟨List.mem_append_left _ h5, h6⟩)
      · cases h
    · cases h
  -- arithmetic
  · split at h
    · cases h; exact lv_iadd hx hb hdg (kk ls hL)
    · cases h
  · split at h
    · cases h; exact lv_isub hx hb hdg (kk ls hL)
    · cases h
  · split at h
    · cases h; exact lv_imul hx hb hdg (kk ls hL)
    · cases h
  · split at h
    · cases h; exact lv_iand hx hb hdg (kk ls hL)
    · cases h
  · split at h
    · cases h; exact lv_ior hx hb hdg (kk ls hL)
    · cases h
  · split at h
    · cases h; exact lv_ineg hx hb hdg (kk ls hL)
    · cases h
  · split at h
    · cases h; exact lv_ishl hx hb hdg (kk ls hL)
    · cases h
  · split at h
    · cases h; exact lv_ishr hx hb hdg (kk ls hL)
    · cases h
  · split at h
    · cases h; exact lv_ladd hx hb hdg (kk ls hL)
    · cases h
  · split at h
    · cases h; exact lv_lsub hx hb hdg (kk ls hL)
    · cases h
  · split at h
    · cases h; exact lv_lmul hx hb hdg (kk ls hL)
    · cases h
  · split at h
    · cases h; exact lv_land hx hb hdg (kk ls hL)
    · cases h
  · split at h
    · cases h; exact lv_lor hx hb hdg (kk ls hL)
    · cases h
  · split at h
    · cases h; exact lv_lshl hx hb hdg rfl (kk ls hL)
    · cases h
  · split at h
    · cases h; exact lv_lushr hx hb hdg rfl (kk ls hL)
    · cases h
  · split at h
    · cases h; exact lv_l2i hx hb hdg rfl (kk ls hL)
    · cases h
  · split at h
    · cases h; exact lv_i2l hx hb hdg rfl (kk ls hL)
    · cases h
  · split at h
    · cases h; exact W.lcmp hx hb hdg (kk ls hL)
    · cases h
  -- dup
  · split at h
    · next v st1 =>
      cases hc : Nat.beq v.category 1 with
      | false => rw [hc] at h; cases h
      | true =>
        rw [hc] at h
        cases h
        have := Nat.eq_of_beq_eq_true hc
        exact lv_dup hx hb hdg (by rw [e_v_cat]; exact this) (kk ls hL)
    · cases h
  · split at h
    · next a b1 st1 =>
      cases hc : (Nat.beq a.category 1 && Nat.beq b1.category 1) with
      | false => rw [hc] at h; cases h
      | true =>
        rw [hc] at h
        cases h
        rw [Bool.and_eq_true] at hc
        have h1 := Nat.eq_of_beq_eq_true hc.1
        have h2 := Nat.eq_of_beq_eq_true hc.2
        exact lv_dup2_11 hx hb hdg (by rw [e_v_cat]; exact h1) (by rw [e_v_cat]; exact h2) (kk ls hL)
    · cases h
  · split at h
    · next v st1 =>
      cases hc : Nat.beq v.category 1 with
      | false => rw [hc] at h; cases h
      | true =>
        rw [hc] at h
        cases h
        have := Nat.eq_of_beq_eq_true hc
        exact lv_pop hx hb hdg (by rw [e_v_cat]; exact this) (kk ls hL)
    · cases h
  · cases h
end EPURE
end
section
/-! objects by number: what is read and written -/
def g_get (σ : Sg) (o c k : Nat) : Option Value := bif Nat.blt o σ.1.1 && Nat.beq (σ.1.2 o).1 c then some (bif e_isI (e_fty c k) then .int (σ.2.2.1 o k) else va_rf (σ.2.1 o k)) else none
def g_put (σ : Sg) (o c k : Nat) (v : Value) : Option Sg := bif Nat.blt o σ.1.1 && Nat.beq (σ.1.2 o).1 c then (match v with
  | .int x => bif e_isI (e_fty c k) then some (σ.1, σ.2.1, u2 σ.2.2.1 o k x, σ.2.2.2) else none
  | .ref j => bif e_isI (e_fty c k) then none else some (σ.1, u2 σ.2.1 o k (some j), σ.2.2)
  | _ => none) else none
def g_len (σ : Sg) (a : Nat) : Option Nat := bif Nat.blt a σ.1.1 && (Nat.beq (σ.1.2 a).1 100 && Nat.blt (σ.1.2 a).2 2147483648) then some (σ.1.2 a).2 else none
def g_wr (σ : Sg) (a : Nat) (f : Nat → Int32) : Sg := (σ.1, σ.2.1, σ.2.2.1, u1 σ.2.2.2 a f)
def g_rget (σ : Sg) (a j : Nat) : Option Value := bif Nat.blt a σ.1.1 && (Nat.beq (σ.1.2 a).1 101 && (Nat.blt j (σ.1.2 a).2 && Nat.blt (σ.1.2 a).2 2147483648)) then some (va_rf (σ.2.1 a j)) else none
def g_rlen (σ : Sg) (a : Nat) : Option Nat := bif Nat.blt a σ.1.1 && Nat.beq (σ.1.2 a).1 101 then some (σ.1.2 a).2 else none
def g_rput (σ : Sg) (a j : Nat) (v : Value) : Option Sg := bif Nat.blt a σ.1.1 && (Nat.beq (σ.1.2 a).1 101 && (Nat.blt j (σ.1.2 a).2 && Nat.blt (σ.1.2 a).2 2147483648)) then (match v with
  | .ref o => bif Nat.blt o σ.1.1 && Nat.beq (σ.1.2 o).1 5 then some (σ.1, u2 σ.2.1 a j (some o), σ.2.2) else none
  | _ => none) else none
def g_new (σ : Sg) (c : Nat) : Option (Nat × Sg) := bif Nat.blt c 12 then some (σ.1.1, ((σ.1.1 + 1, u1 σ.1.2 σ.1.1 (c, 0)), u1 σ.2.1 σ.1.1 (fun _ => none), u1 σ.2.2.1 σ.1.1 (fun _ => 0), σ.2.2.2)) else none
def g_newI (σ : Sg) (n : Nat) : Option (Nat × Sg) := some (σ.1.1, ((σ.1.1 + 1, u1 σ.1.2 σ.1.1 (100, n)), σ.2.1, σ.2.2.1, u1 σ.2.2.2 σ.1.1 (fun _ => 0)))
def g_newR (σ : Sg) (n : Nat) : Option (Nat × Sg) := some (σ.1.1, ((σ.1.1 + 1, u1 σ.1.2 σ.1.1 (101, n)), u1 σ.2.1 σ.1.1 (fun _ => none), σ.2.2.1, σ.2.2.2))
/-! another face of the same: how it is held, and its reads and writes -/
abbrev e_IT (η : Type) : Type := (η → Sg) × (η → Nat → Nat → Nat → Option Value) × (η → Nat → Nat → Nat → Value → Option η) × (η → Nat → Option Nat) × (η → Nat → Nat → Int32) × (η → Nat → (Nat → Int32) → η) × (η → Nat → Nat → Option Value) × (η → Nat → Nat → Value → Option η) × (η → Nat → Option (Nat × η)) × (η → Nat → Option (Nat × η)) × (η → Nat → Option (Nat × η))
def e_IOk {η : Type} (I : e_IT η) : Prop :=
  (∀ h o c k v, I.2.1 h o c k = some v → g_get (I.1 h) o c k = some v) ∧
  (∀ h o c k v h', I.2.2.1 h o c k v = some h' → g_put (I.1 h) o c k v = some (I.1 h')) ∧
  (∀ h a n, I.2.2.2.1 h a = some n → g_len (I.1 h) a = some n) ∧
  (∀ h a j, (I.1 h).2.2.2 a j = I.2.2.2.2.1 h a j) ∧
  (∀ h a f, I.1 (I.2.2.2.2.2.1 h a f) = g_wr (I.1 h) a f) ∧
  (∀ h a j v, I.2.2.2.2.2.2.1 h a j = some v → g_rget (I.1 h) a j = some v) ∧
  (∀ h a j v h', I.2.2.2.2.2.2.2.1 h a j v = some h' → g_rput (I.1 h) a j v = some (I.1 h')) ∧
  (∀ h c r, I.2.2.2.2.2.2.2.2.1 h c = some r → g_new (I.1 h) c = some (r.1, I.1 r.2)) ∧
  (∀ h c r, I.2.2.2.2.2.2.2.2.2.1 h c = some r → g_newI (I.1 h) c = some (r.1, I.1 r.2)) ∧
  (∀ h c r, I.2.2.2.2.2.2.2.2.2.2 h c = some r → g_newR (I.1 h) c = some (r.1, I.1 r.2))
/-- the general face -/
def e_IG : e_IT Sg := (id, g_get, g_put, g_len, fun σ a j => σ.2.2.2 a j, g_wr, g_rget, g_rput, g_new, g_newI, g_newR)
theorem e_IG_ok : e_IOk e_IG := by
  refine ⟨fun _ _ _ _ _ h => h, fun _ _ _ _ _ _ h => h, fun _ _ _ h => h, fun _ _ _ => rfl, fun _ _ _ => rfl, fun _ _ _ _ h => h, fun _ _ _ _ _ h => h, ?_, ?_, ?_⟩
  · intro h c r hr; exact hr
  · intro h c r hr; exact hr
  · intro h c r hr; exact hr
/-! what a method's contract says -/
def mWs (y : Nat) : List Cond := Cond.code (mNm y) (mBy y) (mML y) (mRet y) :: e_WS
def e_Pc (D : va_G) (b : Nat) (cI cS : ClassId) (H0 : Heap) (σ : Sg) (as : List Value) : Array Value → State → Prop := va_Pc (as.map (e_v b)) (fun U => e_Sim D b cI cS H0 σ U.heap ∧ va_K D e_cls (e_tys cI cS) U)
def e_Qc (D : va_G) (b : Nat) (cI cS : ClassId) (H0 : Heap) (Q : Option Value → Sg → Prop) : Array Value → State → Outcome → State → Prop := fun _ _ oc t => ∃ (r : Option Value) (σ : Sg), oc = .returned (r.map (e_v b)) ∧ Q r σ ∧ e_Sim D b cI cS H0 σ t.heap
def e_Call (y : Nat) (as : List Value) (σ : Sg) (Q : Option Value → Sg → Prop) : Prop :=
  ∀ (l : Launch) (D : va_G) (b : Nat) (cI cS : ClassId) (H0 : Heap), Met l (mNm y) (mWs y) (mRm y) (e_Pc D b cI cS H0 σ as) (e_Qc D b cI cS H0 Q) (mRm y).cells (mRm y).slots (fun q => b ≤ q)
def e_CallI {η : Type} (I : e_IT η) (y : Nat) (as : List Value) (h : η) (Q : Option Value → η → Prop) : Prop := e_Call y as (I.1 h) (fun r σ => ∃ h', σ = I.1 h' ∧ Q r h')
def e_rI : Option Value → Instr
  | none => .return_
  | some (.int _) => .ireturn
  | some (.long _) => .lreturn
  | some _ => .areturn
def e_rOk : Option FieldType → Option Value → Prop
  | none, none => True
  | some .int, some (.int _) => True
  | some .boolean, some (.int v) => v = 0 ∨ v = 1
  | some .long, some (.long _) => True
  | some (.object _), some (.ref _) => True
  | _, _ => False
def e_Ret (p : Program) (l : Launch) (e : Env) (R : Room) (s : State) (m : MethodId) (args : Array Value) (below : List Frame) (meth : Method) (c : Code) (D : va_G) (b : Nat) (cI cS : ClassId) (H0 : Heap) (Z : State → Prop) (y : Nat) (Q : Option Value → Sg → Prop) : Prop :=
  ∀ (r : Option Value) (σ : Sg) (H : Heap) (locs : List Loc) (cells slots pc : Nat) (ls : Array Slot), Q r σ → e_Sim D b cI cS H0 σ H → (∀ q ∈ locs, b ≤ q.base) → cells ≤ R.cells → slots ≤ R.slots → decode (mBy y) pc = .ok (e_rI r, 1) → e_rOk (mRet y) r → W p l e R s m args below meth c H locs cells slots Z (F0 m pc ls (r.toList.map (e_v b)))
/-- the law's script, as it lies -/
def e_Scr (b : Nat) (H0 : Heap) (s : State) (args : Array Value) : Prop := ∃ (sA n : Nat) (xs : Nat → Int32), args = #[.ref sA] ∧ sA < b ∧ n ≤ 260 ∧ va_X sA n xs s H0
def e_x0 (y : Nat) (args : Array Value) : Option Nat := bif Nat.beq y y_L_law then (match (args[0]? : Option Value) with
  | some (.ref a) => some a
  | _ => none) else none
theorem e_x0_no {y : Nat} {args : Array Value} (h : Nat.beq y y_L_law = false) : e_x0 y args = none := by unfold e_x0; rw [h]; rfl
def e_Cx (p : Program) (l : Launch) (e : Env) (R : Room) (s : State) (m : MethodId) (args : Array Value) (below : List Frame) (meth : Method) (c : Code) (D : va_G) (b : Nat) (cI cS : ClassId) (H0 : Heap) (Z : State → Prop) (y : Nat) (Q : Option Value → Sg → Prop) : Prop :=
  p.tables.exec = Jvm.exec ∧ c.code = mBy y ∧ c.maxLocals = mML y ∧ s.vm.findClass (mNm y).cls = some m.cls ∧ (∀ w ∈ e_WS, w.before args s = true) ∧ va_K D e_cls (e_tys cI cS) s ∧ (mRm y).frames ≤ R.frames ∧ (mRm y).locals ≤ R.locals ∧ meth.name = (mNm y).name ∧ e_Ret p l e R s m args below meth c D b cI cS H0 Z y Q ∧ (Nat.beq y y_L_law = true → e_Scr b H0 s args)
def e_Run (y pc : Nat) (L : List (Option Value)) (st : List Value) (B : Nat × Nat) (σ : Sg) (Q : Option Value → Sg → Prop) : Prop :=
  ∀ (p : Program) (l : Launch) (e : Env) (R : Room) (s : State) (m : MethodId) (args : Array Value) (below : List Frame) (meth : Method) (c : Code) (D : va_G) (b : Nat) (cI cS : ClassId) (H0 : Heap) (Z : State → Prop), e_Cx p l e R s m args below meth c D b cI cS H0 Z y Q →
    ∀ (H : Heap) (locs : List Loc) (cells slots : Nat) (ls : Array Slot), e_Sim D b cI cS H0 σ H → (∀ q ∈ locs, b ≤ q.base) → cells + B.1 ≤ R.cells → slots + B.2 ≤ R.slots → e_LH b (e_x0 y args) ls (mML y) L →
      W p l e R s m args below meth c H locs cells slots Z (F0 m pc ls (st.map (e_v b)))
def e_RunI {η : Type} (I : e_IT η) (y pc : Nat) (L : List (Option Value)) (st : List Value) (B : Nat × Nat) (h : η) (Q : Option Value → η → Prop) : Prop := e_Run y pc L st B (I.1 h) (fun r σ => ∃ h', σ = I.1 h' ∧ Q r h')
/-! weakest preconditions, by computation -/
def e_cat : List Value → Nat
  | [] => 0
  | v :: r => v.category + e_cat r
def e_sw : List (Int32 × Nat) → Nat → Int32 → (Nat → Prop) → Prop
  | [], d, _, k => k d
  | (v, t) :: r, d, x, k => if x = v then k t else e_sw r d x k
def e_isO (σ : Sg) (ci : Nat) : List Value → Nat → Bool
  | .ref o :: _, 0 => Nat.blt o σ.1.1 && Nat.beq (σ.1.2 o).1 ci
  | _ :: r, n + 1 => e_isO σ ci r n
  | _, _ => false
def e_isP {η : Type} (I : e_IT η) (h : η) (ci : Nat) : List Value → Nat → Bool
  | .ref o :: _, 0 => (I.2.1 h o ci 0).isSome
  | _ :: r, n + 1 => e_isP I h ci r n
  | _, _ => false
/-- r1: the method; n: how many values it takes from the stack; virt: the last of them is the object that it is called on -/
def e_call {η : Type} (I : e_IT η) (r1 n : Nat) (virt : Bool) (pc : Nat) (L : List (Option Value)) (st : List Value) (B : Nat × Nat) (h : η) (K : Nat → List (Option Value) → List Value → Nat × Nat → η → Prop) : Prop :=
  bif Nat.ble n st.length && (Nat.ble (e_cat (st.drop n)) 8 && (Nat.ble (mRm r1).cells B.1 && (Nat.ble (mRm r1).slots B.2 && (!virt || e_isP I h (mCi r1) st (n - 1)))))
  then (bif Nat.beq (mRm r1).cells 0 && Nat.beq (mRm r1).slots 0 then e_CallI I r1 (st.take n).reverse h (fun r h' => K (pc + 3) L (r.toList ++ st.drop n) B h') else e_CallI I r1 (st.take n).reverse h (fun r h' => K (pc + 3) L (r.toList ++ st.drop n) (B.1 - (mRm r1).cells, B.2 - (mRm r1).slots) h')) else False
/-- a list is worked out before one goes on with it -/
def e_force : List (Option Value) → (List (Option Value) → Prop) → Prop
  | [], K => K []
  | a :: r, K => e_force r (fun r' => K (a :: r'))
theorem e_force_eq : ∀ (L : List (Option Value)) (K : List (Option Value) → Prop), e_force L K = K L
  | [], _ => rfl
  | a :: r, K => e_force_eq r (fun r' => K (a :: r'))
def e_isSt : Instr → Bool
  | .istore _ | .istore_n _ | .astore _ | .astore_n _ | .lstore _ | .lstore_n _ | .iinc _ _ => true
  | _ => false
def e_cpy (f g : Nat → Int32) (n : Nat) : Nat → Int32 := fun k => if k < n then f k else g k
def e_k {η : Type} (I : e_IT η) (y : Nat) (i : Instr) (len r1 r2 : Nat) (sw : List (Int32 × Nat)) (pc : Nat) (L : List (Option Value)) (st : List Value) (B : Nat × Nat) (h : η) (Q : Option Value → η → Prop) (K : Nat → List (Option Value) → List Value → Nat × Nat → η → Prop) : Prop :=
  match i with
  | .goto _ => K r1 L st B h
  | .if_icmp .eq _ => match st with
    | .int b :: .int a :: st' => if a = b then K r1 L st' B h else K (pc + 3) L st' B h
    | _ => False
  | .if_icmp .ne _ => match st with
    | .int b :: .int a :: st' => if a = b then K (pc + 3) L st' B h else K r1 L st' B h
    | _ => False
  | .if_icmp .lt _ => match st with
    | .int b :: .int a :: st' => if a < b then K r1 L st' B h else K (pc + 3) L st' B h
    | _ => False
  | .if_icmp .ge _ => match st with
    | .int b :: .int a :: st' => if b ≤ a then K r1 L st' B h else K (pc + 3) L st' B h
    | _ => False
  | .if_icmp .gt _ => match st with
    | .int b :: .int a :: st' => if b < a then K r1 L st' B h else K (pc + 3) L st' B h
    | _ => False
  | .if_icmp .le _ => match st with
    | .int b :: .int a :: st' => if a ≤ b then K r1 L st' B h else K (pc + 3) L st' B h
    | _ => False
  | .ifCond .eq _ => match st with
    | .int a :: st' => if a = 0 then K r1 L st' B h else K (pc + 3) L st' B h
    | _ => False
  | .ifCond .ne _ => match st with
    | .int a :: st' => if a = 0 then K (pc + 3) L st' B h else K r1 L st' B h
    | _ => False
  | .ifCond .lt _ => match st with
    | .int a :: st' => if a < 0 then K r1 L st' B h else K (pc + 3) L st' B h
    | _ => False
  | .ifCond .ge _ => match st with
    | .int a :: st' => if 0 ≤ a then K r1 L st' B h else K (pc + 3) L st' B h
    | _ => False
  | .ifCond .gt _ => match st with
    | .int a :: st' => if 0 < a then K r1 L st' B h else K (pc + 3) L st' B h
    | _ => False
  | .ifCond .le _ => match st with
    | .int a :: st' => if a ≤ 0 then K r1 L st' B h else K (pc + 3) L st' B h
    | _ => False
  | .ifnull _ => match st with
    | .ref _ :: st' => K (pc + 3) L st' B h
    | _ => False
  | .tableswitch _ _ _ _ => match st with
    | .int x :: st' => e_sw sw r1 x (fun t => K t L st' B h)
    | _ => False
  | .lookupswitch _ _ => match st with
    | .int x :: st' => e_sw sw r1 x (fun t => K t L st' B h)
    | _ => False
  | .idiv => match st with
    | .int b :: .int a :: st' => ¬ b = 0 ∧ K (pc + 1) L (.int (a / b) :: st') B h
    | _ => False
  | .irem => match st with
    | .int b :: .int a :: st' => ¬ b = 0 ∧ K (pc + 1) L (.int (a - a / b * b) :: st') B h
    | _ => False
  | .getfield _ => match st with
    | .ref o :: st' => match I.2.1 h o r1 r2 with
      | some v => K (pc + 3) L (v :: st') B h
      | none => False
    | _ => False
  | .putfield _ => match st with
    | v :: .ref o :: st' => match I.2.2.1 h o r1 r2 v with
      | some h' => match e_fty r1 r2 with
        | .boolean => (v = .int 0 ∨ v = .int 1) ∧ K (pc + 3) L st' B h'
        | _ => K (pc + 3) L st' B h'
      | none => False
    | _ => False
  | .arraylength => match st with
    | .ref a :: st' => match I.2.2.2.1 h a with
      | some n => K (pc + 1) L (.int (nI n) :: st') B h
      | none => match I.2.2.2.2.2.2.1 h a 0 with
        | some _ => K (pc + 1) L (.int (nI ((I.1 h).1.2 a).2) :: st') B h
        | none => False
    | _ => False
  | .iaload => match st with
    | .int i :: .ref a :: st' => match I.2.2.2.1 h a with
      | some n => ∃ j : Nat, i = nI j ∧ j < n ∧ K (pc + 1) L (.int (I.2.2.2.2.1 h a j) :: st') B h
      | none => False
    | _ => False
  | .iastore => match st with
    | .int x :: .int i :: .ref a :: st' => match I.2.2.2.1 h a with
      | some n => ∃ j : Nat, i = nI j ∧ j < n ∧ K (pc + 1) L st' B (I.2.2.2.2.2.1 h a (u1 (I.2.2.2.2.1 h a) j x))
      | none => False
    | _ => False
  | .aaload => match st with
    | .int i :: .ref a :: st' => ∃ j : Nat, i = nI j ∧ (match I.2.2.2.2.2.2.1 h a j with
      | some v => K (pc + 1) L (v :: st') B h
      | none => False)
    | _ => False
  | .aastore => match st with
    | v :: .int i :: .ref a :: st' => ∃ j : Nat, i = nI j ∧ (match I.2.2.2.2.2.2.2.1 h a j v with
      | some h' => K (pc + 1) L st' B h'
      | none => False)
    | _ => False
  | .new _ => match I.2.2.2.2.2.2.2.2.1 h r1 with
    | some (o, h') => bif Nat.ble 1 B.1 && Nat.ble (e_ct r1).2.2.1 B.2 then K (pc + 3) L (.ref o :: st) (B.1 - 1, B.2 - (e_ct r1).2.2.1) h' else False
    | none => False
  | .newarray .int => match st with
    | .int i :: st' => ∃ n : Nat, i = nI n ∧ (match I.2.2.2.2.2.2.2.2.2.1 h n with
      | some (o, h') => bif Nat.ble 1 B.1 && (Nat.ble n B.2 && Nat.blt n 100000) then K (pc + 2) L (.ref o :: st') (B.1 - 1, B.2 - n) h' else False
      | none => False)
    | _ => False
  | .anewarray _ => match st with
    | .int i :: st' => ∃ n : Nat, i = nI n ∧ (match I.2.2.2.2.2.2.2.2.2.2 h n with
      | some (o, h') => bif Nat.ble 1 B.1 && (Nat.ble n B.2 && Nat.blt n 100000) then K (pc + 3) L (.ref o :: st') (B.1 - 1, B.2 - n) h' else False
      | none => False)
    | _ => False
  | .ireturn => match st with
    | [.int v] => match mRet y with
      | some .int => Q (some (.int v)) h
      | some .boolean => (v = 0 ∨ v = 1) ∧ Q (some (.int v)) h
      | _ => False
    | _ => False
  | .lreturn => match st with
    | [.long v] => match mRet y with
      | some .long => Q (some (.long v)) h
      | _ => False
    | _ => False
  | .areturn => match st with
    | [.ref v] => match mRet y with
      | some (.object _) => Q (some (.ref v)) h
      | _ => False
    | _ => False
  | .return_ => match st with
    | [] => match mRet y with
      | none => Q none h
      | _ => False
    | _ => False
  | .invokestatic _ => bif Nat.beq r1 1001 then (match st with
      | .int n :: .int dp :: .ref a :: .int sp :: .ref a0 :: st' => match I.2.2.2.1 h a, I.2.2.2.1 h a0 with
        | some n1, some n0 => ∃ j : Nat, n = nI j ∧ j ≤ n1 ∧ j ≤ n0 ∧ sp = 0 ∧ dp = 0 ∧ a ≠ a0 ∧ e_cat st' ≤ 8 ∧ K (pc + 3) L st' B (I.2.2.2.2.2.1 h a (e_cpy (I.2.2.2.2.1 h a0) (I.2.2.2.2.1 h a) j))
        | _, _ => False
      | _ => False) else e_call I r1 r2 false pc L st B h K
  | .invokevirtual _ => e_call I r1 (r2 + 1) true pc L st B h K
  | .invokespecial _ => bif Nat.beq r1 1000 then (match st with
      | .ref _ :: st' => bif Nat.ble (e_cat st') 8 then K (pc + 3) L st' B h else False
      | _ => False) else e_call I r1 (r2 + 1) true pc L st B h K
  | i => match e_pure i sw r1 L st with
    | some (L', st') => bif e_isSt i then e_force L' (fun L'' => K (pc + len) L'' st' B h) else K (pc + len) L' st' B h
    | none => False
def e_wp {η : Type} (I : e_IT η) (y : Nat) (Q : Option Value → η → Prop) : Nat → Nat → List (Option Value) → List Value → Nat × Nat → η → Prop
  | 0, pc, L, st, B, h => e_RunI I y pc L st B h Q
  | n + 1, pc, L, st, B, h => match e_op y pc with
    | some (i, len, r1, r2, _, _, sw) => e_k I y i len r1 r2 sw pc L st B h Q (e_wp I y Q n)
    | none => False
end
section
/-! the heap holds the numbered objects: reads and writes keep it so -/
theorem e_va_map (r : Option Nat) (b : Nat) : e_v b (va_rf r) = va_rf (r.map (fun j => b + j)) := by cases r <;> rfl
theorem e_ent_obj {b : Nat} {cI cS : ClassId} {σ : Sg} {o c : Nat} (h : (σ.1.2 o).1 = c) (hc : c < 12) : e_ent b cI cS σ o = .inr (c, e_fl b σ c o) := by
  unfold e_ent
  have h1 : Nat.beq (σ.1.2 o).1 100 = false := by rw [h]; exact Bool.eq_false_iff.mpr (fun z => by have := Nat.eq_of_beq_eq_true z; omega)
  have h2 : Nat.beq (σ.1.2 o).1 101 = false := by rw [h]; exact Bool.eq_false_iff.mpr (fun z => by have := Nat.eq_of_beq_eq_true z; omega)
  rw [h1, h2, h]
  rfl
theorem e_ent_int {b : Nat} {cI cS : ClassId} {σ : Sg} {o : Nat} (h : (σ.1.2 o).1 = 100) : e_ent b cI cS σ o = .inl (cI, (σ.1.2 o).2, .inl (σ.2.2.2 o)) := by
  unfold e_ent
  rw [h]
  rfl
theorem e_ent_ref {b : Nat} {cI cS : ClassId} {σ : Sg} {o : Nat} (h : (σ.1.2 o).1 = 101) : e_ent b cI cS σ o = .inl (cS, (σ.1.2 o).2, .inr (.inr (.inr (.inr (fun k => (σ.2.1 o k).map (fun j => b + j)))))) := by
  unfold e_ent
  rw [h]
  rfl
theorem e_ent_congr {b : Nat} {cI cS : ClassId} {σ σ' : Sg} {o : Nat} (h1 : σ'.1.2 o = σ.1.2 o) (h2 : σ'.2.1 o = σ.2.1 o) (h3 : σ'.2.2.1 o = σ.2.2.1 o) (h4 : σ'.2.2.2 o = σ.2.2.2 o) : e_ent b cI cS σ' o = e_ent b cI cS σ o := by
  have h5 : ∀ c, e_fl b σ' c o = e_fl b σ c o := fun c => by
    unfold e_fl
    congr 1
    funext k
    unfold e_fv
    rw [h2, h3]
  unfold e_ent
  rw [h1, h2, h4, h5]
theorem e_fl_len (b : Nat) (σ : Sg) (c o : Nat) : (e_fl b σ c o).length = (e_ct c).2.2.1 := by simp [e_fl]
theorem e_fl_at {b : Nat} {σ : Sg} {c o k : Nat} (h : k < (e_ct c).2.2.1) : (e_fl b σ c o)[k]? = some (e_fv b σ c o k) := by simp [e_fl, List.getElem?_map, List.getElem?_range h]
theorem e_fl_set {b : Nat} {σ σ' : Sg} {c o k : Nat} {w : Value} (h1 : e_fv b σ' c o k = w) (h2 : ∀ j, j ≠ k → e_fv b σ' c o j = e_fv b σ c o j) : e_fl b σ' c o = (e_fl b σ c o).set k w := by
  apply List.ext_getElem
  · simp [e_fl]
  · intro i g1 g2
    rw [List.getElem_set]
    split
    · next h => subst h; simp [e_fl, h1]
    · next h => simp [e_fl, h2 i (fun z => h z.symm)]
theorem sim_upd {D : va_G} {b : Nat} {cI cS : ClassId} {H0 H H' : Heap} {σ σ' : Sg} {o : Nat} (hS : e_Sim D b cI cS H0 σ H) (hN : σ'.1.1 = σ.1.1) (he : ∀ q, q ≠ o → e_ent b cI cS σ' q = e_ent b cI cS σ q) (z : H'.size = H.size) (oq : ∀ q : Nat, q ≠ b + o → H'[q]? = H[q]?) (ha : va_at D e_cls (b + o, e_ent b cI cS σ' o) H') : e_Sim D b cI cS H0 σ' H' := by
  obtain ⟨h1, h2, h3⟩ := hS
  refine ⟨by rw [z, h1, hN], fun q hq => by rw [oq q (by omega)]; exact h2 q hq, fun q hq => ?_⟩
  by_cases hqo : q = o
  · subst hqo
    exact ha
  · rw [he q hqo]
    exact (h3 q (by rw [← hN]; exact hq)).kept (oq _ (by omega))
theorem sim_new {D : va_G} {b : Nat} {cI cS : ClassId} {H0 H H' : Heap} {σ σ' : Sg} (hS : e_Sim D b cI cS H0 σ H) (hN : σ'.1.1 = σ.1.1 + 1) (he : ∀ q, q ≠ σ.1.1 → e_ent b cI cS σ' q = e_ent b cI cS σ q) (z : H'.size = H.size + 1) (oq : ∀ q : Nat, q < H.size → H'[q]? = H[q]?) (ha : va_at D e_cls (b + σ.1.1, e_ent b cI cS σ' σ.1.1) H') : e_Sim D b cI cS H0 σ' H' := by
  obtain ⟨h1, h2, h3⟩ := hS
  refine ⟨by rw [z, h1, hN]; omega, fun q hq => by rw [oq q (by omega)]; exact h2 q hq, fun q hq => ?_⟩
  by_cases hqo : q = σ.1.1
  · subst hqo
    exact ha
  · rw [he q hqo]
    exact (h3 q (by omega)).kept (oq _ (by omega))
theorem e_warm {w : Cond} (h : w ∈ e_WS) {s U : State} {a a' : Array Value} (hW : s.WarmedH U.vm) (hb : w.before a s = true) : w.before a' U = true := by
  have h1 := (List.mem_filter.mp h).2
  unfold e_wmB at h1
  rw [Bool.or_eq_true] at h1
  rcases h1 with h1 | h1
  · exact word_at hW (good_of_word h1) hb
  · split at h1
    · exact va_Nw.use rfl (va_Nw.warmF hW (va_Nw.of rfl hb))
    · exact va_Nw.use rfl (va_Nw.warmM hW (va_Nw.of rfl hb))
    · exact va_AO.use (va_AO.moved hW.alike (va_AO.of hb))
    · cases h1
set_option maxRecDepth 100000 in
theorem e_uws_all : (List.range 12).all (fun c => (u_ws (e_ct c).1 (e_ct c).2.1 (e_ct c).2.2.1).all (fun w => decide (w ∈ e_WS))) = true := by decide +kernel
theorem e_uws {c : Nat} (h : c < 12) : ∀ w ∈ u_ws (e_ct c).1 (e_ct c).2.1 (e_ct c).2.2.1, w ∈ e_WS := fun w hw => of_decide_eq_true (List.all_eq_true.mp (List.all_eq_true.mp e_uws_all c (List.mem_range.mpr h)) w hw)
theorem e_nm_all : ∀ c, c < 12 → ∀ a, a < (e_ct c).2.2.1 → ∀ b, b < (e_ct c).2.2.1 → a ≠ b → ((e_ct c).2.1 a).2.1 ≠ ((e_ct c).2.1 b).2.1 := by decide +kernel
theorem e_ty_all : ∀ c, c < 12 → ∀ k, k < (e_ct c).2.2.1 → parseFieldDescriptor ((e_ct c).2.1 k).2.2.1 = some (e_fty c k) := by decide +kernel
def e_isR : FieldType → Bool
  | .object _ => true
  | .array _ => true
  | _ => false
/-- the kinds of fields that there are -/
theorem e_kinds : ∀ c, c < 12 → ∀ k, k < (e_ct c).2.2.1 → e_fty c k = .int ∨ e_fty c k = .boolean ∨ e_isR (e_fty c k) = true := by decide +kernel
end
section
section EHEAP
variable {p : Program} {l : Launch} {e : Env} {R : Room} {s : State} {m : MethodId} {args : Array Value} {below : List Frame} {meth : Method} {c : Code} {H : Heap} {locs : List Loc} {cells slots : Nat} {Z : State → Prop}
variable {D : va_G} {b : Nat} {cI cS : ClassId} {H0 : Heap} {σ σ' : Sg} {y pc : Nat} {ls : Array Slot} {rest : List Value}
theorem g_get_spec {o k cc : Nat} {v : Value} (h : g_get σ o cc k = some v) : o < σ.1.1 ∧ (σ.1.2 o).1 = cc ∧ v = (bif e_isI (e_fty cc k) then .int (σ.2.2.1 o k) else va_rf (σ.2.1 o k)) := by
  unfold g_get at h
  cases hq : (Nat.blt o σ.1.1 && Nat.beq (σ.1.2 o).1 cc) with
  | false => rw [hq] at h; cases h
  | true =>
    rw [hq] at h
    rw [Bool.and_eq_true] at hq
    exact ⟨by simpa [Nat.blt_eq] using hq.1, Nat.eq_of_beq_eq_true hq.2, (Option.some.inj h).symm⟩
theorem e_fv_get {o k cc : Nat} : e_v b (bif e_isI (e_fty cc k) then .int (σ.2.2.1 o k) else va_rf (σ.2.1 o k)) = e_fv b σ cc o k := by
  unfold e_fv
  cases e_isI (e_fty cc k) with
  | true => rfl
  | false => exact e_va_map _ _
theorem sim_obj {o cc : Nat} (hS : e_Sim D b cI cS H0 σ H) (ho : o < σ.1.1) (hcl : (σ.1.2 o).1 = cc) (hc : cc < 12) : va_at D e_cls (b + o, .inr (cc, e_fl b σ cc o)) H := by
  have := hS.2.2 o ho
  rwa [e_ent_obj hcl hc] at this
theorem va_one {q : Nat × va_E} (h : va_at D e_cls q H) : va_P D e_cls [q] H := by
  intro k x hk
  cases k with
  | zero => cases hk; exact h
  | succ k => simp at hk
theorem e_getf_ok {o cc k idx : Nat} {nest : Bool} {v : Value} (hx : p.tables.exec = Jvm.exec) (hb : c.code = mBy y) (hown : s.vm.findClass (mNm y).cls = some m.cls) (hts : ∀ w ∈ e_WS, w.before args s = true) (hK : va_K D e_cls (e_tys cI cS) s) (hS : e_Sim D b cI cS H0 σ H) (hg : g_get σ o cc k = some v) (hc : cc < 12) (hk : k < (e_ct cc).2.2.1)
    (hw : (bif nest then Cond.fieldLinkNest (mNm y).cls idx ((e_ct cc).2.1 k).1 ((e_ct cc).2.1 k).2.1 ((e_ct cc).2.1 k).2.2.1 "PuppetTurns" else Cond.fieldLink (mNm y).cls idx ((e_ct cc).2.1 k).1 ((e_ct cc).2.1 k).2.1 ((e_ct cc).2.1 k).2.2.1) ∈ e_WS) (hdg : decode (mBy y) pc = .ok (.getfield idx, 3))
    (kk : W p l e R s m args below meth c H locs cells slots Z (F0 m (pc + 3) ls (e_v b v :: rest))) : W p l e R s m args below meth c H locs cells slots Z (F0 m pc ls (.ref (b + o) :: rest)) := by
  obtain ⟨ho, hcl, rfl⟩ := g_get_spec hg
  rw [e_fv_get] at kk
  have hP := va_one (sim_obj hS ho hcl hc)
  cases nest with
  | false => exact va_get (own := (mNm y).cls) (C := (e_ct cc).1) (T := (e_ct cc).2.1) (N := (e_ct cc).2.2.1) (Ts := e_WS) hx hb hts (e_uws hc) hown hK hP 0 rfl (e_cls_at hc) k hk (hts _ hw) (fun _ h => h) (e_fl_at hk) hdg kk
  | true => exact va_getN (own := (mNm y).cls) (host := "PuppetTurns") (C := (e_ct cc).1) (T := (e_ct cc).2.1) (N := (e_ct cc).2.2.1) (Ts := e_WS) hx hb hts (e_uws hc) hown hK hP 0 rfl (e_cls_at hc) k hk (hts _ hw) (fun _ h => h) (e_fl_at hk) hdg kk
theorem g_put_spec {o k cc : Nat} {v : Value} (h : g_put σ o cc k v = some σ') : o < σ.1.1 ∧ (σ.1.2 o).1 = cc ∧
    ((∃ x, v = .int x ∧ e_isI (e_fty cc k) = true ∧ σ' = (σ.1, σ.2.1, u2 σ.2.2.1 o k x, σ.2.2.2)) ∨ (∃ j, v = .ref j ∧ e_isI (e_fty cc k) = false ∧ σ' = (σ.1, u2 σ.2.1 o k (some j), σ.2.2))) := by
  unfold g_put at h
  cases hq : (Nat.blt o σ.1.1 && Nat.beq (σ.1.2 o).1 cc) with
  | false => rw [hq] at h; cases h
  | true =>
    rw [hq] at h
    rw [Bool.and_eq_true] at hq
    refine ⟨by simpa [Nat.blt_eq] using hq.1, Nat.eq_of_beq_eq_true hq.2, ?_⟩
    simp only [cond_true] at h
    split at h
    · next x =>
      cases hi : e_isI (e_fty cc k) with
      | true => rw [hi] at h; exact Or.inl ⟨x, rfl, rfl, (Option.some.inj h).symm⟩
      | false => rw [hi] at h; cases h
    · next j =>
      cases hi : e_isI (e_fty cc k) with
      | true => rw [hi] at h; cases h
      | false => rw [hi] at h; exact Or.inr ⟨j, rfl, rfl, (Option.some.inj h).symm⟩
    · cases h
/-- what a write to a field makes of the list of fields, and of the other objects -/
theorem put_fl {o k cc : Nat} {v : Value} (h : g_put σ o cc k v = some σ') (hc : cc < 12) : σ'.1 = σ.1 ∧ e_fl b σ' cc o = (e_fl b σ cc o).set k (e_v b v) ∧ ∀ q, q ≠ o → e_ent b cI cS σ' q = e_ent b cI cS σ q := by
  obtain ⟨ho, hcl, h | h⟩ := g_put_spec h
  · obtain ⟨x, rfl, hi, rfl⟩ := h
    refine ⟨rfl, e_fl_set ?_ ?_, fun q hq => e_ent_congr rfl rfl ?_ rfl⟩
    · simp [e_fv, hi, u2, u1, e_v]
    · intro j hj
      simp [e_fv, u2, u1, hj]
    · simp [u2, u1, hq]
  · obtain ⟨j, rfl, hi, rfl⟩ := h
    refine ⟨rfl, e_fl_set ?_ ?_, fun q hq => e_ent_congr rfl ?_ rfl rfl⟩
    · simp [e_fv, hi, u2, u1, e_v, va_rf]
    · intro i hj
      simp [e_fv, u2, u1, hj]
    · simp [u2, u1, hq]
theorem e_narrow_ref (t : FieldType) (a : Nat) : narrow t (.ref a) = .ref a := by cases t <;> rfl
theorem put_fit {o k cc : Nat} {v : Value} (h : g_put σ o cc k v = some σ') (hc : cc < 12) (hk : k < (e_ct cc).2.2.1) (hbo : e_fty cc k = .boolean → v = .int 0 ∨ v = .int 1) : narrow (e_fty cc k) (e_v b v) = e_v b v ∧ fits (e_fty cc k) (e_v b v) = true := by
  obtain ⟨ho, hcl, h | h⟩ := g_put_spec h
  · obtain ⟨x, rfl, hi, -⟩ := h
    rcases e_kinds cc hc k hk with h1 | h1 | h1
    · rw [h1]; exact ⟨rfl, rfl⟩
    · rcases hbo h1 with h2 | h2
      · rw [h1, h2]; exact ⟨rfl, show fits .boolean (.int 0) = true by decide⟩
      · rw [h1, h2]; exact ⟨rfl, show fits .boolean (.int 1) = true by decide⟩
    · revert hi h1; cases e_fty cc k <;> simp [e_isI, e_isR]
  · obtain ⟨j, rfl, hi, -⟩ := h
    rcases e_kinds cc hc k hk with h1 | h1 | h1
    · rw [h1] at hi; cases hi
    · rw [h1] at hi; cases hi
    · refine ⟨e_narrow_ref _ _, ?_⟩
      revert h1
      cases e_fty cc k <;> simp [e_isR, e_v, fits]
set_option maxHeartbeats 4000000 in
theorem e_putf_ok {o cc k idx : Nat} {nest : Bool} {v : Value} (hx : p.tables.exec = Jvm.exec) (hb : c.code = mBy y) (hown : s.vm.findClass (mNm y).cls = some m.cls) (hts : ∀ w ∈ e_WS, w.before args s = true) (hK : va_K D e_cls (e_tys cI cS) s) (hnm : meth.name = (mNm y).name) (hS : e_Sim D b cI cS H0 σ H) (hg : g_put σ o cc k v = some σ') (hc : cc < 12) (hk : k < (e_ct cc).2.2.1) (hbo : e_fty cc k = .boolean → v = .int 0 ∨ v = .int 1)
    (hfin : ((e_ct cc).2.1 k).2.2.2 = false ∨ ((mNm y).name = "<init>" ∧ ((e_ct cc).2.1 k).1 = (mNm y).cls ∧ nest = false))
    (hw : (bif nest then Cond.fieldLinkNest (mNm y).cls idx ((e_ct cc).2.1 k).1 ((e_ct cc).2.1 k).2.1 ((e_ct cc).2.1 k).2.2.1 "PuppetTurns" else Cond.fieldLink (mNm y).cls idx ((e_ct cc).2.1 k).1 ((e_ct cc).2.1 k).2.1 ((e_ct cc).2.1 k).2.2.1) ∈ e_WS) (hdg : decode (mBy y) pc = .ok (.putfield idx, 3)) (hlo : ∀ q ∈ locs, b ≤ q.base)
    (kk : ∀ (H' : Heap) (locs' : List Loc), e_Sim D b cI cS H0 σ' H' → (∀ q ∈ locs', b ≤ q.base) → W p l e R s m args below meth c H' locs' cells slots Z (F0 m (pc + 3) ls rest)) : W p l e R s m args below meth c H locs cells slots Z (F0 m pc ls (e_v b v :: .ref (b + o) :: rest)) := by
  obtain ⟨ho, hcl, -⟩ := g_put_spec hg
  obtain ⟨hσ, hfl, hot⟩ := put_fl (b := b) (cI := cI) (cS := cS) hg hc
  obtain ⟨hn, hfit⟩ := put_fit (b := b) hg hc hk hbo
  have hd := e_ty_all cc hc k hk
  have hap := va_apart (own := (mNm y).cls) hts (e_uws hc) (e_fty cc) (e_ty_all cc hc) (e_nm_all cc hc) hK (e_cls_at hc)
  obtain ⟨r, h1, cell, q1, q2, q3, q4⟩ := sim_obj hS ho hcl hc
  have hr : r = ((e_ct cc).1, (e_ct cc).2.1, (e_ct cc).2.2.1) := Option.some.inj (h1.symm.trans (e_cls_at hc))
  subst hr
  obtain ⟨hSl, hfc, kC, hkC, hkind⟩ := hK.1 cc _ (e_cls_at hc)
  obtain ⟨cf, kf, fi, f, hi, hsl⟩ := hSl k hk
  have hlay := hts _ (e_uws hc _ (u_in_lay hk))
  have hst := (u_facts hfc hkC (u_lays hts (e_uws hc) hk) hi).1
  have fin : ∀ (H' : Heap) (j : Nat), H'[b + o]? = some (cell.setSlot f.slot (e_v b v)) → H'.size = H.size → (∀ q, q ≠ b + o → H'[q]? = H[q]?) → W p l e R s m args below meth c H' (locs ++ [⟨b + o, j⟩]) cells slots Z (F0 m (pc + 3) ls rest) := by
    intro H' j e1 e2 e3
    rw [hsl] at e1
    refine kk H' _ (sim_upd hS (by rw [hσ]) hot e2 e3 ?_) ?_
    · rw [e_ent_obj (by rw [hσ]; exact hcl) hc, hfl]
      exact ⟨_, e_cls_at hc, t_OB.to (V := updV (vp_V (e_fl b σ cc o)) k (e_v b v)) ⟨_, e1, q2, q3, t_set q4 hap hk _⟩ (fun j _ => vp_updV_set (by rw [e_fl_len]; exact hk) _ j)⟩
    · intro q hq
      rcases List.mem_append.mp hq with h | h
      · exact hlo q h
      · rw [List.mem_singleton.mp h]
        exact Nat.le_add_right _ _
  unfold u_lay at hlay
  cases hf : ((e_ct cc).2.1 k).2.2.2 with
  | false =>
    rw [if_neg (by rw [hf]; decide)] at hlay
    have h6 := u_store hfc hkC hkind hlay hi hd hn hfit
    cases nest with
    | false => exact W.putK hx hb (f := f) ⟨hown, hts _ hw, ⟨_, _, _, hi⟩, hst⟩ (by rw [q2]; exact h6) q1 q3 (by rw [hsl]; exact k2_hasslot (q4 k hk)) rfl rfl hdg (fun H' e1 e2 e3 => fin H' _ e1 e2 e3)
    | true => exact va_WputK hx hb (f := f) hown (hts _ hw) hi hst (by rw [q2]; exact h6) q1 q3 (by rw [hsl]; exact k2_hasslot (q4 k hk)) rfl rfl hdg (fun H' e1 e2 e3 => fin H' _ e1 e2 e3)
  | true =>
    rw [if_pos hf] at hlay
    rcases hfin with h7 | ⟨hin, hdecl, hne⟩
    · rw [hf] at h7; cases h7
    · subst hne
      have hcf : m.cls = cf := by
        obtain ⟨_, _, c', _, _, _, -, -, hf', -, -, -, hown2, -⟩ := Cond.laysFinal_spec hlay
        have e1 : c' = cf := by have := hi.symm.trans hf'; simp at this; exact this.1.symm
        rw [hdecl] at hown2
        rw [← e1]; exact Option.some.inj (hown.symm.trans hown2)
      have h6 := u_fits hfc hkC hkind (Or.inr hlay) hi hd hn hfit
      exact W.putFinK hx hb hown (hts _ hw) hi hst hcf (by rw [hnm]; exact hin) (by rw [q2]; exact h6) q1 q3 (by rw [hsl]; exact k2_hasslot (q4 k hk)) rfl rfl hdg (fun H' e1 e2 e3 => fin H' _ e1 e2 e3)
end EHEAP
end
section
section EARR
variable {p : Program} {l : Launch} {e : Env} {R : Room} {s : State} {m : MethodId} {args : Array Value} {below : List Frame} {meth : Method} {c : Code} {H : Heap} {locs : List Loc} {cells slots : Nat} {Z : State → Prop}
variable {D : va_G} {b : Nat} {cI cS : ClassId} {H0 : Heap} {σ σ' : Sg} {y pc : Nat} {ls : Array Slot} {rest : List Value}
theorem g_len_spec {a n : Nat} (h : g_len σ a = some n) : a < σ.1.1 ∧ (σ.1.2 a).1 = 100 ∧ (σ.1.2 a).2 = n ∧ n < 2147483648 := by
  unfold g_len at h
  cases hq : (Nat.blt a σ.1.1 && (Nat.beq (σ.1.2 a).1 100 && Nat.blt (σ.1.2 a).2 2147483648)) with
  | false => rw [hq] at h; cases h
  | true =>
    rw [hq] at h
    rw [Bool.and_eq_true, Bool.and_eq_true] at hq
    have h1 : a < σ.1.1 := by simpa [Nat.blt_eq] using hq.1
    have h2 : (σ.1.2 a).2 < 2147483648 := by simpa [Nat.blt_eq] using hq.2.2
    have h3 := Option.some.inj h
    exact ⟨h1, Nat.eq_of_beq_eq_true hq.2.1, h3, by rw [← h3]; exact h2⟩
theorem sim_arr {a n : Nat} (hS : e_Sim D b cI cS H0 σ H) (h : g_len σ a = some n) : va_at D e_cls (b + a, .inl (cI, n, .inl (σ.2.2.2 a))) H := by
  obtain ⟨h1, h2, h3, -⟩ := g_len_spec h
  have := hS.2.2 a h1
  rwa [e_ent_int h2, h3] at this
theorem e_alen_ok {a n : Nat} (hx : p.tables.exec = Jvm.exec) (hb : c.code = mBy y) (hK : va_K D e_cls (e_tys cI cS) s) (hS : e_Sim D b cI cS H0 σ H) (h : g_len σ a = some n) (hdg : decode (mBy y) pc = .ok (.arraylength, 1))
    (kk : W p l e R s m args below meth c H locs cells slots Z (F0 m (pc + 1) ls (.int (nI n) :: rest))) : W p l e R s m args below meth c H locs cells slots Z (F0 m pc ls (.ref (b + a) :: rest)) := by
  have h1 : H[b + a]? = some (arrV cI n (fun j => .int (σ.2.2.2 a j))) := sim_arr hS h
  exact W.alen (n := nI n) hx hb h1 ((hK.2 0 _ rfl).1 n _) (by rw [arrV_size] <;> rfl) rfl rfl hdg kk
theorem g_rlen_spec {a n : Nat} (h : g_rlen σ a = some n) : a < σ.1.1 ∧ (σ.1.2 a).1 = 101 ∧ (σ.1.2 a).2 = n := by
  unfold g_rlen at h
  cases hq : (Nat.blt a σ.1.1 && Nat.beq (σ.1.2 a).1 101) with
  | false => rw [hq] at h; cases h
  | true =>
    rw [hq] at h
    rw [Bool.and_eq_true] at hq
    exact ⟨by simpa [Nat.blt_eq] using hq.1, Nat.eq_of_beq_eq_true hq.2, Option.some.inj h⟩
theorem e_rlen_ok {a n : Nat} (hx : p.tables.exec = Jvm.exec) (hb : c.code = mBy y) (hK : va_K D e_cls (e_tys cI cS) s) (hS : e_Sim D b cI cS H0 σ H) (h : g_rlen σ a = some n) (hdg : decode (mBy y) pc = .ok (.arraylength, 1))
    (kk : W p l e R s m args below meth c H locs cells slots Z (F0 m (pc + 1) ls (.int (nI n) :: rest))) : W p l e R s m args below meth c H locs cells slots Z (F0 m pc ls (.ref (b + a) :: rest)) := by
  obtain ⟨h1, h2, h3⟩ := g_rlen_spec h
  subst h3
  have h5 := hS.2.2 a h1
  rw [e_ent_ref h2] at h5
  exact va_alen hx hb hK (va_one h5) 0 1 rfl rfl (v := nI (σ.1.2 a).2) rfl hdg kk
theorem e_iald_ok {a n j : Nat} {i : Int32} (hx : p.tables.exec = Jvm.exec) (hb : c.code = mBy y) (hK : va_K D e_cls (e_tys cI cS) s) (hS : e_Sim D b cI cS H0 σ H) (h : g_len σ a = some n) (hi : i = nI j) (hj : j < n) (hdg : decode (mBy y) pc = .ok (.iaload, 1))
    (kk : W p l e R s m args below meth c H locs cells slots Z (F0 m (pc + 1) ls (.int (σ.2.2.2 a j) :: rest))) : W p l e R s m args below meth c H locs cells slots Z (F0 m pc ls (.int i :: .ref (b + a) :: rest)) := by
  obtain ⟨-, -, -, h4⟩ := g_len_spec h
  subst hi
  refine va_iald hx hb hK (va_one (sim_arr hS h)) 0 0 rfl rfl (vp_in_nI hj (by omega)) hdg ?_
  rw [nI_clamp (by omega)]
  exact kk
theorem e_iast_ok {a n j : Nat} {i x : Int32} (hx : p.tables.exec = Jvm.exec) (hb : c.code = mBy y) (hK : va_K D e_cls (e_tys cI cS) s) (hS : e_Sim D b cI cS H0 σ H) (h : g_len σ a = some n) (hi : i = nI j) (hj : j < n) (hdg : decode (mBy y) pc = .ok (.iastore, 1)) (hlo : ∀ q ∈ locs, b ≤ q.base)
    (kk : ∀ (H' : Heap) (locs' : List Loc), e_Sim D b cI cS H0 (g_wr σ a (u1 (σ.2.2.2 a) j x)) H' → (∀ q ∈ locs', b ≤ q.base) → W p l e R s m args below meth c H' locs' cells slots Z (F0 m (pc + 1) ls rest)) : W p l e R s m args below meth c H locs cells slots Z (F0 m pc ls (.int x :: .int i :: .ref (b + a) :: rest)) := by
  obtain ⟨h1, h2, h3, h4⟩ := g_len_spec h
  subst hi
  have hc : H[b + a]? = some (arrV cI n (fun j => .int (σ.2.2.2 a j))) := sim_arr hS h
  refine W.iast hx hb hc ((hK.2 0 _ rfl).1 n _) (fun q => by cases q) (by rw [arrV_size]; exact vp_in_nI hj (by omega)) rfl rfl hdg fun H1 e1 z oq => ?_
  rw [nI_clamp (by omega)] at e1 ⊢
  refine kk H1 _ (sim_upd hS rfl (fun q hq => e_ent_congr rfl rfl rfl (u1_n _ _ hq)) z oq ?_) ?_
  · rw [e_ent_int (σ := g_wr σ a (u1 (σ.2.2.2 a) j x)) h2]
    show H1[b + a]? = some (vp_cell _ _)
    rw [e1, vp_cell_i, arrV_store]
    show _ = some (arrV cI (σ.1.2 a).2 (fun k => .int (u1 σ.2.2.2 a (u1 (σ.2.2.2 a) j x) a k)))
    rw [h3, u1_s]
    congr 2
    funext q
    by_cases hq : q = j
    · subst hq
      simp [updV, u1]
    · simp [updV, u1, hq]
  · intro q hq
    rcases List.mem_append.mp hq with h | h
    · exact hlo q h
    · rw [List.mem_singleton.mp h]
      exact Nat.le_add_right _ _
theorem g_rget_spec {a j : Nat} {v : Value} (h : g_rget σ a j = some v) : a < σ.1.1 ∧ (σ.1.2 a).1 = 101 ∧ j < (σ.1.2 a).2 ∧ (σ.1.2 a).2 < 2147483648 ∧ v = va_rf (σ.2.1 a j) := by
  unfold g_rget at h
  cases hq : (Nat.blt a σ.1.1 && (Nat.beq (σ.1.2 a).1 101 && (Nat.blt j (σ.1.2 a).2 && Nat.blt (σ.1.2 a).2 2147483648))) with
  | false => rw [hq] at h; cases h
  | true =>
    rw [hq] at h
    rw [Bool.and_eq_true, Bool.and_eq_true, Bool.and_eq_true] at hq
    exact ⟨by simpa [Nat.blt_eq] using hq.1, Nat.eq_of_beq_eq_true hq.2.1, by simpa [Nat.blt_eq] using hq.2.2.1, by simpa [Nat.blt_eq] using hq.2.2.2, (Option.some.inj h).symm⟩
theorem e_aald_ok {a j : Nat} {i : Int32} {v : Value} (hx : p.tables.exec = Jvm.exec) (hb : c.code = mBy y) (hK : va_K D e_cls (e_tys cI cS) s) (hS : e_Sim D b cI cS H0 σ H) (h : g_rget σ a j = some v) (hi : i = nI j) (hdg : decode (mBy y) pc = .ok (.aaload, 1))
    (kk : W p l e R s m args below meth c H locs cells slots Z (F0 m (pc + 1) ls (e_v b v :: rest))) : W p l e R s m args below meth c H locs cells slots Z (F0 m pc ls (.int i :: .ref (b + a) :: rest)) := by
  obtain ⟨h1, h2, h3, h4, rfl⟩ := g_rget_spec h
  subst hi
  have h5 := hS.2.2 a h1
  rw [e_ent_ref h2] at h5
  refine va_aldq hx hb hK (va_one h5) 0 1 rfl rfl (vp_in_nI h3 (by omega)) hdg ?_
  rw [nI_clamp (by omega), ← e_va_map]
  exact kk
theorem g_rput_spec {a j : Nat} {v : Value} (h : g_rput σ a j v = some σ') : a < σ.1.1 ∧ (σ.1.2 a).1 = 101 ∧ j < (σ.1.2 a).2 ∧ (σ.1.2 a).2 < 2147483648 ∧ ∃ o, v = .ref o ∧ o < σ.1.1 ∧ (σ.1.2 o).1 = 5 ∧ σ' = (σ.1, u2 σ.2.1 a j (some o), σ.2.2) := by
  unfold g_rput at h
  cases hq : (Nat.blt a σ.1.1 && (Nat.beq (σ.1.2 a).1 101 && (Nat.blt j (σ.1.2 a).2 && Nat.blt (σ.1.2 a).2 2147483648))) with
  | false => rw [hq] at h; cases h
  | true =>
    rw [hq] at h
    rw [Bool.and_eq_true, Bool.and_eq_true, Bool.and_eq_true] at hq
    refine ⟨by simpa [Nat.blt_eq] using hq.1, Nat.eq_of_beq_eq_true hq.2.1, by simpa [Nat.blt_eq] using hq.2.2.1, by simpa [Nat.blt_eq] using hq.2.2.2, ?_⟩
    simp only [cond_true] at h
    split at h
    · next o =>
      cases hr : (Nat.blt o σ.1.1 && Nat.beq (σ.1.2 o).1 5) with
      | false => rw [hr] at h; cases h
      | true =>
        rw [hr] at h
        rw [Bool.and_eq_true] at hr
        exact ⟨o, rfl, by simpa [Nat.blt_eq] using hr.1, Nat.eq_of_beq_eq_true hr.2, (Option.some.inj h).symm⟩
    · cases h
set_option maxHeartbeats 4000000 in
theorem e_aast_ok {a j : Nat} {i : Int32} {v : Value} (hx : p.tables.exec = Jvm.exec) (hb : c.code = mBy y) (hK : va_K D e_cls (e_tys cI cS) s) (hS : e_Sim D b cI cS H0 σ H) (h : g_rput σ a j v = some σ') (hi : i = nI j) (hdg : decode (mBy y) pc = .ok (.aastore, 1)) (hlo : ∀ q ∈ locs, b ≤ q.base)
    (kk : ∀ (H' : Heap) (locs' : List Loc), e_Sim D b cI cS H0 σ' H' → (∀ q ∈ locs', b ≤ q.base) → W p l e R s m args below meth c H' locs' cells slots Z (F0 m (pc + 1) ls rest)) : W p l e R s m args below meth c H locs cells slots Z (F0 m pc ls (e_v b v :: .int i :: .ref (b + a) :: rest)) := by
  obtain ⟨h1, h2, h3, h4, o, rfl, h5, h6, rfl⟩ := g_rput_spec h
  subst hi
  have h7 := hS.2.2 a h1
  rw [e_ent_ref h2] at h7
  have hca : H[b + a]? = some (arrV cS (σ.1.2 a).2 (fun k => va_rf ((σ.2.1 a k).map (fun j => b + j)))) := h7
  obtain ⟨r', hr', cellV, g1, g2, g3, -⟩ := sim_obj hS h5 h6 (show 5 < 12 by decide)
  have hr : r' = ((e_ct 5).1, (e_ct 5).2.1, (e_ct 5).2.2.1) := Option.some.inj (hr'.symm.trans (e_cls_at (show 5 < 12 by decide)))
  have hcls := (hK.1 5 _ (e_cls_at (show 5 < 12 by decide))).2
  obtain ⟨kA, comp, k1, k2, k3, -⟩ := (hK.2 1 _ rfl).2
  have hcomp : comp = D.1 5 := Option.some.inj (k3.symm.trans hcls.1)
  subst hcomp
  obtain ⟨kC, hkC, -⟩ := hcls.2
  refine W.aast hx hb hca (fun q h => by cases h) (fun h => by cases h) k1 k2 rfl hkC ⟨fun h => (vp_in_nI h3 (by omega)) (Or.inl h), by rw [arrV_size, nI_clamp (by omega)]; exact h3⟩ g1 (fun q h => by rw [g3] at h; cases h) (by rw [g2]; exact hkC) (by rw [g2]; exact va_assign hcls) rfl rfl hdg fun H1 e1 z oq => ?_
  rw [nI_clamp (by omega)] at e1 ⊢
  refine kk H1 _ (sim_upd hS rfl (fun q hq => e_ent_congr rfl (u1_n _ _ hq) rfl rfl) z oq ?_) ?_
  · rw [e_ent_ref (σ := (σ.1, u2 σ.2.1 a j (some o), σ.2.2)) h2]
    show H1[b + a]? = some (vp_cell _ _)
    rw [e1, vp_cell_q, arrV_store]
    congr 2
    funext q
    by_cases hq : q = j
    · subst hq
      simp [updV, u2, u1, va_rf]
    · simp [updV, u2, u1, hq]
  · intro q hq
    rcases List.mem_append.mp hq with h | h
    · exact hlo q h
    · rw [List.mem_singleton.mp h]
      exact Nat.le_add_right _ _
set_option maxHeartbeats 4000000 in
theorem e_new_ok {o cc idx : Nat} (hx : p.tables.exec = Jvm.exec) (hb : c.code = mBy y) (hown : s.vm.findClass (mNm y).cls = some m.cls) (hts : ∀ w ∈ e_WS, w.before args s = true) (hK : va_K D e_cls (e_tys cI cS) s) (hS : e_Sim D b cI cS H0 σ H) (h : g_new σ cc = some (o, σ'))
    (hw : ∀ w ∈ ([.classLink (mNm y).cls idx (e_ct cc).1, .instantiable (e_ct cc).1 (e_ct cc).2.2.1, .initialized (e_ct cc).1] : List Cond), w ∈ e_WS) (hcells : cells + 1 ≤ R.cells) (hslots : slots + (e_ct cc).2.2.1 ≤ R.slots) (hdg : decode (mBy y) pc = .ok (.new idx, 3))
    (kk : ∀ (H' : Heap), e_Sim D b cI cS H0 σ' H' → W p l e R s m args below meth c H' locs (cells + 1) (slots + (e_ct cc).2.2.1) Z (F0 m (pc + 3) ls (.ref (b + o) :: rest))) : W p l e R s m args below meth c H locs cells slots Z (F0 m pc ls rest) := by
  unfold g_new at h
  cases hq : Nat.blt cc 12 with
  | false => rw [hq] at h; cases h
  | true =>
    rw [hq] at h
    have hc : cc < 12 := by simpa [Nat.blt_eq] using hq
    simp only [cond_true, Option.some.injEq, Prod.mk.injEq] at h
    obtain ⟨rfl, rfl⟩ := h
    have hKn := hK.1 cc _ (e_cls_at hc)
    refine W.newcK hx hb hown (hts _ (hw _ (by simp))) (hts _ (hw _ (by simp))) (hts _ (hw _ (by simp))) rfl hdg hcells hslots hKn.2.1 rfl fun H1 kC hkC e1 z1 o1 => ?_
    rw [hS.1] at e1 ⊢
    refine kk H1 (sim_new hS rfl (fun q hq => e_ent_congr (u1_n _ _ hq) (u1_n _ _ hq) (u1_n _ _ hq) rfl) (by rw [z1]) o1 ?_)
    rw [e_ent_obj (c := cc) (by simp [u1]) hc]
    refine ⟨_, e_cls_at hc, (u_born (e_fty cc) hts (e_uws hc) hKn hkC e1 (e_ty_all cc hc)).to (fun j hj => ?_)⟩
    unfold vp_V
    rw [List.getD_eq_getElem?_getD, e_fl_at hj]
    simp only [Option.getD_some, e_fv, u1_s]
    rcases e_kinds cc hc j hj with h1 | h1 | h1
    · rw [h1]; rfl
    · rw [h1]; rfl
    · revert h1
      cases e_fty cc j <;> simp [e_isR, e_isI, defaultValue, va_rf]
set_option maxHeartbeats 4000000 in
theorem e_newI_ok {o n : Nat} {i : Int32} (hx : p.tables.exec = Jvm.exec) (hb : c.code = mBy y) (hts : ∀ w ∈ e_WS, w.before args s = true) (hK : va_K D e_cls (e_tys cI cS) s) (hS : e_Sim D b cI cS H0 σ H) (h : g_newI σ n = some (o, σ')) (hi : i = nI n) (hn : n < 100000)
    (hw : (Cond.arrayClass .int) ∈ e_WS) (hcells : cells + 1 ≤ R.cells) (hslots : slots + n ≤ R.slots) (hdg : decode (mBy y) pc = .ok (.newarray .int, 2))
    (kk : ∀ (H' : Heap), e_Sim D b cI cS H0 σ' H' → W p l e R s m args below meth c H' locs (cells + 1) (slots + n) Z (F0 m (pc + 2) ls (.ref (b + o) :: rest))) : W p l e R s m args below meth c H locs cells slots Z (F0 m pc ls (.int i :: rest)) := by
  unfold g_newI at h
  simp only [Option.some.injEq, Prod.mk.injEq] at h
  obtain ⟨rfl, rfl⟩ := h
  subst hi
  refine va_newaK (atype := .int) hx hb (hts _ hw) rfl hdg rfl (nI_pos (by omega)) (nI_clamp (by omega)) (by show n * 4 ≤ _; omega) hcells hslots rfl fun H1 cA e1 z1 o1 hAr hNm => ?_
  have hcA : cA = cI := Option.some.inj (hNm.symm.trans (hK.2 0 _ rfl).2)
  subst hcA
  rw [hS.1] at e1 ⊢
  refine kk H1 (sim_new hS rfl (fun q hq => e_ent_congr (u1_n _ _ hq) rfl rfl (u1_n _ _ hq)) (by rw [z1]) o1 ?_)
  rw [e_ent_int (by simp [u1])]
  show H1[_]? = some (vp_cell _ _)
  rw [e1, vp_cell_i]
  simp [u1_s]
  rfl
set_option maxHeartbeats 4000000 in
theorem e_newR_ok {o n idx : Nat} {i : Int32} (hx : p.tables.exec = Jvm.exec) (hb : c.code = mBy y) (hown : s.vm.findClass (mNm y).cls = some m.cls) (hts : ∀ w ∈ e_WS, w.before args s = true) (hK : va_K D e_cls (e_tys cI cS) s) (hS : e_Sim D b cI cS H0 σ H) (h : g_newR σ n = some (o, σ')) (hi : i = nI n) (hn : n < 100000)
    (hw : ∀ w ∈ ([.classLink (mNm y).cls idx "PuppetTurns$Scene", .arrayOver (.object "PuppetTurns$Scene")] : List Cond), w ∈ e_WS) (hcells : cells + 1 ≤ R.cells) (hslots : slots + n ≤ R.slots) (hdg : decode (mBy y) pc = .ok (.anewarray idx, 3))
    (kk : ∀ (H' : Heap), e_Sim D b cI cS H0 σ' H' → W p l e R s m args below meth c H' locs (cells + 1) (slots + n) Z (F0 m (pc + 3) ls (.ref (b + o) :: rest))) : W p l e R s m args below meth c H locs cells slots Z (F0 m pc ls (.int i :: rest)) := by
  unfold g_newR at h
  simp only [Option.some.injEq, Prod.mk.injEq] at h
  obtain ⟨rfl, rfl⟩ := h
  subst hi
  refine W.anew hx hb hown (hts (.classLink (mNm y).cls idx "PuppetTurns$Scene") (hw _ (by simp))) (hts (.arrayOver (.object "PuppetTurns$Scene")) (hw _ (by simp))) rfl hdg rfl (nI_pos (by omega)) (by rw [nI_clamp (by omega)]; omega) hcells (by rw [nI_clamp (by omega)]; exact hslots) fun cA kA comp f1 f2 f3 f4 => ?_
  rw [nI_clamp (by omega)]
  have hcA : cA = cS := by
    obtain ⟨_, _, _, _, _, g4⟩ := (hK.2 1 _ rfl).2
    exact Option.some.inj (f1.symm.trans g4)
  subst hcA
  generalize hH1 : H.push ({ cls := cA, slots := Array.replicate n .null, vm := .none } : Cell) = H1
  have z1 : H1.size = H.size + 1 := by rw [← hH1, Array.size_push]
  have e1 : H1[H.size]? = some (arrV cA n (fun _ => .null)) := by rw [← hH1, Array.getElem?_push_size, ← arrV_new]
  have o1 : ∀ q : Nat, q < H.size → H1[q]? = H[q]? := fun q hq => by rw [← hH1, Array.getElem?_push, if_neg (Nat.ne_of_lt hq)]
  rw [hS.1] at e1 ⊢
  refine kk H1 (sim_new hS rfl (fun q hq => e_ent_congr (u1_n _ _ hq) (u1_n _ _ hq) rfl rfl) z1 o1 ?_)
  rw [e_ent_ref (by simp [u1])]
  show H1[_]? = some (vp_cell _ _)
  rw [e1, vp_cell_q]
  simp [u1_s, va_rf]
end EARR
end
section
section ECALL
variable {p : Program} {l : Launch} {e : Env} {R : Room} {s : State} {m : MethodId} {args : Array Value} {below : List Frame} {meth : Method} {c : Code} {H : Heap} {locs : List Loc} {cells slots : Nat} {Z : State → Prop}
variable {D : va_G} {b : Nat} {cI cS : ClassId} {H0 : Heap} {σ σ' : Sg} {y pc : Nat} {ls : Array Slot} {rest : List Value}
set_option maxHeartbeats 4000000 in
theorem e_copy_ok {a a0 n0 n1 j idx : Nat} {n sp dp : Int32} (hx : p.tables.exec = Jvm.exec) (hb : c.code = mBy y) (hml : c.maxLocals = ls.size) (hown : s.vm.findClass (mNm y).cls = some m.cls) (hts : ∀ w ∈ e_WS, w.before args s = true) (hK : va_K D e_cls (e_tys cI cS) s) (hS : e_Sim D b cI cS H0 σ H) (hl1 : g_len σ a = some n1) (hl0 : g_len σ a0 = some n0) (hn : n = nI j) (hj1 : j ≤ n1) (hj0 : j ≤ n0) (hsp : sp = 0) (hdp : dp = 0)
    (hw : ∀ w ∈ ([.methodLink (mNm y).cls idx arraycopyName, .native arraycopyName, .static arraycopyName, .initialized "java/lang/System"] : List Cond), w ∈ e_WS) (hframes : 1 ≤ R.frames) (hlocals : (rest.map fun v => v.category).sum + (nativeFrameWords "java/lang/System" "arraycopy" 5 + 11) ≤ R.locals) (hdg : decode (mBy y) pc = .ok (.invokestatic idx, 3)) (hlo : ∀ q ∈ locs, b ≤ q.base)
    (kk : ∀ (H' : Heap) (locs' : List Loc), e_Sim D b cI cS H0 (g_wr σ a (e_cpy (σ.2.2.2 a0) (σ.2.2.2 a) j)) H' → (∀ q ∈ locs', b ≤ q.base) → W p l e R s m args below meth c H' locs' cells slots Z (F0 m (pc + 3) ls rest)) : W p l e R s m args below meth c H locs cells slots Z (F0 m pc ls (.int n :: .int dp :: .ref (b + a) :: .int sp :: .ref (b + a0) :: rest)) := by
  subst hn; subst hsp; subst hdp
  obtain ⟨s1, s2, s3, s4⟩ := g_len_spec hl1
  obtain ⟨r1, r2, r3, r4⟩ := g_len_spec hl0
  have hc0 : H[b + a0]? = some (vp_cell cI (n0, .inl (σ.2.2.2 a0))) := sim_arr hS hl0
  have hc1 : H[b + a]? = some (vp_cell cI (n1, .inl (σ.2.2.2 a))) := sim_arr hS hl1
  have hcl : (nI j).toNatClampNeg = j := nI_clamp (by omega)
  have hti : (nI j).toInt = (j : Int) := nI_toInt (by omega)
  intro T hT X
  obtain ⟨-, k0, hk0, cm0, hkk0⟩ := (hK.2 0 _ rfl).1 n0 (fun k => .int (σ.2.2.2 a0 k))
  obtain ⟨-, k1, hk1, cm1, hkk1⟩ := (hK.2 0 _ rfl).1 n1 (fun k => .int (σ.2.2.2 a k))
  obtain ⟨vm', X', step⟩ := X.arraycopy hx hown (hts (.methodLink (mNm y).cls idx arraycopyName) (hw _ (by simp))) (hts (.native arraycopyName) (hw _ (by simp))) (hts (.static arraycopyName) (hw _ (by simp))) (hts (.initialized "java/lang/System") (hw _ (by simp))) (src := b + a0) (dst := b + a) (cs := vp_cell cI (n0, .inl (σ.2.2.2 a0))) (cd := vp_cell cI (n1, .inl (σ.2.2.2 a))) (srcPos := 0) (destPos := 0) (n := nI j) (by rw [hT]; exact hc0) (by rw [hT]; exact hc1)
    (fun _ h => by cases h) (fun _ h => by cases h) (fun h => by cases h) (fun h => by cases h) hk0 hk1 hkk0 hkk1 (by simp [refKind]) (by decide) (by decide) (nI_pos (by omega))
    (by rw [hti]; show ¬ (0 : Int) + _ > ((arrV cI n0 (fun k => .int (σ.2.2.2 a0 k))).slots.size : Int); rw [arrV_size]; omega)
    (by rw [hti]; show ¬ (0 : Int) + _ > ((arrV cI n1 (fun k => .int (σ.2.2.2 a k))).slots.size : Int); rw [arrV_size]; omega)
    (fun vm₁ _ i hi => by
      rw [hcl] at hi
      have e1 : (vp_cell cI (n0, .inl (σ.2.2.2 a0))).slots.getD ((0 : Int32).toNatClampNeg + i) .null = .int (σ.2.2.2 a0 i) := by
        show (arrV cI n0 (fun k => .int (σ.2.2.2 a0 k))).slots.getD (0 + i) _ = _
        rw [Array.getD_eq_getD_getElem?, arrV_read _ _ (by omega), Nat.zero_add]
        rfl
      refine ⟨?_, ?_⟩
      · rw [e1]
        rfl
      · rw [e1]
        exact trivial)
    (g := F0 m pc ls (.int (nI j) :: .int 0 :: .ref (b + a) :: .int 0 :: .ref (b + a0) :: rest)) rfl (by rw [hml]) (rest := rest) rfl (by rw [hb]; exact hdg) hframes (by show 2 * 0 + _ + _ ≤ _; omega)
  have e1 : copied (vp_cell cI (n0, .inl (σ.2.2.2 a0))) (vp_cell cI (n1, .inl (σ.2.2.2 a))) 0 0 (nI j) = vp_cell cI (n1, .inl (va_cpy (σ.2.2.2 a0) (σ.2.2.2 a) (0 : Int32).toNatClampNeg (0 : Int32).toNatClampNeg (nI j).toNatClampNeg)) := va_copied (fun z => .int z) cI cI (σ.2.2.2 a0) (σ.2.2.2 a) (by rw [hcl]; show 0 + j ≤ n0; omega)
  have e2 : va_cpy (σ.2.2.2 a0) (σ.2.2.2 a) (0 : Int32).toNatClampNeg (0 : Int32).toNatClampNeg (nI j).toNatClampNeg = e_cpy (σ.2.2.2 a0) (σ.2.2.2 a) j := by
    rw [hcl]
    funext k
    show (if 0 ≤ k ∧ k < 0 + j then σ.2.2.2 a0 (0 + (k - 0)) else σ.2.2.2 a k) = if k < j then σ.2.2.2 a0 k else σ.2.2.2 a k
    simp
  rw [e1, e2] at X' step
  have hl : b + a < H.size := (Array.getElem?_eq_some_iff.mp hc1).1
  generalize hC : vp_cell cI (n1, .inl (e_cpy (σ.2.2.2 a0) (σ.2.2.2 a) j)) = C at X' step
  have hheap : ((T.setVm vm').setCell (b + a) C).heap = H.setIfInBounds (b + a) C := by rw [← hT]; rfl
  obtain ⟨t, a1, b1⟩ := kk _ _ (sim_upd (H' := H.setIfInBounds (b + a) C) hS rfl (fun q hq => e_ent_congr rfl rfl rfl (u1_n _ _ hq)) (by simp) (fun q hq => by simp [Array.getElem?_setIfInBounds, Ne.symm hq]) (by
      rw [e_ent_int (σ := g_wr σ a (e_cpy (σ.2.2.2 a0) (σ.2.2.2 a) j)) s2]
      show (H.setIfInBounds (b + a) C)[b + a]? = some (vp_cell cI ((σ.1.2 a).2, .inl (u1 σ.2.2.2 a (e_cpy (σ.2.2.2 a0) (σ.2.2.2 a) j) a)))
      rw [s3, u1_s, hC]
      simp [Array.getElem?_setIfInBounds, hl])) (fun q hq => by
      rcases List.mem_append.mp hq with h | h
      · exact hlo q h
      · obtain ⟨z, -, hz⟩ := List.mem_map.mp h
        rw [← hz]
        exact Nat.le_add_right _ _) _ hheap X'
  exact ⟨t, step t a1, b1⟩
theorem e_blind {as : List Value} : FrameBlind (e_Pc D b cI cS H0 σ as) := fun a U g mk q => by
  obtain ⟨q0, qS, qK⟩ := q
  exact ⟨q0, qS, va_K.moved (u := U) (U := U.calling g mk a) (Vm.Alike.refl U.vm) qK⟩
/-- what a caller's tables say of a callee -/
theorem e_calls {r1 x n : Nat} {nest : Bool} (hts : ∀ w ∈ e_WS, w.before args s = true) (hok : e_callOk y r1 n = true) (hw1 : e_link y r1 x nest ∈ e_WS) (hw2 : (Cond.initialized (mNm r1).cls) ∈ e_WS) (hw3 : (Cond.code (mNm r1) (mBy r1) (mML r1) (mRet r1)) ∈ e_WS) (hf : (mRm y).frames ≤ R.frames) (hl : (mRm y).locals ≤ R.locals) :
    (nest = false → CallB R s args (mNm y).cls x (mNm r1) (mBy r1) (mML r1) (mRet r1) (mWs r1) (mRm r1) (mRm r1).cells (mRm r1).slots n) ∧ (nest = true → va_CN R s args (mNm y).cls x (mNm r1) "PuppetTurns" (mBy r1) (mML r1) (mRet r1) (mWs r1) (mRm r1) (mRm r1).cells (mRm r1).slots n) := by
  unfold e_callOk at hok
  simp only [Bool.and_eq_true] at hok
  obtain ⟨⟨⟨⟨⟨o1, o2⟩, o3⟩, o4⟩, o5⟩, -⟩ := hok
  have o1 := of_decide_eq_true o1
  have o2 := of_decide_eq_true o2
  have o3 := of_decide_eq_true o3
  have o4 := Nat.le_of_ble_eq_true o4
  have o5 := Nat.le_of_ble_eq_true o5
  have hws : ∀ w ∈ mWs r1, ∀ (a' : Array Value) (U : State), s.WarmedH U.vm → w.before a' U = true := by
    intro w hw a' U hW
    have hm : w ∈ e_WS := (List.mem_cons.mp hw).elim (fun h => h ▸ hw3) id
    exact e_warm hm hW (hts w hm)
  have hsig : ∀ sig, parseMethodDescriptor (mNm r1).desc = some sig → n = sig.parameters.length := by
    intro sig h
    rw [h] at o3
    exact (Option.some.inj o3).symm
  refine ⟨fun hn => ?_, fun hn => ?_⟩
  · subst hn
    exact ⟨rfl, rfl, by omega, by omega, hws, List.mem_cons_self, hts _ hw3, hts _ hw2, ⟨o1, o2⟩, hsig, hts _ hw1⟩
  · subst hn
    exact ⟨⟨rfl, rfl, by omega, by omega, hws, List.mem_cons_self⟩, hts _ hw3, hts _ hw2, ⟨o1, o2⟩, hsig, hts _ hw1⟩
/-- behind a call -/
theorem e_back {r1 : Nat} {st0 rst : List Value} {Q : Option Value → Sg → Prop} {a : Array Value} (hr : va_Run p l e R s m args below meth c H locs cells slots (mRm r1).cells (mRm r1).slots (F0 m pc ls st0) (rst.map (e_v b)) (e_Qc D b cI cS H0 Q a) (fun q => b ≤ q)) (hlo : ∀ q ∈ locs, b ≤ q.base)
    (kk : ∀ (r : Option Value) (σ' : Sg) (H' : Heap) (locs' : List Loc), Q r σ' → e_Sim D b cI cS H0 σ' H' → (∀ q ∈ locs', b ≤ q.base) → W p l e R s m args below meth c H' locs' (cells + (mRm r1).cells) (slots + (mRm r1).slots) Z (F0 m (pc + 3) ls ((r.toList ++ rst).map (e_v b)))) : W p l e R s m args below meth c H locs cells slots Z (F0 m pc ls st0) := by
  intro T hT X
  obtain ⟨v, st₀, t, T', L, h0, X', hL, e1, e2, ⟨r, σ', hv, hQ, hS'⟩, st⟩ := hr T hT X
  have hv : v = r.map (e_v b) := by
    injection hv
  subst hv
  rw [← e1] at hS'
  obtain ⟨t2, a1, b1⟩ := kk r σ' T'.heap (locs ++ L) hQ hS' (fun q hq => (List.mem_append.mp hq).elim (hlo q) (hL q)) T' rfl X'
  refine ⟨t2, st t2 ?_, b1⟩
  have e3 : (r.toList ++ rst).map (e_v b) = (r.map (e_v b)).toList ++ rst.map (e_v b) := by cases r <;> simp
  rw [e3] at a1
  exact a1
theorem e_cat_sum : ∀ st : List Value, ((st.map (e_v b)).map fun v => v.category).sum = e_cat st
  | [] => rfl
  | v :: r => by simp only [List.map_cons, List.sum_cons, e_cat, e_v_cat, e_cat_sum r]
theorem e_isO_spec {ci : Nat} : ∀ {st : List Value} {n : Nat}, e_isO σ ci st n = true → ∃ (pre : List Value) (o : Nat) (rst : List Value), st = pre ++ .ref o :: rst ∧ pre.length = n ∧ o < σ.1.1 ∧ (σ.1.2 o).1 = ci
  | [], n, h => by cases n <;> simp [e_isO] at h
  | v :: r, 0, h => by
    cases v <;> simp only [e_isO] at h <;> try (cases h)
    next o =>
      rw [Bool.and_eq_true] at h
      exact ⟨[], o, r, rfl, rfl, by simpa [Nat.blt_eq] using h.1, Nat.eq_of_beq_eq_true h.2⟩
  | v :: r, n + 1, h => by
    have h' : e_isO σ ci r n = true := by cases v <;> simpa [e_isO] using h
    obtain ⟨pre, o, rst, h1, h2, h3, h4⟩ := e_isO_spec h'
    exact ⟨v :: pre, o, rst, by rw [h1]; rfl, by simp [h2], h3, h4⟩
end ECALL
end
section
section ESOUND
variable {p : Program} {l : Launch} {e : Env} {R : Room} {s : State} {m : MethodId} {args : Array Value} {below : List Frame} {meth : Method} {c : Code} {H : Heap} {locs : List Loc} {cells slots : Nat} {Z : State → Prop}
variable {D : va_G} {b : Nat} {cI cS : ClassId} {H0 : Heap} {σ σ' : Sg} {y pc : Nat} {ls : Array Slot} {rest : List Value}
theorem e_sw_spec {x : Int32} {d : Nat} {k : Nat → Prop} : ∀ {sw : List (Int32 × Nat)}, e_sw sw d x k → (∃ t, (x, t) ∈ sw ∧ k t) ∨ ((∀ q ∈ sw, ¬ q.1 = x) ∧ k d)
  | [], h => Or.inr ⟨fun _ h => (by cases h), h⟩
  | (v, t) :: r, h => by
    unfold e_sw at h
    by_cases hx : x = v
    · rw [if_pos hx] at h
      exact Or.inl ⟨t, by rw [hx]; exact List.mem_cons_self, h⟩
    · rw [if_neg hx] at h
      rcases e_sw_spec h with ⟨t', h1, h2⟩ | ⟨h1, h2⟩
      · exact Or.inl ⟨t', List.mem_cons_of_mem _ h1, h2⟩
      · exact Or.inr ⟨fun q hq => (List.mem_cons.mp hq).elim (fun z => by rw [z]; exact fun w => hx w.symm) (h1 q), h2⟩
theorem e_table_ok {dflt lo hi : Int} {offs : Array Int} {len r1 : Nat} {sw : List (Int32 × Nat)} {x : Int32} (hx : p.tables.exec = Jvm.exec) (hb : c.code = mBy y) (hdg : decode (mBy y) pc = .ok (.tableswitch dflt lo hi offs, len)) (h1 : (pc : Int) + dflt = (r1 : Int)) (h2 : e_swT pc lo hi offs sw = true)
    (kk : e_sw sw r1 x (fun t => W p l e R s m args below meth c H locs cells slots Z (F0 m t ls rest))) : W p l e R s m args below meth c H locs cells slots Z (F0 m pc ls (.int x :: rest)) := by
  unfold e_swT at h2
  rw [Bool.and_eq_true] at h2
  rcases e_sw_spec kk with ⟨t, g1, g2⟩ | ⟨g1, g2⟩
  · have g3 := List.all_eq_true.mp h2.1 _ g1
    simp only [Bool.and_eq_true, decide_eq_true_eq] at g3
    exact lv_tableIn hx hb hdg g3.1.1 g3.1.2 g3.2 (by omega) g2
  · refine lv_tableOut hx hb hdg ?_ h1 g2
    by_cases hlo : x.toInt < lo
    · exact Or.inl hlo
    · by_cases hhi : hi < x.toInt
      · exact Or.inr hhi
      · exfalso
        have g3 := List.all_eq_true.mp h2.2 (x.toInt - lo).toNat (List.mem_range.mpr (by omega))
        obtain ⟨q, g4, g5⟩ := List.any_eq_true.mp g3
        have g6 := of_decide_eq_true g5
        exact g1 q g4 (Int32.toInt_inj.mp (by rw [g6]; omega))
theorem e_osw_out {d : Int} {x : Int} : ∀ {ps : List (Int × Int)}, (∀ a ∈ ps, ¬ a.1 = x) → Op.lookupswitch.offset ps d x = d
  | [], _ => by simp [Op.lookupswitch.offset]
  | (a, o) :: r, h => by
    rw [Op.lookupswitch.offset_cons, if_neg (h _ List.mem_cons_self)]
    exact e_osw_out (fun z hz => h z (List.mem_cons_of_mem _ hz))
theorem e_lookup_ok {dflt : Int} {ps : Array (Int × Int)} {len r1 : Nat} {sw : List (Int32 × Nat)} {x : Int32} (hx : p.tables.exec = Jvm.exec) (hb : c.code = mBy y) (hdg : decode (mBy y) pc = .ok (.lookupswitch dflt ps, len)) (h1 : (pc : Int) + dflt = (r1 : Int)) (h2 : e_swL pc dflt ps sw = true)
    (kk : e_sw sw r1 x (fun t => W p l e R s m args below meth c H locs cells slots Z (F0 m t ls rest))) : W p l e R s m args below meth c H locs cells slots Z (F0 m pc ls (.int x :: rest)) := by
  unfold e_swL at h2
  rw [Bool.and_eq_true, Bool.and_eq_true] at h2
  rcases e_sw_spec kk with ⟨t, g1, g2⟩ | ⟨g1, g2⟩
  · have g3 := List.all_eq_true.mp h2.1.1 _ g1
    simp only [decide_eq_true_eq] at g3
    exact lv_lookup hx hb hdg h2.2 g3 (by omega) g2
  · refine lv_lookup hx hb hdg h2.2 (e_osw_out (d := dflt) fun a ha => ?_) h1 g2
    have g3 := List.all_eq_true.mp h2.1.2 a ha
    obtain ⟨q, g4, g5⟩ := List.any_eq_true.mp g3
    have g6 := of_decide_eq_true g5
    exact fun z => g1 q g4 (Int32.toInt_inj.mp (by rw [g6]; exact z))
end ESOUND
theorem e_run_map {η : Type} {I : e_IT η} {y pc : Nat} {L : List (Option Value)} {st : List Value} {B : Nat × Nat} {h : η} {Q : Option Value → η → Prop} (k : e_RunI I y pc L st B h Q) : e_Run y pc L st B (I.1 h) (fun r σ => ∃ h', σ = I.1 h' ∧ Q r h') := k
theorem e_dropW {n : Nat} : ∀ {st : List Value}, n ≤ st.length → st = st.take n ++ st.drop n := fun {st} _ => (List.take_append_drop n st).symm
theorem e_isP_ok {η : Type} {I : e_IT η} (i1 : ∀ h o c k v, I.2.1 h o c k = some v → g_get (I.1 h) o c k = some v) {h : η} {ci : Nat} : ∀ {st : List Value} {n : Nat}, e_isP I h ci st n = true → e_isO (I.1 h) ci st n = true
  | [], n, k => by cases n <;> simp [e_isP] at k
  | v :: r, 0, k => by
    cases v <;> simp only [e_isP] at k <;> try (cases k)
    next o =>
      cases hg : I.2.1 h o ci 0 with
      | none => rw [hg] at k; cases k
      | some w =>
        obtain ⟨g1, g2, -⟩ := g_get_spec (i1 _ _ _ _ _ hg)
        show (Nat.blt o (I.1 h).1.1 && Nat.beq ((I.1 h).1.2 o).1 ci) = true
        rw [Bool.and_eq_true]
        exact ⟨by simpa [Nat.blt_eq] using g1, by simpa using g2⟩
  | v :: r, n + 1, k => by
    have k' : e_isP I h ci r n = true := by cases v <;> simpa [e_isP] using k
    have k2 := e_isP_ok i1 k'
    cases v <;> simpa [e_isO] using k2
set_option maxHeartbeats 8000000 in
theorem e_call_ok {η : Type} {I : e_IT η} {y r1 n x pc : Nat} {i : Instr} {virt nest : Bool} {L : List (Option Value)} {st : List Value} {B : Nat × Nat} {h : η} {Q : Option Value → η → Prop} {K : Nat → List (Option Value) → List Value → Nat × Nat → η → Prop} (i1 : ∀ h o c k v, I.2.1 h o c k = some v → g_get (I.1 h) o c k = some v) (ih : ∀ pc L st B h, K pc L st B h → e_RunI I y pc L st B h Q)
    (hk : e_call I r1 (if virt then n + 1 else n) virt pc L st B h K) (hdg : decode (mBy y) pc = .ok (i, 3)) (hok : e_callOk y r1 n = true) (hneed : ∀ w ∈ ([e_link y r1 x nest, .initialized (mNm r1).cls, .code (mNm r1) (mBy r1) (mML r1) (mRet r1)] : List Cond), w ∈ e_WS)
    (hkind : (i = .invokestatic x ∧ virt = false ∧ (Cond.static (mNm r1)) ∈ e_WS) ∨ (i = .invokevirtual x ∧ virt = true ∧ (Cond.instanceMethod (mNm r1)) ∈ e_WS ∧ (Cond.selects (mNm r1).cls (mNm r1) (mNm r1)) ∈ e_WS ∧ mCi r1 < 12 ∧ (e_ct (mCi r1)).1 = (mNm r1).cls) ∨ (i = .invokespecial x ∧ virt = true ∧ (Cond.instanceMethod (mNm r1)) ∈ e_WS ∧ (mNm r1).name = "<init>" ∧ mRet r1 = none)) : e_RunI I y pc L st B h Q := by
  intro p l e R s m args below meth c D b cI cS H0 Z Cx H locs cells slots ls hS hlo hc1 hc2 hL
  obtain ⟨hx, hb, hml, hown, hts, hK, hfr, hlc, hnm, hret, -⟩ := id Cx
  unfold e_call at hk
  cases hq : (Nat.ble (if virt then n + 1 else n) st.length && (Nat.ble (e_cat (st.drop (if virt then n + 1 else n))) 8 && (Nat.ble (mRm r1).cells B.1 && (Nat.ble (mRm r1).slots B.2 && (!virt || e_isP I h (mCi r1) st ((if virt then n + 1 else n) - 1)))))) with
  | false => rw [hq] at hk; exact hk.elim
  | true =>
    rw [hq] at hk
    simp only [Bool.and_eq_true] at hq
    obtain ⟨k1, k2, k3, k4, k5⟩ := hq
    have k1 := Nat.le_of_ble_eq_true k1
    have k2 := Nat.le_of_ble_eq_true k2
    have k3 := Nat.le_of_ble_eq_true k3
    have k4 := Nat.le_of_ble_eq_true k4
    simp only [cond_true] at hk
    have hk : e_CallI I r1 (st.take (if virt then n + 1 else n)).reverse h (fun r h' => K (pc + 3) L (r.toList ++ st.drop (if virt then n + 1 else n)) (B.1 - (mRm r1).cells, B.2 - (mRm r1).slots) h') := by
      cases hz : (Nat.beq (mRm r1).cells 0 && Nat.beq (mRm r1).slots 0) with
      | false => rw [hz] at hk; exact hk
      | true =>
        rw [hz] at hk
        rw [Bool.and_eq_true] at hz
        rw [Nat.eq_of_beq_eq_true hz.1, Nat.eq_of_beq_eq_true hz.2]
        exact hk
    obtain ⟨CB, CN⟩ := e_calls (R := R) (x := x) (n := n) (nest := nest) hts hok (hneed _ (by simp)) (hneed _ (by simp)) (hneed _ (by simp)) hfr hlc
    have hM := hk l D b cI cS H0
    have S : CallFix p m c (mBy y) (mML y) s args e_WS (mNm y).cls := ⟨hx, hb, hml, hown, hts⟩
    have hPc : ∀ U : State, U.heap = H → s.WarmedH U.vm → e_Pc D b cI cS H0 (I.1 h) ((st.take (if virt then n + 1 else n)).reverse) (((st.take (if virt then n + 1 else n)).reverse.map (e_v b)).toArray) U := fun U hU hW => ⟨rfl, by rw [hU]; exact hS, va_K.moved hW.alike hK⟩
    have hsz : ls.size = mML y := by obtain ⟨-, lv, h1, -⟩ := hL; exact h1.1
    have hrestW : ∀ g : JFrame, g.monitorRoom = 0 → 2 * g.monitorRoom + (((st.drop (if virt then n + 1 else n)).map (e_v b)).map fun v => v.category).sum ≤ 8 := fun g hg => by rw [hg, e_cat_sum]; omega
    have hroom : cells + (mRm r1).cells ≤ R.cells ∧ slots + (mRm r1).slots ≤ R.slots := ⟨by omega, by omega⟩
    have fin : ∀ (r : Option Value) (σ' : Sg) (H' : Heap) (locs' : List Loc), (∃ h', σ' = I.1 h' ∧ K (pc + 3) L (r.toList ++ st.drop (if virt then n + 1 else n)) (B.1 - (mRm r1).cells, B.2 - (mRm r1).slots) h') → e_Sim D b cI cS H0 σ' H' → (∀ q ∈ locs', b ≤ q.base) → W p l e R s m args below meth c H' locs' (cells + (mRm r1).cells) (slots + (mRm r1).slots) Z (F0 m (pc + 3) ls ((r.toList ++ st.drop (if virt then n + 1 else n)).map (e_v b))) := by
      intro r σ' H' locs' ⟨h', e1, hK'⟩ hS' hlo'
      subst e1
      exact ih _ _ _ _ _ hK' p l e R s m args below meth c D b cI cS H0 Z Cx H' locs' _ _ ls hS' hlo' (by show cells + (mRm r1).cells + (B.1 - (mRm r1).cells) ≤ R.cells; omega) (by show slots + (mRm r1).slots + (B.2 - (mRm r1).slots) ≤ R.slots; omega) hL
    rcases hkind with ⟨rfl, rfl, hst⟩ | ⟨rfl, rfl, hin, hse, hci, hcn⟩ | ⟨rfl, rfl, hin, hini, hret0⟩
    · simp only [Bool.false_eq_true, if_false] at *
      have hstk : st.map (e_v b) = ((st.take n).reverse.map (e_v b)).reverse ++ (st.drop n).map (e_v b) := by
        rw [← List.map_reverse, List.reverse_reverse, ← List.map_append, List.take_append_drop]
      have hlen : ((st.take n).reverse.map (e_v b)).length = n := by simp; omega
      cases nest with
      | false => exact e_back (va_runS S hM ⟨CB rfl, hts _ hst⟩ ⟨e_blind, hPc⟩ rfl hlen hsz hstk (hrestW _ rfl) hdg hroom) hlo fin
      | true => exact e_back (va_runSN S hM ⟨CN rfl, hts _ hst, trivial⟩ ⟨e_blind, hPc⟩ rfl hlen hsz hstk (hrestW _ rfl) hdg hroom) hlo fin
    · simp only [if_true, Nat.add_sub_cancel, Bool.not_true, Bool.false_or] at *
      obtain ⟨pre, o, rst, z1, z2, z3, z4⟩ := e_isO_spec (e_isP_ok i1 k5)
      have hd : st.drop (n + 1) = rst := by rw [z1, ← z2]; simp
      have ht : (st.take (n + 1)).reverse = .ref o :: pre.reverse := by
        have e0 : pre ++ Value.ref o :: rst = (pre ++ [Value.ref o]) ++ rst := by simp
        rw [z1, ← z2, e0, List.take_left' (by simp)]
        simp
      rw [ht] at hM hPc
      rw [hd] at hM fin hrestW
      have hstk : st.map (e_v b) = (pre.reverse.map (e_v b)).reverse ++ .ref (b + o) :: rst.map (e_v b) := by
        rw [z1]; simp [e_v]
      have hlen : (pre.reverse.map (e_v b)).length = n := by simp [z2]
      have hrec : ∃ cellB : Cell, H[b + o]? = some cellB ∧ cellB.vm.isStatics = false ∧ s.vm.findClass (mNm r1).cls = some cellB.cls := by
        have := va_recv (q0 := 0) hK (va_one (sim_obj hS z3 z4 hci)) (e_cls_at hci) rfl
        rw [hcn] at this
        exact this
      cases nest with
      | false => exact e_back (va_runV (b := b + o) (As := pre.reverse.map (e_v b)) S hM ⟨CB rfl, hts _ hin, hts _ hse⟩ ⟨e_blind, hrec, hPc⟩ rfl hlen hsz hstk (hrestW _ rfl) hdg hroom) hlo fin
      | true => exact e_back (va_runVN (b := b + o) (As := pre.reverse.map (e_v b)) S hM ⟨CN rfl, hts _ hin, hts _ hse⟩ ⟨e_blind, hrec, hPc⟩ rfl hlen hsz hstk (hrestW _ rfl) hdg hroom) hlo fin
    · simp only [if_true, Nat.add_sub_cancel, Bool.not_true, Bool.false_or] at *
      obtain ⟨pre, o, rst, z1, z2, z3, z4⟩ := e_isO_spec (e_isP_ok i1 k5)
      have hd : st.drop (n + 1) = rst := by rw [z1, ← z2]; simp
      have ht : (st.take (n + 1)).reverse = .ref o :: pre.reverse := by
        have e0 : pre ++ Value.ref o :: rst = (pre ++ [Value.ref o]) ++ rst := by simp
        rw [z1, ← z2, e0, List.take_left' (by simp)]
        simp
      rw [ht] at hM hPc
      rw [hd] at hM fin hrestW
      rw [hret0] at CB CN
      have hstk : st.map (e_v b) = (pre.reverse.map (e_v b)).reverse ++ .ref (b + o) :: rst.map (e_v b) := by
        rw [z1]; simp [e_v]
      have hlen : (pre.reverse.map (e_v b)).length = n := by simp [z2]
      cases nest with
      | false => exact e_back (va_runI (b := b + o) (As := pre.reverse.map (e_v b)) S hM ⟨CB rfl, hini, hts _ hin⟩ ⟨e_blind, hPc⟩ rfl hlen hsz hstk (hrestW _ rfl) hdg hroom) hlo fin
      | true => exact e_back (va_runIN (b := b + o) (As := pre.reverse.map (e_v b)) S hM ⟨CN rfl, hini, hts _ hin⟩ ⟨e_blind, hPc⟩ rfl hlen hsz hstk (hrestW _ rfl) hdg hroom) hlo fin
end
section
theorem e_sw_map {x : Int32} {d : Nat} {k k' : Nat → Prop} (hkk : ∀ t, k t → k' t) : ∀ {sw : List (Int32 × Nat)}, e_sw sw d x k → e_sw sw d x k'
  | [], h => hkk _ h
  | (v, t) :: r, h => by
    unfold e_sw at h ⊢
    by_cases hx : x = v
    · rw [if_pos hx] at h ⊢
      exact hkk _ h
    · rw [if_neg hx] at h ⊢
      exact e_sw_map hkk h
theorem e_pure_len {y pc len r1 r2 : Nat} {nest : Bool} {hh : List Nat} {i : Instr} {sw : List (Int32 × Nat)} {L L' : List (Option Value)} {st st' : List Value} (h : e_pure i sw r1 L st = some (L', st')) (hok : e_okB y pc (i, len, r1, r2, nest, hh, sw) = true) : len = e_len i ∧ e_need y i r1 0 false sw = e_need y i r1 r2 nest sw := by
  unfold e_pure at h
  split at h <;> first
    | (cases h; done)
    | (simp only [e_okB, Bool.and_eq_true] at hok; exact ⟨Nat.eq_of_beq_eq_true hok.2, rfl⟩)
theorem g_rlen_of {σ : Sg} {a : Nat} {v : Value} (h : g_rget σ a 0 = some v) : g_rlen σ a = some (σ.1.2 a).2 := by
  obtain ⟨h1, h2, -⟩ := g_rget_spec h
  unfold g_rlen
  rw [show (Nat.blt a σ.1.1 && Nat.beq (σ.1.2 a).1 101) = true by rw [Bool.and_eq_true]; exact ⟨by simpa [Nat.blt_eq] using h1, by rw [h2]; rfl⟩]
  rfl
set_option maxHeartbeats 16000000 in
theorem e_k_ok {η : Type} {I : e_IT η} (hI : e_IOk I) {y pc len r1 r2 : Nat} {nest : Bool} {hh : List Nat} {i : Instr} {sw : List (Int32 × Nat)} {L : List (Option Value)} {st : List Value} {B : Nat × Nat} {h : η} {Q : Option Value → η → Prop} {K : Nat → List (Option Value) → List Value → Nat × Nat → η → Prop} (hM : OkM y) (ho : e_op y pc = some (i, len, r1, r2, nest, hh, sw)) (ih : ∀ pc L st B h, K pc L st B h → e_RunI I y pc L st B h Q)
    (hk : e_k I y i len r1 r2 sw pc L st B h Q K) : e_RunI I y pc L st B h Q := by
  obtain ⟨hok, hneed⟩ := okm_at hM ho
  obtain ⟨hdg, hsw⟩ := okb_dec hok
  dsimp only at hdg hsw
  unfold e_k at hk
  obtain ⟨i1, i2, i3, i4, i5, i6, i7, i8, i9, i10⟩ := hI
  split at hk
  -- goto
  · simp only [e_okB, Bool.and_eq_true, decide_eq_true_eq] at hok
    have hlen := Nat.eq_of_beq_eq_true hok.2.1
    subst hlen
    intro p l e R s m args below meth c D b cI cS H0 Z Cx H locs cells slots ls hS hlo hc1 hc2 hL
    obtain ⟨hx, hb, hml, hown, hts, hK, hfr, hlc, hnm, hret, -⟩ := id Cx
    have go : ∀ pc' L' st' ls', K pc' L' st' B h → e_LH b (e_x0 y args) ls' (mML y) L' → W p l e R s m args below meth c H locs cells slots Z (F0 m pc' ls' (st'.map (e_v b))) := fun pc' L' st' ls' hK' hL' => ih _ _ _ _ _ hK' p l e R s m args below meth c D b cI cS H0 Z Cx H locs cells slots ls' hS hlo hc1 hc2 hL'
    exact lv_goto hx hb hdg hok.2.2 (go _ _ _ _ hk hL)
  -- icmp eq
  · simp only [e_okB, Bool.and_eq_true, decide_eq_true_eq] at hok
    have hlen := Nat.eq_of_beq_eq_true hok.2.1
    subst hlen
    split at hk
    · intro p l e R s m args below meth c D b cI cS H0 Z Cx H locs cells slots ls hS hlo hc1 hc2 hL
      obtain ⟨hx, hb, hml, hown, hts, hK, hfr, hlc, hnm, hret, -⟩ := id Cx
      have go : ∀ pc' L' st' ls', K pc' L' st' B h → e_LH b (e_x0 y args) ls' (mML y) L' → W p l e R s m args below meth c H locs cells slots Z (F0 m pc' ls' (st'.map (e_v b))) := fun pc' L' st' ls' hK' hL' => ih _ _ _ _ _ hK' p l e R s m args below meth c D b cI cS H0 Z Cx H locs cells slots ls' hS hlo hc1 hc2 hL'
      refine lv_icmp_eq hx hb hdg hok.2.2 (fun hc => ?_) (fun hc => ?_)
      · rw [if_pos hc] at hk
        exact go _ _ _ _ hk hL
      · rw [if_neg hc] at hk
        exact go _ _ _ _ hk hL
    · exact hk.elim
  -- icmp ne
  · simp only [e_okB, Bool.and_eq_true, decide_eq_true_eq] at hok
    have hlen := Nat.eq_of_beq_eq_true hok.2.1
    subst hlen
    split at hk
    · intro p l e R s m args below meth c D b cI cS H0 Z Cx H locs cells slots ls hS hlo hc1 hc2 hL
      obtain ⟨hx, hb, hml, hown, hts, hK, hfr, hlc, hnm, hret, -⟩ := id Cx
      have go : ∀ pc' L' st' ls', K pc' L' st' B h → e_LH b (e_x0 y args) ls' (mML y) L' → W p l e R s m args below meth c H locs cells slots Z (F0 m pc' ls' (st'.map (e_v b))) := fun pc' L' st' ls' hK' hL' => ih _ _ _ _ _ hK' p l e R s m args below meth c D b cI cS H0 Z Cx H locs cells slots ls' hS hlo hc1 hc2 hL'
      refine lv_icmp_ne hx hb hdg hok.2.2 (fun hc => ?_) (fun hc => ?_)
      · rw [if_neg hc] at hk
        exact go _ _ _ _ hk hL
      · rw [if_pos hc] at hk
        exact go _ _ _ _ hk hL
    · exact hk.elim
  -- icmp lt
  · simp only [e_okB, Bool.and_eq_true, decide_eq_true_eq] at hok
    have hlen := Nat.eq_of_beq_eq_true hok.2.1
    subst hlen
    split at hk
    · intro p l e R s m args below meth c D b cI cS H0 Z Cx H locs cells slots ls hS hlo hc1 hc2 hL
      obtain ⟨hx, hb, hml, hown, hts, hK, hfr, hlc, hnm, hret, -⟩ := id Cx
      have go : ∀ pc' L' st' ls', K pc' L' st' B h → e_LH b (e_x0 y args) ls' (mML y) L' → W p l e R s m args below meth c H locs cells slots Z (F0 m pc' ls' (st'.map (e_v b))) := fun pc' L' st' ls' hK' hL' => ih _ _ _ _ _ hK' p l e R s m args below meth c D b cI cS H0 Z Cx H locs cells slots ls' hS hlo hc1 hc2 hL'
      refine lv_icmp_lt hx hb hdg hok.2.2 (fun hc => ?_) (fun hc => ?_)
      · rw [if_pos hc] at hk
        exact go _ _ _ _ hk hL
      · rw [if_neg hc] at hk
        exact go _ _ _ _ hk hL
    · exact hk.elim
  -- icmp ge
  · simp only [e_okB, Bool.and_eq_true, decide_eq_true_eq] at hok
    have hlen := Nat.eq_of_beq_eq_true hok.2.1
    subst hlen
    split at hk
    · intro p l e R s m args below meth c D b cI cS H0 Z Cx H locs cells slots ls hS hlo hc1 hc2 hL
      obtain ⟨hx, hb, hml, hown, hts, hK, hfr, hlc, hnm, hret, -⟩ := id Cx
      have go : ∀ pc' L' st' ls', K pc' L' st' B h → e_LH b (e_x0 y args) ls' (mML y) L' → W p l e R s m args below meth c H locs cells slots Z (F0 m pc' ls' (st'.map (e_v b))) := fun pc' L' st' ls' hK' hL' => ih _ _ _ _ _ hK' p l e R s m args below meth c D b cI cS H0 Z Cx H locs cells slots ls' hS hlo hc1 hc2 hL'
      refine lv_icmp_ge hx hb hdg hok.2.2 (fun hc => ?_) (fun hc => ?_)
      · rw [if_pos hc] at hk
        exact go _ _ _ _ hk hL
      · rw [if_neg hc] at hk
        exact go _ _ _ _ hk hL
    · exact hk.elim
  -- icmp gt
  · simp only [e_okB, Bool.and_eq_true, decide_eq_true_eq] at hok
    have hlen := Nat.eq_of_beq_eq_true hok.2.1
    subst hlen
    split at hk
    · intro p l e R s m args below meth c D b cI cS H0 Z Cx H locs cells slots ls hS hlo hc1 hc2 hL
      obtain ⟨hx, hb, hml, hown, hts, hK, hfr, hlc, hnm, hret, -⟩ := id Cx
      have go : ∀ pc' L' st' ls', K pc' L' st' B h → e_LH b (e_x0 y args) ls' (mML y) L' → W p l e R s m args below meth c H locs cells slots Z (F0 m pc' ls' (st'.map (e_v b))) := fun pc' L' st' ls' hK' hL' => ih _ _ _ _ _ hK' p l e R s m args below meth c D b cI cS H0 Z Cx H locs cells slots ls' hS hlo hc1 hc2 hL'
      refine lv_icmp_gt hx hb hdg hok.2.2 (fun hc => ?_) (fun hc => ?_)
      · rw [if_pos hc] at hk
        exact go _ _ _ _ hk hL
      · rw [if_neg hc] at hk
        exact go _ _ _ _ hk hL
    · exact hk.elim
  -- icmp le
  · simp only [e_okB, Bool.and_eq_true, decide_eq_true_eq] at hok
    have hlen := Nat.eq_of_beq_eq_true hok.2.1
    subst hlen
    split at hk
    · intro p l e R s m args below meth c D b cI cS H0 Z Cx H locs cells slots ls hS hlo hc1 hc2 hL
      obtain ⟨hx, hb, hml, hown, hts, hK, hfr, hlc, hnm, hret, -⟩ := id Cx
      have go : ∀ pc' L' st' ls', K pc' L' st' B h → e_LH b (e_x0 y args) ls' (mML y) L' → W p l e R s m args below meth c H locs cells slots Z (F0 m pc' ls' (st'.map (e_v b))) := fun pc' L' st' ls' hK' hL' => ih _ _ _ _ _ hK' p l e R s m args below meth c D b cI cS H0 Z Cx H locs cells slots ls' hS hlo hc1 hc2 hL'
      refine lv_icmp_le hx hb hdg hok.2.2 (fun hc => ?_) (fun hc => ?_)
      · rw [if_pos hc] at hk
        exact go _ _ _ _ hk hL
      · rw [if_neg hc] at hk
        exact go _ _ _ _ hk hL
    · exact hk.elim
  -- if eq
  · simp only [e_okB, Bool.and_eq_true, decide_eq_true_eq] at hok
    have hlen := Nat.eq_of_beq_eq_true hok.2.1
    subst hlen
    split at hk
    · intro p l e R s m args below meth c D b cI cS H0 Z Cx H locs cells slots ls hS hlo hc1 hc2 hL
      obtain ⟨hx, hb, hml, hown, hts, hK, hfr, hlc, hnm, hret, -⟩ := id Cx
      have go : ∀ pc' L' st' ls', K pc' L' st' B h → e_LH b (e_x0 y args) ls' (mML y) L' → W p l e R s m args below meth c H locs cells slots Z (F0 m pc' ls' (st'.map (e_v b))) := fun pc' L' st' ls' hK' hL' => ih _ _ _ _ _ hK' p l e R s m args below meth c D b cI cS H0 Z Cx H locs cells slots ls' hS hlo hc1 hc2 hL'
      refine lv_if_eq hx hb hdg hok.2.2 (fun hc => ?_) (fun hc => ?_)
      · rw [if_pos hc] at hk
        exact go _ _ _ _ hk hL
      · rw [if_neg hc] at hk
        exact go _ _ _ _ hk hL
    · exact hk.elim
  -- if ne
  · simp only [e_okB, Bool.and_eq_true, decide_eq_true_eq] at hok
    have hlen := Nat.eq_of_beq_eq_true hok.2.1
    subst hlen
    split at hk
    · intro p l e R s m args below meth c D b cI cS H0 Z Cx H locs cells slots ls hS hlo hc1 hc2 hL
      obtain ⟨hx, hb, hml, hown, hts, hK, hfr, hlc, hnm, hret, -⟩ := id Cx
      have go : ∀ pc' L' st' ls', K pc' L' st' B h → e_LH b (e_x0 y args) ls' (mML y) L' → W p l e R s m args below meth c H locs cells slots Z (F0 m pc' ls' (st'.map (e_v b))) := fun pc' L' st' ls' hK' hL' => ih _ _ _ _ _ hK' p l e R s m args below meth c D b cI cS H0 Z Cx H locs cells slots ls' hS hlo hc1 hc2 hL'
      refine lv_if_ne hx hb hdg hok.2.2 (fun hc => ?_) (fun hc => ?_)
      · rw [if_neg hc] at hk
        exact go _ _ _ _ hk hL
      · rw [if_pos hc] at hk
        exact go _ _ _ _ hk hL
    · exact hk.elim
  -- if lt
  · simp only [e_okB, Bool.and_eq_true, decide_eq_true_eq] at hok
    have hlen := Nat.eq_of_beq_eq_true hok.2.1
    subst hlen
    split at hk
    · intro p l e R s m args below meth c D b cI cS H0 Z Cx H locs cells slots ls hS hlo hc1 hc2 hL
      obtain ⟨hx, hb, hml, hown, hts, hK, hfr, hlc, hnm, hret, -⟩ := id Cx
      have go : ∀ pc' L' st' ls', K pc' L' st' B h → e_LH b (e_x0 y args) ls' (mML y) L' → W p l e R s m args below meth c H locs cells slots Z (F0 m pc' ls' (st'.map (e_v b))) := fun pc' L' st' ls' hK' hL' => ih _ _ _ _ _ hK' p l e R s m args below meth c D b cI cS H0 Z Cx H locs cells slots ls' hS hlo hc1 hc2 hL'
      refine lv_if_lt hx hb hdg hok.2.2 (fun hc => ?_) (fun hc => ?_)
      · rw [if_pos hc] at hk
        exact go _ _ _ _ hk hL
      · rw [if_neg hc] at hk
        exact go _ _ _ _ hk hL
    · exact hk.elim
  -- if ge
  · simp only [e_okB, Bool.and_eq_true, decide_eq_true_eq] at hok
    have hlen := Nat.eq_of_beq_eq_true hok.2.1
    subst hlen
    split at hk
    · intro p l e R s m args below meth c D b cI cS H0 Z Cx H locs cells slots ls hS hlo hc1 hc2 hL
      obtain ⟨hx, hb, hml, hown, hts, hK, hfr, hlc, hnm, hret, -⟩ := id Cx
      have go : ∀ pc' L' st' ls', K pc' L' st' B h → e_LH b (e_x0 y args) ls' (mML y) L' → W p l e R s m args below meth c H locs cells slots Z (F0 m pc' ls' (st'.map (e_v b))) := fun pc' L' st' ls' hK' hL' => ih _ _ _ _ _ hK' p l e R s m args below meth c D b cI cS H0 Z Cx H locs cells slots ls' hS hlo hc1 hc2 hL'
      refine lv_if_ge hx hb hdg hok.2.2 (fun hc => ?_) (fun hc => ?_)
      · rw [if_pos hc] at hk
        exact go _ _ _ _ hk hL
      · rw [if_neg hc] at hk
        exact go _ _ _ _ hk hL
    · exact hk.elim
  -- if gt
  · simp only [e_okB, Bool.and_eq_true, decide_eq_true_eq] at hok
    have hlen := Nat.eq_of_beq_eq_true hok.2.1
    subst hlen
    split at hk
    · intro p l e R s m args below meth c D b cI cS H0 Z Cx H locs cells slots ls hS hlo hc1 hc2 hL
      obtain ⟨hx, hb, hml, hown, hts, hK, hfr, hlc, hnm, hret, -⟩ := id Cx
      have go : ∀ pc' L' st' ls', K pc' L' st' B h → e_LH b (e_x0 y args) ls' (mML y) L' → W p l e R s m args below meth c H locs cells slots Z (F0 m pc' ls' (st'.map (e_v b))) := fun pc' L' st' ls' hK' hL' => ih _ _ _ _ _ hK' p l e R s m args below meth c D b cI cS H0 Z Cx H locs cells slots ls' hS hlo hc1 hc2 hL'
      refine lv_if_gt hx hb hdg hok.2.2 (fun hc => ?_) (fun hc => ?_)
      · rw [if_pos hc] at hk
        exact go _ _ _ _ hk hL
      · rw [if_neg hc] at hk
        exact go _ _ _ _ hk hL
    · exact hk.elim
  -- if le
  · simp only [e_okB, Bool.and_eq_true, decide_eq_true_eq] at hok
    have hlen := Nat.eq_of_beq_eq_true hok.2.1
    subst hlen
    split at hk
    · intro p l e R s m args below meth c D b cI cS H0 Z Cx H locs cells slots ls hS hlo hc1 hc2 hL
      obtain ⟨hx, hb, hml, hown, hts, hK, hfr, hlc, hnm, hret, -⟩ := id Cx
      have go : ∀ pc' L' st' ls', K pc' L' st' B h → e_LH b (e_x0 y args) ls' (mML y) L' → W p l e R s m args below meth c H locs cells slots Z (F0 m pc' ls' (st'.map (e_v b))) := fun pc' L' st' ls' hK' hL' => ih _ _ _ _ _ hK' p l e R s m args below meth c D b cI cS H0 Z Cx H locs cells slots ls' hS hlo hc1 hc2 hL'
      refine lv_if_le hx hb hdg hok.2.2 (fun hc => ?_) (fun hc => ?_)
      · rw [if_pos hc] at hk
        exact go _ _ _ _ hk hL
      · rw [if_neg hc] at hk
        exact go _ _ _ _ hk hL
    · exact hk.elim
  -- ifnull
  · simp only [e_okB, Bool.and_eq_true, decide_eq_true_eq] at hok
    have hlen : len = 3 := Nat.eq_of_beq_eq_true hok.2
    subst hlen
    split at hk
    · intro p l e R s m args below meth c D b cI cS H0 Z Cx H locs cells slots ls hS hlo hc1 hc2 hL
      obtain ⟨hx, hb, hml, hown, hts, hK, hfr, hlc, hnm, hret, -⟩ := id Cx
      have go : ∀ pc' L' st' ls', K pc' L' st' B h → e_LH b (e_x0 y args) ls' (mML y) L' → W p l e R s m args below meth c H locs cells slots Z (F0 m pc' ls' (st'.map (e_v b))) := fun pc' L' st' ls' hK' hL' => ih _ _ _ _ _ hK' p l e R s m args below meth c D b cI cS H0 Z Cx H locs cells slots ls' hS hlo hc1 hc2 hL'
      exact lv_ifnull hx hb hdg (go _ _ _ _ hk hL)
    · exact hk.elim
  -- tableswitch
  · simp only [e_okB, Bool.and_eq_true, decide_eq_true_eq] at hok
    split at hk
    · intro p l e R s m args below meth c D b cI cS H0 Z Cx H locs cells slots ls hS hlo hc1 hc2 hL
      obtain ⟨hx, hb, hml, hown, hts, hK, hfr, hlc, hnm, hret, -⟩ := id Cx
      have go : ∀ pc' L' st' ls', K pc' L' st' B h → e_LH b (e_x0 y args) ls' (mML y) L' → W p l e R s m args below meth c H locs cells slots Z (F0 m pc' ls' (st'.map (e_v b))) := fun pc' L' st' ls' hK' hL' => ih _ _ _ _ _ hK' p l e R s m args below meth c D b cI cS H0 Z Cx H locs cells slots ls' hS hlo hc1 hc2 hL'
      exact e_table_ok hx hb hdg hok.2.1 hok.2.2 (e_sw_map (fun t ht => go _ _ _ _ ht hL) hk)
    · exact hk.elim
  -- lookupswitch
  · simp only [e_okB, Bool.and_eq_true, decide_eq_true_eq] at hok
    split at hk
    · intro p l e R s m args below meth c D b cI cS H0 Z Cx H locs cells slots ls hS hlo hc1 hc2 hL
      obtain ⟨hx, hb, hml, hown, hts, hK, hfr, hlc, hnm, hret, -⟩ := id Cx
      have go : ∀ pc' L' st' ls', K pc' L' st' B h → e_LH b (e_x0 y args) ls' (mML y) L' → W p l e R s m args below meth c H locs cells slots Z (F0 m pc' ls' (st'.map (e_v b))) := fun pc' L' st' ls' hK' hL' => ih _ _ _ _ _ hK' p l e R s m args below meth c D b cI cS H0 Z Cx H locs cells slots ls' hS hlo hc1 hc2 hL'
      exact e_lookup_ok hx hb hdg hok.2.1 hok.2.2 (e_sw_map (fun t ht => go _ _ _ _ ht hL) hk)
    · exact hk.elim
  -- idiv
  · simp only [e_okB, Bool.and_eq_true, decide_eq_true_eq] at hok
    have hlen : len = 1 := Nat.eq_of_beq_eq_true hok.2
    subst hlen
    split at hk
    · intro p l e R s m args below meth c D b cI cS H0 Z Cx H locs cells slots ls hS hlo hc1 hc2 hL
      obtain ⟨hx, hb, hml, hown, hts, hK, hfr, hlc, hnm, hret, -⟩ := id Cx
      have go : ∀ pc' L' st' ls', K pc' L' st' B h → e_LH b (e_x0 y args) ls' (mML y) L' → W p l e R s m args below meth c H locs cells slots Z (F0 m pc' ls' (st'.map (e_v b))) := fun pc' L' st' ls' hK' hL' => ih _ _ _ _ _ hK' p l e R s m args below meth c D b cI cS H0 Z Cx H locs cells slots ls' hS hlo hc1 hc2 hL'
      exact lv_idiv hx hb hdg hk.1 (go _ _ _ _ hk.2 hL)
    · exact hk.elim
  -- irem
  · simp only [e_okB, Bool.and_eq_true, decide_eq_true_eq] at hok
    have hlen : len = 1 := Nat.eq_of_beq_eq_true hok.2
    subst hlen
    split at hk
    · intro p l e R s m args below meth c D b cI cS H0 Z Cx H locs cells slots ls hS hlo hc1 hc2 hL
      obtain ⟨hx, hb, hml, hown, hts, hK, hfr, hlc, hnm, hret, -⟩ := id Cx
      have go : ∀ pc' L' st' ls', K pc' L' st' B h → e_LH b (e_x0 y args) ls' (mML y) L' → W p l e R s m args below meth c H locs cells slots Z (F0 m pc' ls' (st'.map (e_v b))) := fun pc' L' st' ls' hK' hL' => ih _ _ _ _ _ hK' p l e R s m args below meth c D b cI cS H0 Z Cx H locs cells slots ls' hS hlo hc1 hc2 hL'
      exact lv_irem hx hb hdg hk.1 (go _ _ _ _ hk.2 hL)
    · exact hk.elim
  -- getfield
  · simp only [e_okB, Bool.and_eq_true, decide_eq_true_eq] at hok
    have hlen := Nat.eq_of_beq_eq_true hok.2.1
    subst hlen
    have hr1 : r1 < 12 := by simpa [Nat.blt_eq] using hok.2.2.1
    have hr2 : r2 < (e_ct r1).2.2.1 := by simpa [Nat.blt_eq] using hok.2.2.2
    split at hk
    · split at hk
      · next hg =>
        intro p l e R s m args below meth c D b cI cS H0 Z Cx H locs cells slots ls hS hlo hc1 hc2 hL
        obtain ⟨hx, hb, hml, hown, hts, hK, hfr, hlc, hnm, hret, -⟩ := id Cx
        have go : ∀ pc' L' st' ls', K pc' L' st' B h → e_LH b (e_x0 y args) ls' (mML y) L' → W p l e R s m args below meth c H locs cells slots Z (F0 m pc' ls' (st'.map (e_v b))) := fun pc' L' st' ls' hK' hL' => ih _ _ _ _ _ hK' p l e R s m args below meth c D b cI cS H0 Z Cx H locs cells slots ls' hS hlo hc1 hc2 hL'
        exact e_getf_ok (nest := nest) hx hb hown hts hK hS (i1 _ _ _ _ _ hg) hr1 hr2 (hneed _ (by simp [e_need])) hdg (go _ _ _ _ hk hL)
      · exact hk.elim
    · exact hk.elim
  -- putfield
  · simp only [e_okB, Bool.and_eq_true, decide_eq_true_eq] at hok
    have hlen := Nat.eq_of_beq_eq_true hok.2.1
    subst hlen
    have hr1 : r1 < 12 := by simpa [Nat.blt_eq] using hok.2.2.1.1
    have hr2 : r2 < (e_ct r1).2.2.1 := by simpa [Nat.blt_eq] using hok.2.2.1.2
    split at hk
    · split at hk
      · next hg =>
        split at hk
        · next hbo =>
          intro p l e R s m args below meth c D b cI cS H0 Z Cx H locs cells slots ls hS hlo hc1 hc2 hL
          obtain ⟨hx, hb, hml, hown, hts, hK, hfr, hlc, hnm, hret, -⟩ := id Cx
          have go : ∀ pc' L' st' ls', K pc' L' st' B h → e_LH b (e_x0 y args) ls' (mML y) L' → W p l e R s m args below meth c H locs cells slots Z (F0 m pc' ls' (st'.map (e_v b))) := fun pc' L' st' ls' hK' hL' => ih _ _ _ _ _ hK' p l e R s m args below meth c D b cI cS H0 Z Cx H locs cells slots ls' hS hlo hc1 hc2 hL'
          refine e_putf_ok (nest := nest) hx hb hown hts hK hnm hS (i2 _ _ _ _ _ _ hg) hr1 hr2 (fun _ => hk.1) hok.2.2.2 (hneed _ (by simp [e_need])) hdg hlo (fun H' locs' hS' hlo' => ?_)
          exact ih _ _ _ _ _ hk.2 p l e R s m args below meth c D b cI cS H0 Z Cx H' locs' cells slots ls hS' hlo' hc1 hc2 hL
        · next hbo =>
          intro p l e R s m args below meth c D b cI cS H0 Z Cx H locs cells slots ls hS hlo hc1 hc2 hL
          obtain ⟨hx, hb, hml, hown, hts, hK, hfr, hlc, hnm, hret, -⟩ := id Cx
          have go : ∀ pc' L' st' ls', K pc' L' st' B h → e_LH b (e_x0 y args) ls' (mML y) L' → W p l e R s m args below meth c H locs cells slots Z (F0 m pc' ls' (st'.map (e_v b))) := fun pc' L' st' ls' hK' hL' => ih _ _ _ _ _ hK' p l e R s m args below meth c D b cI cS H0 Z Cx H locs cells slots ls' hS hlo hc1 hc2 hL'
          refine e_putf_ok (nest := nest) hx hb hown hts hK hnm hS (i2 _ _ _ _ _ _ hg) hr1 hr2 (fun z => (hbo z).elim) hok.2.2.2 (hneed _ (by simp [e_need])) hdg hlo (fun H' locs' hS' hlo' => ?_)
          exact ih _ _ _ _ _ hk p l e R s m args below meth c D b cI cS H0 Z Cx H' locs' cells slots ls hS' hlo' hc1 hc2 hL
      · exact hk.elim
    · exact hk.elim
  -- arraylength
  · simp only [e_okB, Bool.and_eq_true, decide_eq_true_eq] at hok
    have hlen : len = 1 := Nat.eq_of_beq_eq_true hok.2
    subst hlen
    split at hk
    · split at hk
      · next hg =>
        intro p l e R s m args below meth c D b cI cS H0 Z Cx H locs cells slots ls hS hlo hc1 hc2 hL
        obtain ⟨hx, hb, hml, hown, hts, hK, hfr, hlc, hnm, hret, -⟩ := id Cx
        have go : ∀ pc' L' st' ls', K pc' L' st' B h → e_LH b (e_x0 y args) ls' (mML y) L' → W p l e R s m args below meth c H locs cells slots Z (F0 m pc' ls' (st'.map (e_v b))) := fun pc' L' st' ls' hK' hL' => ih _ _ _ _ _ hK' p l e R s m args below meth c D b cI cS H0 Z Cx H locs cells slots ls' hS hlo hc1 hc2 hL'
        exact e_alen_ok hx hb hK hS (i3 _ _ _ hg) hdg (go _ _ _ _ hk hL)
      · split at hk
        · next hg =>
          intro p l e R s m args below meth c D b cI cS H0 Z Cx H locs cells slots ls hS hlo hc1 hc2 hL
          obtain ⟨hx, hb, hml, hown, hts, hK, hfr, hlc, hnm, hret, -⟩ := id Cx
          have go : ∀ pc' L' st' ls', K pc' L' st' B h → e_LH b (e_x0 y args) ls' (mML y) L' → W p l e R s m args below meth c H locs cells slots Z (F0 m pc' ls' (st'.map (e_v b))) := fun pc' L' st' ls' hK' hL' => ih _ _ _ _ _ hK' p l e R s m args below meth c D b cI cS H0 Z Cx H locs cells slots ls' hS hlo hc1 hc2 hL'
          exact e_rlen_ok hx hb hK hS (g_rlen_of (i6 _ _ _ _ hg)) hdg (go _ _ _ _ hk hL)
        · exact hk.elim
    · exact hk.elim
  -- iaload
  · simp only [e_okB, Bool.and_eq_true, decide_eq_true_eq] at hok
    have hlen : len = 1 := Nat.eq_of_beq_eq_true hok.2
    subst hlen
    split at hk
    · split at hk
      · next hg =>
        obtain ⟨j, hj1, hj2, hk⟩ := hk
        intro p l e R s m args below meth c D b cI cS H0 Z Cx H locs cells slots ls hS hlo hc1 hc2 hL
        obtain ⟨hx, hb, hml, hown, hts, hK, hfr, hlc, hnm, hret, -⟩ := id Cx
        have go : ∀ pc' L' st' ls', K pc' L' st' B h → e_LH b (e_x0 y args) ls' (mML y) L' → W p l e R s m args below meth c H locs cells slots Z (F0 m pc' ls' (st'.map (e_v b))) := fun pc' L' st' ls' hK' hL' => ih _ _ _ _ _ hK' p l e R s m args below meth c D b cI cS H0 Z Cx H locs cells slots ls' hS hlo hc1 hc2 hL'
        refine e_iald_ok hx hb hK hS (i3 _ _ _ hg) hj1 hj2 hdg ?_
        rw [i4]
        exact go _ _ _ _ hk hL
      · exact hk.elim
    · exact hk.elim
  -- iastore
  · simp only [e_okB, Bool.and_eq_true, decide_eq_true_eq] at hok
    have hlen : len = 1 := Nat.eq_of_beq_eq_true hok.2
    subst hlen
    split at hk
    · split at hk
      · next hg =>
        obtain ⟨j, hj1, hj2, hk⟩ := hk
        intro p l e R s m args below meth c D b cI cS H0 Z Cx H locs cells slots ls hS hlo hc1 hc2 hL
        obtain ⟨hx, hb, hml, hown, hts, hK, hfr, hlc, hnm, hret, -⟩ := id Cx
        have go : ∀ pc' L' st' ls', K pc' L' st' B h → e_LH b (e_x0 y args) ls' (mML y) L' → W p l e R s m args below meth c H locs cells slots Z (F0 m pc' ls' (st'.map (e_v b))) := fun pc' L' st' ls' hK' hL' => ih _ _ _ _ _ hK' p l e R s m args below meth c D b cI cS H0 Z Cx H locs cells slots ls' hS hlo hc1 hc2 hL'
        refine e_iast_ok hx hb hK hS (i3 _ _ _ hg) hj1 hj2 hdg hlo (fun H' locs' hS' hlo' => ?_)
        rw [show (I.1 h).2.2.2 _ = I.2.2.2.2.1 h _ from funext (fun j => i4 h _ j), ← i5] at hS'
        exact ih _ _ _ _ _ hk p l e R s m args below meth c D b cI cS H0 Z Cx H' locs' cells slots ls hS' hlo' hc1 hc2 hL
      · exact hk.elim
    · exact hk.elim
  -- aaload
  · simp only [e_okB, Bool.and_eq_true, decide_eq_true_eq] at hok
    have hlen : len = 1 := Nat.eq_of_beq_eq_true hok.2
    subst hlen
    split at hk
    · obtain ⟨j, hj1, hk⟩ := hk
      split at hk
      · next hg =>
        intro p l e R s m args below meth c D b cI cS H0 Z Cx H locs cells slots ls hS hlo hc1 hc2 hL
        obtain ⟨hx, hb, hml, hown, hts, hK, hfr, hlc, hnm, hret, -⟩ := id Cx
        have go : ∀ pc' L' st' ls', K pc' L' st' B h → e_LH b (e_x0 y args) ls' (mML y) L' → W p l e R s m args below meth c H locs cells slots Z (F0 m pc' ls' (st'.map (e_v b))) := fun pc' L' st' ls' hK' hL' => ih _ _ _ _ _ hK' p l e R s m args below meth c D b cI cS H0 Z Cx H locs cells slots ls' hS hlo hc1 hc2 hL'
        exact e_aald_ok hx hb hK hS (i6 _ _ _ _ hg) hj1 hdg (go _ _ _ _ hk hL)
      · exact hk.elim
    · exact hk.elim
  -- aastore
  · simp only [e_okB, Bool.and_eq_true, decide_eq_true_eq] at hok
    have hlen : len = 1 := Nat.eq_of_beq_eq_true hok.2
    subst hlen
    split at hk
    · obtain ⟨j, hj1, hk⟩ := hk
      split at hk
      · next hg =>
        intro p l e R s m args below meth c D b cI cS H0 Z Cx H locs cells slots ls hS hlo hc1 hc2 hL
        obtain ⟨hx, hb, hml, hown, hts, hK, hfr, hlc, hnm, hret, -⟩ := id Cx
        have go : ∀ pc' L' st' ls', K pc' L' st' B h → e_LH b (e_x0 y args) ls' (mML y) L' → W p l e R s m args below meth c H locs cells slots Z (F0 m pc' ls' (st'.map (e_v b))) := fun pc' L' st' ls' hK' hL' => ih _ _ _ _ _ hK' p l e R s m args below meth c D b cI cS H0 Z Cx H locs cells slots ls' hS hlo hc1 hc2 hL'
        refine e_aast_ok hx hb hK hS (i7 _ _ _ _ _ hg) hj1 hdg hlo (fun H' locs' hS' hlo' => ?_)
        exact ih _ _ _ _ _ hk p l e R s m args below meth c D b cI cS H0 Z Cx H' locs' cells slots ls hS' hlo' hc1 hc2 hL
      · exact hk.elim
    · exact hk.elim
  -- new
  · simp only [e_okB, Bool.and_eq_true, decide_eq_true_eq] at hok
    have hlen := Nat.eq_of_beq_eq_true hok.2.1
    subst hlen
    split at hk
    · next o h' hg =>
      cases hq : (Nat.ble 1 B.1 && Nat.ble (e_ct r1).2.2.1 B.2) with
      | false => rw [hq] at hk; exact hk.elim
      | true =>
        rw [hq] at hk
        rw [Bool.and_eq_true] at hq
        have q1 := Nat.le_of_ble_eq_true hq.1
        have q2 := Nat.le_of_ble_eq_true hq.2
        intro p l e R s m args below meth c D b cI cS H0 Z Cx H locs cells slots ls hS hlo hc1 hc2 hL
        obtain ⟨hx, hb, hml, hown, hts, hK, hfr, hlc, hnm, hret, -⟩ := id Cx
        have go : ∀ pc' L' st' ls', K pc' L' st' B h → e_LH b (e_x0 y args) ls' (mML y) L' → W p l e R s m args below meth c H locs cells slots Z (F0 m pc' ls' (st'.map (e_v b))) := fun pc' L' st' ls' hK' hL' => ih _ _ _ _ _ hK' p l e R s m args below meth c D b cI cS H0 Z Cx H locs cells slots ls' hS hlo hc1 hc2 hL'
        refine e_new_ok hx hb hown hts hK hS (i8 _ _ _ hg) (fun w hw => hneed w hw) (by omega) (by omega) hdg (fun H' hS' => ?_)
        exact ih _ _ _ _ _ hk p l e R s m args below meth c D b cI cS H0 Z Cx H' locs _ _ ls hS' hlo (by show cells + 1 + (B.1 - 1) ≤ _; omega) (by show slots + _ + (B.2 - _) ≤ _; omega) hL
    · exact hk.elim
  -- newarray
  · simp only [e_okB, Bool.and_eq_true, decide_eq_true_eq] at hok
    have hlen : len = 2 := Nat.eq_of_beq_eq_true hok.2
    subst hlen
    split at hk
    · obtain ⟨n, hj1, hk⟩ := hk
      split at hk
      · next o h' hg =>
        cases hq : (Nat.ble 1 B.1 && (Nat.ble n B.2 && Nat.blt n 100000)) with
        | false => rw [hq] at hk; exact hk.elim
        | true =>
          rw [hq] at hk
          rw [Bool.and_eq_true, Bool.and_eq_true] at hq
          have q1 := Nat.le_of_ble_eq_true hq.1
          have q2 := Nat.le_of_ble_eq_true hq.2.1
          have q3 : n < 100000 := by simpa [Nat.blt_eq] using hq.2.2
          intro p l e R s m args below meth c D b cI cS H0 Z Cx H locs cells slots ls hS hlo hc1 hc2 hL
          obtain ⟨hx, hb, hml, hown, hts, hK, hfr, hlc, hnm, hret, -⟩ := id Cx
          have go : ∀ pc' L' st' ls', K pc' L' st' B h → e_LH b (e_x0 y args) ls' (mML y) L' → W p l e R s m args below meth c H locs cells slots Z (F0 m pc' ls' (st'.map (e_v b))) := fun pc' L' st' ls' hK' hL' => ih _ _ _ _ _ hK' p l e R s m args below meth c D b cI cS H0 Z Cx H locs cells slots ls' hS hlo hc1 hc2 hL'
          refine e_newI_ok hx hb hts hK hS (i9 _ _ _ hg) hj1 q3 (hneed _ (by simp [e_need])) (by omega) (by omega) hdg (fun H' hS' => ?_)
          exact ih _ _ _ _ _ hk p l e R s m args below meth c D b cI cS H0 Z Cx H' locs _ _ ls hS' hlo (by show cells + 1 + (B.1 - 1) ≤ _; omega) (by show slots + _ + (B.2 - _) ≤ _; omega) hL
      · exact hk.elim
    · exact hk.elim
  -- anewarray
  · simp only [e_okB, Bool.and_eq_true, decide_eq_true_eq] at hok
    have hlen : len = 3 := Nat.eq_of_beq_eq_true hok.2
    subst hlen
    split at hk
    · obtain ⟨n, hj1, hk⟩ := hk
      split at hk
      · next o h' hg =>
        cases hq : (Nat.ble 1 B.1 && (Nat.ble n B.2 && Nat.blt n 100000)) with
        | false => rw [hq] at hk; exact hk.elim
        | true =>
          rw [hq] at hk
          rw [Bool.and_eq_true, Bool.and_eq_true] at hq
          have q1 := Nat.le_of_ble_eq_true hq.1
          have q2 := Nat.le_of_ble_eq_true hq.2.1
          have q3 : n < 100000 := by simpa [Nat.blt_eq] using hq.2.2
          intro p l e R s m args below meth c D b cI cS H0 Z Cx H locs cells slots ls hS hlo hc1 hc2 hL
          obtain ⟨hx, hb, hml, hown, hts, hK, hfr, hlc, hnm, hret, -⟩ := id Cx
          have go : ∀ pc' L' st' ls', K pc' L' st' B h → e_LH b (e_x0 y args) ls' (mML y) L' → W p l e R s m args below meth c H locs cells slots Z (F0 m pc' ls' (st'.map (e_v b))) := fun pc' L' st' ls' hK' hL' => ih _ _ _ _ _ hK' p l e R s m args below meth c D b cI cS H0 Z Cx H locs cells slots ls' hS hlo hc1 hc2 hL'
          refine e_newR_ok hx hb hown hts hK hS (i10 _ _ _ hg) hj1 q3 (fun w hw => hneed w hw) (by omega) (by omega) hdg (fun H' hS' => ?_)
          exact ih _ _ _ _ _ hk p l e R s m args below meth c D b cI cS H0 Z Cx H' locs _ _ ls hS' hlo (by show cells + 1 + (B.1 - 1) ≤ _; omega) (by show slots + _ + (B.2 - _) ≤ _; omega) hL
      · exact hk.elim
    · exact hk.elim
  -- ireturn
  · simp only [e_okB, Bool.and_eq_true, decide_eq_true_eq] at hok
    have hlen : len = 1 := Nat.eq_of_beq_eq_true hok.2
    subst hlen
    split at hk
    · split at hk
      · next hm =>
        intro p l e R s m args below meth c D b cI cS H0 Z Cx H locs cells slots ls hS hlo hc1 hc2 hL
        obtain ⟨hx, hb, hml, hown, hts, hK, hfr, hlc, hnm, hret, -⟩ := id Cx
        have go : ∀ pc' L' st' ls', K pc' L' st' B h → e_LH b (e_x0 y args) ls' (mML y) L' → W p l e R s m args below meth c H locs cells slots Z (F0 m pc' ls' (st'.map (e_v b))) := fun pc' L' st' ls' hK' hL' => ih _ _ _ _ _ hK' p l e R s m args below meth c D b cI cS H0 Z Cx H locs cells slots ls' hS hlo hc1 hc2 hL'
        exact hret (some (.int _)) (I.1 h) H locs cells slots pc ls ⟨h, rfl, hk⟩ hS hlo (by omega) (by omega) hdg (by rw [hm]; trivial)
      · next hm =>
        intro p l e R s m args below meth c D b cI cS H0 Z Cx H locs cells slots ls hS hlo hc1 hc2 hL
        obtain ⟨hx, hb, hml, hown, hts, hK, hfr, hlc, hnm, hret, -⟩ := id Cx
        have go : ∀ pc' L' st' ls', K pc' L' st' B h → e_LH b (e_x0 y args) ls' (mML y) L' → W p l e R s m args below meth c H locs cells slots Z (F0 m pc' ls' (st'.map (e_v b))) := fun pc' L' st' ls' hK' hL' => ih _ _ _ _ _ hK' p l e R s m args below meth c D b cI cS H0 Z Cx H locs cells slots ls' hS hlo hc1 hc2 hL'
        exact hret (some (.int _)) (I.1 h) H locs cells slots pc ls ⟨h, rfl, hk.2⟩ hS hlo (by omega) (by omega) hdg (by rw [hm]; exact hk.1)
      · exact hk.elim
    · exact hk.elim
  -- lreturn
  · simp only [e_okB, Bool.and_eq_true, decide_eq_true_eq] at hok
    have hlen : len = 1 := Nat.eq_of_beq_eq_true hok.2
    subst hlen
    split at hk
    · split at hk
      · next hm =>
        intro p l e R s m args below meth c D b cI cS H0 Z Cx H locs cells slots ls hS hlo hc1 hc2 hL
        obtain ⟨hx, hb, hml, hown, hts, hK, hfr, hlc, hnm, hret, -⟩ := id Cx
        have go : ∀ pc' L' st' ls', K pc' L' st' B h → e_LH b (e_x0 y args) ls' (mML y) L' → W p l e R s m args below meth c H locs cells slots Z (F0 m pc' ls' (st'.map (e_v b))) := fun pc' L' st' ls' hK' hL' => ih _ _ _ _ _ hK' p l e R s m args below meth c D b cI cS H0 Z Cx H locs cells slots ls' hS hlo hc1 hc2 hL'
        exact hret (some (.long _)) (I.1 h) H locs cells slots pc ls ⟨h, rfl, hk⟩ hS hlo (by omega) (by omega) hdg (by rw [hm]; trivial)
      · exact hk.elim
    · exact hk.elim
  -- areturn
  · simp only [e_okB, Bool.and_eq_true, decide_eq_true_eq] at hok
    have hlen : len = 1 := Nat.eq_of_beq_eq_true hok.2
    subst hlen
    split at hk
    · split at hk
      · next hm =>
        intro p l e R s m args below meth c D b cI cS H0 Z Cx H locs cells slots ls hS hlo hc1 hc2 hL
        obtain ⟨hx, hb, hml, hown, hts, hK, hfr, hlc, hnm, hret, -⟩ := id Cx
        have go : ∀ pc' L' st' ls', K pc' L' st' B h → e_LH b (e_x0 y args) ls' (mML y) L' → W p l e R s m args below meth c H locs cells slots Z (F0 m pc' ls' (st'.map (e_v b))) := fun pc' L' st' ls' hK' hL' => ih _ _ _ _ _ hK' p l e R s m args below meth c D b cI cS H0 Z Cx H locs cells slots ls' hS hlo hc1 hc2 hL'
        exact hret (some (.ref _)) (I.1 h) H locs cells slots pc ls ⟨h, rfl, hk⟩ hS hlo (by omega) (by omega) hdg (by rw [hm]; trivial)
      · exact hk.elim
    · exact hk.elim
  -- return
  · simp only [e_okB, Bool.and_eq_true, decide_eq_true_eq] at hok
    have hlen : len = 1 := Nat.eq_of_beq_eq_true hok.2
    subst hlen
    split at hk
    · split at hk
      · next hm =>
        intro p l e R s m args below meth c D b cI cS H0 Z Cx H locs cells slots ls hS hlo hc1 hc2 hL
        obtain ⟨hx, hb, hml, hown, hts, hK, hfr, hlc, hnm, hret, -⟩ := id Cx
        have go : ∀ pc' L' st' ls', K pc' L' st' B h → e_LH b (e_x0 y args) ls' (mML y) L' → W p l e R s m args below meth c H locs cells slots Z (F0 m pc' ls' (st'.map (e_v b))) := fun pc' L' st' ls' hK' hL' => ih _ _ _ _ _ hK' p l e R s m args below meth c D b cI cS H0 Z Cx H locs cells slots ls' hS hlo hc1 hc2 hL'
        exact hret none (I.1 h) H locs cells slots pc ls ⟨h, rfl, hk⟩ hS hlo (by omega) (by omega) hdg (by rw [hm]; trivial)
      · exact hk.elim
    · exact hk.elim
  -- invokestatic
  · simp only [e_okB, Bool.and_eq_true, decide_eq_true_eq] at hok
    have hlen := Nat.eq_of_beq_eq_true hok.2.1
    subst hlen
    cases hq : Nat.beq r1 1001 with
    | true =>
      rw [hq] at hk hok
      simp only [cond_true, Bool.and_eq_true] at hk hok
      have hfr1 := Nat.le_of_ble_eq_true hok.2.2.1.1
      have hlc1 := Nat.le_of_ble_eq_true hok.2.2.1.2
      split at hk
      · split at hk
        · next g1 g0 =>
          obtain ⟨j, j1, j2, j3, j4, j5, -, j6, hk⟩ := hk
          intro p l e R s m args below meth c D b cI cS H0 Z Cx H locs cells slots ls hS hlo hc1 hc2 hL
          obtain ⟨hx, hb, hml, hown, hts, hK, hfr, hlc, hnm, hret, -⟩ := id Cx
          have go : ∀ pc' L' st' ls', K pc' L' st' B h → e_LH b (e_x0 y args) ls' (mML y) L' → W p l e R s m args below meth c H locs cells slots Z (F0 m pc' ls' (st'.map (e_v b))) := fun pc' L' st' ls' hK' hL' => ih _ _ _ _ _ hK' p l e R s m args below meth c D b cI cS H0 Z Cx H locs cells slots ls' hS hlo hc1 hc2 hL'
          have hsz : ls.size = mML y := by obtain ⟨-, lv, z1, -⟩ := hL; exact z1.1
          refine e_copy_ok hx hb (hml.trans hsz.symm) hown hts hK hS (i3 _ _ _ g1) (i3 _ _ _ g0) j1 j2 j3 j4 j5 (fun w hw => hneed w (by simp only [e_need, hq, cond_true]; exact hw)) (by omega) (by have := e_cat_sum (b := b) (by assumption : List Value); rw [e_cat_sum]; omega) hdg hlo (fun H' locs' hS' hlo' => ?_)
          rw [show (I.1 h).2.2.2 _ = I.2.2.2.2.1 h _ from funext (fun j => i4 h _ j), show (I.1 h).2.2.2 _ = I.2.2.2.2.1 h _ from funext (fun j => i4 h _ j), ← i5] at hS'
          exact ih _ _ _ _ _ hk p l e R s m args below meth c D b cI cS H0 Z Cx H' locs' cells slots ls hS' hlo' hc1 hc2 hL
        · exact hk.elim
      · exact hk.elim
    | false =>
      rw [hq] at hk hok
      simp only [cond_false] at hk hok
      have hn : ∀ w ∈ e_need y (.invokestatic _) r1 r2 nest sw, w ∈ e_WS := hneed
      simp only [e_need, hq, cond_false] at hn
      exact e_call_ok (virt := false) (n := r2) (nest := nest) i1 ih hk hdg hok.2.2 (fun w hw => hn w (by simp only [List.mem_cons, List.not_mem_nil, or_false] at hw ⊢; rcases hw with h | h | h <;> simp [h])) (Or.inl ⟨rfl, rfl, hn _ (by simp)⟩)
  -- invokevirtual
  · simp only [e_okB, Bool.and_eq_true, decide_eq_true_eq] at hok
    have hlen := Nat.eq_of_beq_eq_true hok.2.1
    subst hlen
    have hn : ∀ w ∈ e_need y (.invokevirtual _) r1 r2 nest sw, w ∈ e_WS := hneed
    simp only [e_need] at hn
    have hci : mCi r1 < 12 := by simpa [Nat.blt_eq] using hok.2.2.1.2
    exact e_call_ok (virt := true) (n := r2) (nest := nest) i1 ih hk hdg hok.2.2.1.1 (fun w hw => hn w (by simp only [List.mem_cons, List.not_mem_nil, or_false] at hw ⊢; rcases hw with h | h | h <;> simp [h])) (Or.inr (Or.inl ⟨rfl, rfl, hn _ (by simp), hn _ (by simp), hci, hok.2.2.2⟩))
  -- invokespecial
  · simp only [e_okB, Bool.and_eq_true, decide_eq_true_eq] at hok
    have hlen := Nat.eq_of_beq_eq_true hok.2.1
    subst hlen
    cases hq : Nat.beq r1 1000 with
    | true =>
      rw [hq] at hk hok
      simp only [cond_true, Bool.and_eq_true] at hk hok
      have hfr1 := Nat.le_of_ble_eq_true hok.2.2.1.1
      have hlc1 := Nat.le_of_ble_eq_true hok.2.2.1.2
      split at hk
      · next st' =>
        cases hq2 : Nat.ble (e_cat st') 8 with
        | false => rw [hq2] at hk; exact hk.elim
        | true =>
          rw [hq2] at hk
          have q2 := Nat.le_of_ble_eq_true hq2
          have hn : ∀ w ∈ e_need y (.invokespecial _) r1 r2 nest sw, w ∈ e_WS := hneed
          simp only [e_need, hq, cond_true] at hn
          intro p l e R s m args below meth c D b cI cS H0 Z Cx H locs cells slots ls hS hlo hc1 hc2 hL
          obtain ⟨hx, hb, hml, hown, hts, hK, hfr, hlc, hnm, hret, -⟩ := id Cx
          have go : ∀ pc' L' st' ls', K pc' L' st' B h → e_LH b (e_x0 y args) ls' (mML y) L' → W p l e R s m args below meth c H locs cells slots Z (F0 m pc' ls' (st'.map (e_v b))) := fun pc' L' st' ls' hK' hL' => ih _ _ _ _ _ hK' p l e R s m args below meth c D b cI cS H0 Z Cx H locs cells slots ls' hS hlo hc1 hc2 hL'
          have hsz : ls.size = mML y := by obtain ⟨-, lv, z1, -⟩ := hL; exact z1.1
          exact W.objInit hx hb hown (hts _ (hn _ (by simp))) (hts _ (hn _ (by simp))) (hts _ (hn _ (by simp))) rfl (hsz.trans hml.symm) rfl hdg (by omega) (by show 2 * 0 + _ + 12 ≤ _; rw [e_cat_sum]; omega) (go _ _ _ _ hk hL)
      · exact hk.elim
    | false =>
      rw [hq] at hk hok
      simp only [cond_false, Bool.and_eq_true, decide_eq_true_eq] at hk hok
      have hn : ∀ w ∈ e_need y (.invokespecial _) r1 r2 nest sw, w ∈ e_WS := hneed
      simp only [e_need, hq, cond_false] at hn
      exact e_call_ok (virt := true) (n := r2) (nest := nest) i1 ih hk hdg hok.2.2.1.1 (fun w hw => hn w (by simp only [List.mem_cons, List.not_mem_nil, or_false] at hw ⊢; rcases hw with h | h | h <;> simp [h])) (Or.inr (Or.inr ⟨rfl, rfl, hn _ (by simp), hok.2.2.1.2, hok.2.2.2⟩))
  -- pure
  · split at hk
    · next L' st' hp =>
      have hk : K (pc + len) L' st' B h := by
        cases hz : e_isSt i with
        | true => rw [hz, cond_true, e_force_eq] at hk; exact hk
        | false => rw [hz] at hk; exact hk
      obtain ⟨q1, q2⟩ := e_pure_len hp hok
      subst q1
      intro p l e R s m args below meth c D b cI cS H0 Z Cx H locs cells slots ls hS hlo hc1 hc2 hL
      obtain ⟨hx, hb, hml, hown, hts, hK, hfr, hlc, hnm, hret, -⟩ := id Cx
      have go : ∀ pc' L' st' ls', K pc' L' st' B h → e_LH b (e_x0 y args) ls' (mML y) L' → W p l e R s m args below meth c H locs cells slots Z (F0 m pc' ls' (st'.map (e_v b))) := fun pc' L' st' ls' hK' hL' => ih _ _ _ _ _ hK' p l e R s m args below meth c D b cI cS H0 Z Cx H locs cells slots ls' hS hlo hc1 hc2 hL'
      exact e_pure_ok hx hb hown hsw (fun w hw => hts w (hneed w (by rw [← q2]; exact hw))) hdg hL hp (fun ls' hL' => go _ _ _ _ hk hL')
    · exact hk.elim
theorem e_wp_ok {η : Type} {I : e_IT η} (hI : e_IOk I) {y : Nat} (hM : OkM y) {Q : Option Value → η → Prop} : ∀ (n pc : Nat) (L : List (Option Value)) (st : List Value) (B : Nat × Nat) (h : η), e_wp I y Q n pc L st B h → e_RunI I y pc L st B h Q
  | 0, _, _, _, _, _, k => k
  | n + 1, pc, L, st, B, h, k => by
    unfold e_wp at k
    split at k
    · next i len r1 r2 nest hh sw ho => exact e_k_ok hI hM ho (fun pc L st B h hk => e_wp_ok hI hM n pc L st B h hk) k
    · exact k.elim
end
section
set_option maxHeartbeats 4000000 in
/-- a method's contract, out of its weakest precondition -/
theorem e_call_of {η : Type} {I : e_IT η} (hI : e_IOk I) {y n : Nat} (hM : OkM y) (hy : plainName (mNm y).cls = true) {as : List Value} {h : η} {Q : Option Value → η → Prop} (hlen : Nat.ble (e_args as).length (mML y) = true) (hwp : e_wp I y Q n 0 (e_L0 as (mML y)) [] ((mRm y).cells, (mRm y).slots) h) (hyl : Nat.beq y y_L_law = false := by rfl) : e_CallI I y as h Q := by
  intro l D b cI cS H0
  refine Met.ofW (cc := mBy y) (maxL := mML y) (ret := mRet y) hy rfl ?_
  intro p e s m args below meth c s₁ B hml hv
  obtain ⟨rfl, hS, hK⟩ := hv
  have hx := B.exec
  have hb := B.bytes
  have hr := B.returns
  have hlocks := B.notSynchronized
  have hts := atoms_spec (ws := mWs y) B.pre
  have hret : e_Ret p l e (mRm y) s m (as.map (e_v b)).toArray below meth c D b cI cS H0 (MQ below (e_Qc D b cI cS H0 (fun r σ => ∃ h', σ = I.1 h' ∧ Q r h')) (as.map (e_v b)).toArray s (mRm y).cells (mRm y).slots (fun q => b ≤ q)) y (fun r σ => ∃ h', σ = I.1 h' ∧ Q r h') := by
    intro r σ H locs cells slots pc ls hQ hS' hlo hc hs hdg hok
    refine W.widen hc hs ?_
    revert hok
    cases r with
    | none =>
      cases hm : mRet y with
      | none => intro _; exact W.vret hx hb (hr.trans hm) (fun t ht hW => ⟨none, σ, rfl, hQ, by rw [ht]; exact hS'⟩) hlo hdg
      | some t => intro z; cases t <;> exact z.elim
    | some v =>
      cases hm : mRet y with
      | none => intro z; exact z.elim
      | some t =>
        intro z
        cases t <;> cases v <;> first
          | exact z.elim
          | exact W.iret hx hb (hr.trans hm) (fun t ht hW => ⟨some _, σ, rfl, hQ, by rw [ht]; exact hS'⟩) hlo hdg
          | exact W.lret hx hb (hr.trans hm) (fun t ht hW => ⟨some _, σ, rfl, hQ, by rw [ht]; exact hS'⟩) hlo hdg
          | exact W.zret hx hb (hr.trans hm) (by rcases z with rfl | rfl <;> rfl) (fun t ht hW => ⟨some _, σ, rfl, hQ, by rw [ht]; exact hS'⟩) hlo hdg
          | exact W.aret hx hb (hr.trans hm) (Or.inl ⟨_, rfl⟩) (Or.inr ⟨_, rfl⟩) (fun t ht hW => ⟨some _, σ, rfl, hQ, by rw [ht]; exact hS'⟩) hlo hdg
  rw [lg_entry_eq]
  exact e_wp_ok hI hM n 0 _ [] _ h hwp p l e (mRm y) s m _ below meth c D b cI cS H0 _ ⟨hx, hb, hml, findClass_of_methodNamed B.named, fun w hw => hts w (List.mem_cons_of_mem _ hw), hK, Nat.le_refl _, Nat.le_refl _, (name_of_methodNamed B.named B.method).1, hret, fun z => absurd (hyl.symm.trans z) (by decide)⟩ s.heap [] 0 0 _ hS (fun q hq => (by cases hq)) (by simp) (by simp) (by rw [e_x0_no hyl]; exact e_LH_entry b (mML y) as (Nat.le_of_ble_eq_true hlen))
end
section
set_option maxRecDepth 100000 in
theorem ok_Cells_init : OkM 0 := okm_of (by decide +kernel)
set_option maxRecDepth 100000 in
theorem ok_Cells_get1 : OkM 1 := okm_of (by decide +kernel)
set_option maxRecDepth 100000 in
theorem ok_Cells_get2 : OkM 2 := okm_of (by decide +kernel)
set_option maxRecDepth 100000 in
theorem ok_Cells_set2 : OkM 3 := okm_of (by decide +kernel)
set_option maxRecDepth 100000 in
theorem ok_Cells_set3 : OkM 4 := okm_of (by decide +kernel)
set_option maxRecDepth 100000 in
theorem ok_Cells_add : OkM 5 := okm_of (by decide +kernel)
set_option maxRecDepth 100000 in
theorem ok_Cells_fill : OkM 6 := okm_of (by decide +kernel)
set_option maxRecDepth 100000 in
theorem ok_Cells_copyFrom : OkM 7 := okm_of (by decide +kernel)
set_option maxRecDepth 100000 in
theorem ok_Fail_init : OkM 8 := okm_of (by decide +kernel)
set_option maxRecDepth 100000 in
theorem ok_Fail_part : OkM 9 := okm_of (by decide +kernel)
set_option maxRecDepth 100000 in
theorem ok_Fore_init : OkM 10 := okm_of (by decide +kernel)
set_option maxRecDepth 100000 in
theorem ok_Fore_hiddenSince : OkM 11 := okm_of (by decide +kernel)
set_option maxRecDepth 100000 in
theorem ok_Fore_hiddenFrames : OkM 12 := okm_of (by decide +kernel)
set_option maxRecDepth 100000 in
theorem ok_Fore_framesUntilAllShown : OkM 13 := okm_of (by decide +kernel)
set_option maxRecDepth 100000 in
theorem ok_Fore_allShownWithin : OkM 14 := okm_of (by decide +kernel)
set_option maxRecDepth 100000 in
theorem ok_Fore_findStep : OkM 15 := okm_of (by decide +kernel)
set_option maxRecDepth 100000 in
theorem ok_Fore_noteHiddenByTurns : OkM 16 := okm_of (by decide +kernel)
set_option maxRecDepth 100000 in
theorem ok_Fore_greatestWith : OkM 17 := okm_of (by decide +kernel)
set_option maxRecDepth 100000 in
theorem ok_Fore_framesHidden : OkM 18 := okm_of (by decide +kernel)
set_option maxRecDepth 100000 in
theorem ok_Hist_init : OkM 19 := okm_of (by decide +kernel)
set_option maxRecDepth 100000 in
theorem ok_Hist_newestSlot : OkM 20 := okm_of (by decide +kernel)
set_option maxRecDepth 100000 in
theorem ok_Hist_record : OkM 21 := okm_of (by decide +kernel)
set_option maxRecDepth 100000 in
theorem ok_Hist_restore : OkM 22 := okm_of (by decide +kernel)
set_option maxRecDepth 100000 in
theorem ok_Read_init : OkM 23 := okm_of (by decide +kernel)
set_option maxRecDepth 100000 in
theorem ok_Scene_init : OkM 24 := okm_of (by decide +kernel)
set_option maxRecDepth 100000 in
theorem ok_Scene_copyFrom : OkM 25 := okm_of (by decide +kernel)
set_option maxRecDepth 100000 in
theorem ok_Scene_position : OkM 26 := okm_of (by decide +kernel)
set_option maxRecDepth 100000 in
theorem ok_Scene_exists : OkM 27 := okm_of (by decide +kernel)
set_option maxRecDepth 100000 in
theorem ok_Scene_hero : OkM 28 := okm_of (by decide +kernel)
set_option maxRecDepth 100000 in
theorem ok_Scene_firstLine : OkM 29 := okm_of (by decide +kernel)
set_option maxRecDepth 100000 in
theorem ok_Scene_lastLine : OkM 30 := okm_of (by decide +kernel)
set_option maxRecDepth 100000 in
theorem ok_Scene_linesOf : OkM 31 := okm_of (by decide +kernel)
set_option maxRecDepth 100000 in
theorem ok_Scene_standsOn : OkM 32 := okm_of (by decide +kernel)
set_option maxRecDepth 100000 in
theorem ok_Scene_dotsOn : OkM 33 := okm_of (by decide +kernel)
set_option maxRecDepth 100000 in
theorem ok_Scene_mirrored : OkM 34 := okm_of (by decide +kernel)
set_option maxRecDepth 100000 in
theorem ok_Scene_placed : OkM 35 := okm_of (by decide +kernel)
set_option maxRecDepth 100000 in
theorem ok_Scene_redraw : OkM 36 := okm_of (by decide +kernel)
set_option maxRecDepth 100000 in
theorem ok_Scene_isPlace : OkM 37 := okm_of (by decide +kernel)
set_option maxRecDepth 100000 in
theorem ok_Scene_admit : OkM 38 := okm_of (by decide +kernel)
set_option maxRecDepth 100000 in
theorem ok_Scene_dismiss : OkM 39 := okm_of (by decide +kernel)
set_option maxRecDepth 100000 in
theorem ok_Scene_relocate : OkM 40 := okm_of (by decide +kernel)
set_option maxRecDepth 100000 in
theorem ok_Scene_flip : OkM 41 := okm_of (by decide +kernel)
set_option maxRecDepth 100000 in
theorem ok_Scene_putFirst : OkM 42 := okm_of (by decide +kernel)
set_option maxRecDepth 100000 in
theorem ok_Scene_putLast : OkM 43 := okm_of (by decide +kernel)
set_option maxRecDepth 100000 in
theorem ok_Scene_putAt : OkM 44 := okm_of (by decide +kernel)
set_option maxRecDepth 100000 in
theorem ok_Scene_shiftInOrder : OkM 45 := okm_of (by decide +kernel)
set_option maxRecDepth 100000 in
theorem ok_Scene_changeLimit : OkM 46 := okm_of (by decide +kernel)
set_option maxRecDepth 100000 in
theorem ok_Scene_changeRule : OkM 47 := okm_of (by decide +kernel)
set_option maxRecDepth 100000 in
theorem ok_Scene_makeFrame : OkM 48 := okm_of (by decide +kernel)
set_option maxRecDepth 100000 in
theorem ok_Scene_countHidden : OkM 49 := okm_of (by decide +kernel)
set_option maxRecDepth 100000 in
theorem ok_Scene_rotate : OkM 50 := okm_of (by decide +kernel)
set_option maxRecDepth 100000 in
theorem ok_Scene_bringHidden : OkM 51 := okm_of (by decide +kernel)
set_option maxRecDepth 100000 in
theorem ok_Sched_init : OkM 52 := okm_of (by decide +kernel)
end
section
set_option maxRecDepth 100000 in
theorem ok_Script_init : OkM 53 := okm_of (by decide +kernel)
set_option maxRecDepth 100000 in
theorem ok_Sight_init : OkM 54 := okm_of (by decide +kernel)
set_option maxRecDepth 100000 in
theorem ok_Sight_look : OkM 55 := okm_of (by decide +kernel)
set_option maxRecDepth 100000 in
theorem ok_Sight_bitOf : OkM 56 := okm_of (by decide +kernel)
set_option maxRecDepth 100000 in
theorem ok_Sight_colorAt : OkM 57 := okm_of (by decide +kernel)
set_option maxRecDepth 100000 in
theorem ok_Sight_dotsOnLine : OkM 58 := okm_of (by decide +kernel)
set_option maxRecDepth 100000 in
theorem ok_Sight_allDots : OkM 59 := okm_of (by decide +kernel)
set_option maxRecDepth 100000 in
theorem ok_Sight_clashesOn : OkM 60 := okm_of (by decide +kernel)
set_option maxRecDepth 100000 in
theorem ok_Sight_allClashes : OkM 61 := okm_of (by decide +kernel)
set_option maxRecDepth 100000 in
theorem ok_Sight_firstClash : OkM 62 := okm_of (by decide +kernel)
set_option maxRecDepth 100000 in
theorem ok_Sight_firstColumn : OkM 63 := okm_of (by decide +kernel)
set_option maxRecDepth 100000 in
theorem ok_Sight_firstOther : OkM 64 := okm_of (by decide +kernel)
set_option maxRecDepth 100000 in
theorem ok_Steps_init : OkM 65 := okm_of (by decide +kernel)
set_option maxRecDepth 100000 in
theorem ok_Surv_init : OkM 66 := okm_of (by decide +kernel)
set_option maxRecDepth 100000 in
theorem ok_Surv_look : OkM 67 := okm_of (by decide +kernel)
set_option maxRecDepth 100000 in
theorem ok_Surv_isHidden : OkM 68 := okm_of (by decide +kernel)
set_option maxRecDepth 100000 in
theorem ok_Surv_hiddenPuppets : OkM 69 := okm_of (by decide +kernel)
set_option maxRecDepth 100000 in
theorem ok_Surv_hiddenBits : OkM 70 := okm_of (by decide +kernel)
set_option maxRecDepth 100000 in
theorem ok_Surv_lineWithMostHidden : OkM 71 := okm_of (by decide +kernel)
set_option maxRecDepth 100000 in
theorem ok_P_init : OkM 72 := okm_of (by decide +kernel)
set_option maxRecDepth 100000 in
theorem ok_P_setRow : OkM 73 := okm_of (by decide +kernel)
set_option maxRecDepth 100000 in
theorem ok_P_come : OkM 74 := okm_of (by decide +kernel)
set_option maxRecDepth 100000 in
theorem ok_P_leave : OkM 75 := okm_of (by decide +kernel)
set_option maxRecDepth 100000 in
theorem ok_P_move : OkM 76 := okm_of (by decide +kernel)
set_option maxRecDepth 100000 in
theorem ok_P_turn : OkM 77 := okm_of (by decide +kernel)
set_option maxRecDepth 100000 in
theorem ok_P_lift : OkM 78 := okm_of (by decide +kernel)
set_option maxRecDepth 100000 in
theorem ok_P_lower : OkM 79 := okm_of (by decide +kernel)
set_option maxRecDepth 100000 in
theorem ok_P_setLimit : OkM 80 := okm_of (by decide +kernel)
set_option maxRecDepth 100000 in
theorem ok_P_setRule : OkM 81 := okm_of (by decide +kernel)
set_option maxRecDepth 100000 in
theorem ok_P_frame : OkM 82 := okm_of (by decide +kernel)
set_option maxRecDepth 100000 in
theorem ok_P_undo : OkM 83 := okm_of (by decide +kernel)
set_option maxRecDepth 100000 in
theorem ok_P_failure : OkM 84 := okm_of (by decide +kernel)
set_option maxRecDepth 100000 in
theorem ok_P_count : OkM 85 := okm_of (by decide +kernel)
set_option maxRecDepth 100000 in
theorem ok_P_puppet : OkM 86 := okm_of (by decide +kernel)
set_option maxRecDepth 100000 in
theorem ok_P_line : OkM 87 := okm_of (by decide +kernel)
set_option maxRecDepth 100000 in
theorem ok_P_shown : OkM 88 := okm_of (by decide +kernel)
set_option maxRecDepth 100000 in
theorem ok_P_dot : OkM 89 := okm_of (by decide +kernel)
set_option maxRecDepth 100000 in
theorem ok_P_clash : OkM 90 := okm_of (by decide +kernel)
set_option maxRecDepth 100000 in
theorem ok_P_hiddenIn : OkM 91 := okm_of (by decide +kernel)
set_option maxRecDepth 100000 in
theorem ok_P_allShownIn : OkM 92 := okm_of (by decide +kernel)
set_option maxRecDepth 100000 in
theorem ok_P_bestStep : OkM 93 := okm_of (by decide +kernel)
set_option maxRecDepth 100000 in
theorem ok_P_worstLine : OkM 94 := okm_of (by decide +kernel)
set_option maxRecDepth 100000 in
theorem ok_P_within : OkM 95 := okm_of (by decide +kernel)
set_option maxRecDepth 100000 in
theorem ok_P_recorded : OkM 96 := okm_of (by decide +kernel)
set_option maxRecDepth 100000 in
theorem ok_J_bitCount : OkM 97 := okm_of (by decide +kernel)
set_option maxRecDepth 100000 in
theorem ok_J_max : OkM 98 := okm_of (by decide +kernel)
set_option maxRecDepth 100000 in
theorem ok_J_min : OkM 99 := okm_of (by decide +kernel)
set_option maxRecDepth 100000 in
theorem ok_L_cell : OkM 100 := okm_of (by decide +kernel)
set_option maxRecDepth 100000 in
theorem ok_L_low : OkM 101 := okm_of (by decide +kernel)
set_option maxRecDepth 100000 in
theorem ok_L_digest : OkM 102 := okm_of (by decide +kernel)
set_option maxRecDepth 100000 in
theorem ok_L_there : OkM 103 := okm_of (by decide +kernel)
set_option maxRecDepth 100000 in
theorem ok_L_act : OkM 104 := okm_of (by decide +kernel)
set_option maxRecDepth 100000 in
theorem ok_L_addsUp : OkM 105 := okm_of (by decide +kernel)
set_option maxRecDepth 100000 in
theorem ok_L_isLine : OkM 106 := okm_of (by decide +kernel)
end
section
def e_chk (y : Nat) (q : Nat × XO) : Bool := e_okB y q.1 q.2 && (e_need y q.2.1 q.2.2.2.1 q.2.2.2.2.1 q.2.2.2.2.2.1 q.2.2.2.2.2.2.2).all e_wmB && decide (e_need y q.2.1 q.2.2.2.1 q.2.2.2.2.1 q.2.2.2.2.2.1 q.2.2.2.2.2.2.2 = q.2.2.2.2.2.2.1.filterMap (fun i => lw_tbl[i]?))
set_option maxRecDepth 100000 in
theorem ok_law_0 : (((mOps 107).drop 0).take 40).all (e_chk 107) = true := by decide +kernel
set_option maxRecDepth 100000 in
theorem ok_law_1 : (((mOps 107).drop 40).take 40).all (e_chk 107) = true := by decide +kernel
set_option maxRecDepth 100000 in
theorem ok_law_2 : (((mOps 107).drop 80).take 40).all (e_chk 107) = true := by decide +kernel
set_option maxRecDepth 100000 in
theorem ok_law_3 : (((mOps 107).drop 120).take 40).all (e_chk 107) = true := by decide +kernel
set_option maxRecDepth 100000 in
theorem ok_law_4 : (((mOps 107).drop 160).take 40).all (e_chk 107) = true := by decide +kernel
set_option maxRecDepth 100000 in
theorem ok_law_5 : (((mOps 107).drop 200).take 40).all (e_chk 107) = true := by decide +kernel
set_option maxRecDepth 100000 in
theorem ok_law_6 : (((mOps 107).drop 240).take 40).all (e_chk 107) = true := by decide +kernel
set_option maxRecDepth 100000 in
theorem ok_law_7 : (((mOps 107).drop 280).take 40).all (e_chk 107) = true := by decide +kernel
set_option maxRecDepth 100000 in
theorem ok_law_8 : (((mOps 107).drop 320).take 40).all (e_chk 107) = true := by decide +kernel
set_option maxRecDepth 100000 in
theorem ok_law_9 : (((mOps 107).drop 360).take 40).all (e_chk 107) = true := by decide +kernel
set_option maxRecDepth 100000 in
theorem ok_law_10 : (((mOps 107).drop 400).take 40).all (e_chk 107) = true := by decide +kernel
theorem e_all_split {α : Type} (p : α → Bool) (l : List α) (a n : Nat) (h1 : ((l.drop a).take n).all p = true) (h2 : (l.drop (a + n)).all p = true) : (l.drop a).all p = true := by
  rw [← List.take_append_drop n (l.drop a), List.all_append, List.drop_drop, h1, h2]
  rfl
set_option maxRecDepth 100000 in
theorem ok_law_end : ((mOps 107).drop 440).all (e_chk 107) = true := by decide +kernel
theorem ok_L_law : OkM 107 := by
  have h := (e_all_split _ _ 0 40 ok_law_0 (e_all_split _ _ 40 40 ok_law_1 (e_all_split _ _ 80 40 ok_law_2 (e_all_split _ _ 120 40 ok_law_3 (e_all_split _ _ 160 40 ok_law_4 (e_all_split _ _ 200 40 ok_law_5 (e_all_split _ _ 240 40 ok_law_6 (e_all_split _ _ 280 40 ok_law_7 (e_all_split _ _ 320 40 ok_law_8 (e_all_split _ _ 360 40 ok_law_9 (e_all_split _ _ 400 40 ok_law_10 ok_law_end)))))))))))
  rw [List.drop_zero] at h
  exact List.all_eq_true.mp h
end
section
/-! the face of the objects once they are made: ints alone change; the object 90, a row of the law's own, is there when F 90 0 is 1 -/
abbrev St : Type := (Nat → Nat → Int32) × (Nat → Nat → Int32)
def FF (F : Nat → Nat → Int32) : Nat → Nat → Int32 := fun o k => bif Nat.beq o 90 then 0 else bif Nat.beq (e_SH o).1 0 && Nat.beq k 1 then e_WD o else F o k
def s_n (h : St) : Nat := if h.1 90 0 = 1 then 91 else 90
theorem s_n_le (h : St) : 90 ≤ s_n h := by unfold s_n; split <;> omega
def e_emb (h : St) : Sg := ((s_n h, e_SH), e_GG, FF h.1, h.2)
def s_get (h : St) (o c k : Nat) : Option Value := bif Nat.blt o e_NN && Nat.beq (e_SH o).1 c then some (bif e_isI (e_fty c k) then (bif Nat.beq c 0 && Nat.beq k 1 then .int (e_WD o) else .int (h.1 o k)) else va_rf (e_GG o k)) else none
def s_put (h : St) (o c k : Nat) (v : Value) : Option St := bif Nat.blt o e_NN && Nat.beq (e_SH o).1 c && (!(Nat.beq c 0) && e_isI (e_fty c k)) then (match v with
  | .int x => some (u2 h.1 o k x, h.2)
  | _ => none) else none
def s_len (h : St) (a : Nat) : Option Nat := bif Nat.blt a e_NN && (Nat.beq (e_SH a).1 100 && Nat.blt (e_SH a).2 2147483648) then some (e_SH a).2 else (bif Nat.beq a 90 then (if h.1 90 0 = 1 then some 16 else none) else none)
def s_rget (_ : St) (a j : Nat) : Option Value := bif Nat.blt a e_NN && (Nat.beq (e_SH a).1 101 && (Nat.blt j (e_SH a).2 && Nat.blt (e_SH a).2 2147483648)) then some (va_rf (e_GG a j)) else none
def s_newI (h : St) (n : Nat) : Option (Nat × St) := bif Nat.beq n 16 then (if h.1 90 0 = 0 then some (90, (u2 h.1 90 0 1, u1 h.2 90 (fun _ => 0))) else none) else none
def IS : e_IT St := (e_emb, s_get, s_put, s_len, fun h => h.2, fun h a f => (h.1, u1 h.2 a f), s_rget, fun _ _ _ _ => none, fun _ _ => none, s_newI, fun _ _ => none)
theorem s_blt {h : St} {o : Nat} {q : Bool} (z : (Nat.blt o e_NN && q) = true) : (Nat.blt o (s_n h) && q) = true ∧ Nat.beq o 90 = false := by
  rw [Bool.and_eq_true] at z
  have z1 : o < 90 := by simpa [Nat.blt_eq] using z.1
  have z2 := s_n_le h
  refine ⟨by rw [Bool.and_eq_true]; exact ⟨by simp only [Nat.blt_eq]; omega, z.2⟩, ?_⟩
  exact Bool.eq_false_iff.mpr (fun w => by have := Nat.eq_of_beq_eq_true w; omega)
theorem IS_ok : e_IOk IS := by
  refine ⟨?_, ?_, ?_, fun _ _ _ => rfl, fun _ _ _ => rfl, ?_, fun h a j v h' z => (by cases z), fun h c r z => (by cases z), ?_, fun h c r z => (by cases z)⟩
  · intro h o c k v z
    change s_get h o c k = some v at z
    show g_get (e_emb h) o c k = some v
    unfold s_get at z
    unfold g_get e_emb FF
    dsimp only
    cases hq : (Nat.blt o e_NN && Nat.beq (e_SH o).1 c) with
    | false => rw [hq] at z; cases z
    | true =>
      rw [hq] at z
      obtain ⟨y1, y2⟩ := s_blt (h := h) hq
      rw [y1, y2]
      rw [Bool.and_eq_true] at hq
      have hc := Nat.eq_of_beq_eq_true hq.2
      rw [← z, cond_true, cond_true, hc]
      cases e_isI (e_fty c k) with
      | false => rfl
      | true =>
        simp only [cond_true, cond_false]
        cases (Nat.beq c 0 && Nat.beq k 1) <;> rfl
  · intro h o c k v h' z
    change s_put h o c k v = some h' at z
    show g_put (e_emb h) o c k v = some (e_emb h')
    unfold s_put at z
    cases hq : (Nat.blt o e_NN && Nat.beq (e_SH o).1 c && (!(Nat.beq c 0) && e_isI (e_fty c k))) with
    | false => rw [hq] at z; cases z
    | true =>
      rw [hq] at z
      simp only [cond_true] at z
      simp only [Bool.and_eq_true] at hq
      obtain ⟨⟨qa, qb⟩, q2, q3⟩ := hq
      obtain ⟨q1, y2⟩ := s_blt (h := h) (o := o) (q := Nat.beq (e_SH o).1 c) (by rw [Bool.and_eq_true]; exact ⟨qa, qb⟩)
      have hc := Nat.eq_of_beq_eq_true qb
      have ho : o ≠ 90 := fun w => by rw [w] at y2; cases y2
      split at z
      · next x =>
        cases z
        unfold g_put e_emb
        dsimp only
        rw [q1, q3]
        simp only [cond_true]
        have en : s_n (u2 h.1 o k x, h.2) = s_n h := by
          unfold s_n u2
          show (if u1 h.1 o (u1 (h.1 o) k x) 90 0 = 1 then 91 else 90) = _
          rw [u1_n _ _ (fun w => ho w.symm)]
        rw [en]
        congr 4
        funext a j
        unfold FF u2 u1
        by_cases ha : a = o
        · subst ha
          rw [if_pos rfl, hc]
          have : Nat.beq c 0 = false := by simpa using q2
          rw [this, y2]
          simp
          rw [hc, this, y2]
          rfl
        · rw [if_neg ha]
          simp [ha]
      · cases z
  · intro h a n z
    change s_len h a = some n at z
    show g_len (e_emb h) a = some n
    unfold s_len at z
    unfold g_len e_emb
    dsimp only
    cases hq : (Nat.blt a e_NN && (Nat.beq (e_SH a).1 100 && Nat.blt (e_SH a).2 2147483648)) with
    | true =>
      rw [hq] at z
      rw [(s_blt (h := h) hq).1]
      exact z
    | false =>
      rw [hq] at z
      simp only [cond_false] at z
      cases h9 : Nat.beq a 90 with
      | false => rw [h9] at z; cases z
      | true =>
        rw [h9] at z
        have := Nat.eq_of_beq_eq_true h9
        subst this
        simp only [cond_true] at z
        by_cases hf : h.1 90 0 = 1
        · rw [if_pos hf] at z
          have : s_n h = 91 := if_pos hf
          rw [this]
          exact z
        · rw [if_neg hf] at z; cases z
  · intro h a j v z
    change s_rget h a j = some v at z
    show g_rget (e_emb h) a j = some v
    unfold s_rget at z
    unfold g_rget e_emb
    dsimp only
    cases hq : (Nat.blt a e_NN && (Nat.beq (e_SH a).1 101 && (Nat.blt j (e_SH a).2 && Nat.blt (e_SH a).2 2147483648))) with
    | false => rw [hq] at z; cases z
    | true =>
      rw [hq] at z
      rw [(s_blt (h := h) hq).1]
      exact z
  · intro h c r z
    change s_newI h c = some r at z
    show g_newI (e_emb h) c = some (r.1, e_emb r.2)
    unfold s_newI at z
    cases hc : Nat.beq c 16 with
    | false => rw [hc] at z; cases z
    | true =>
      rw [hc] at z
      simp only [cond_true] at z
      have := Nat.eq_of_beq_eq_true hc
      subst this
      by_cases hf : h.1 90 0 = 0
      · rw [if_pos hf] at z
        cases z
        have e1 : s_n h = 90 := if_neg (by rw [hf]; decide)
        have e2 : s_n (u2 h.1 90 0 1, u1 h.2 90 (fun _ => 0)) = 91 := if_pos (by show u2 h.1 90 0 1 90 0 = 1; unfold u2; rw [u1_s, u1_s])
        have e3 : u1 e_SH 90 (100, 16) = e_SH := by
          funext j
          by_cases hj : j = 90
          · subst hj; rw [u1_s]; rfl
          · rw [u1_n _ _ hj]
        have e4 : FF (u2 h.1 90 0 1) = FF h.1 := by
          funext o k
          unfold FF
          cases ho : Nat.beq o 90 with
          | true => rfl
          | false =>
            have : o ≠ 90 := fun w => by subst w; cases ho
            unfold u2
            rw [u1_n _ _ this]
        unfold g_newI e_emb
        dsimp only
        rw [e1, e2, e4, e3]
      · rw [if_neg hf] at z; cases z
abbrev SC (y : Nat) (as : List Value) (h : St) (Q : Option Value → St → Prop) : Prop := e_CallI IS y as h Q
abbrev SR (y pc : Nat) (L : List (Option Value)) (st : List Value) (h : St) (Q : Option Value → St → Prop) : Prop := e_RunI IS y pc L st (0, 0) h Q
theorem w_if {c : Prop} [Decidable c] {A B : Prop} (f : c → A) (g : ¬ c → B) : if c then A else B := by
  by_cases h : c
  · rw [if_pos h]; exact f h
  · rw [if_neg h]; exact g h
theorem w_t {c : Prop} [Decidable c] {A B : Prop} (h : c) (f : A) : if c then A else B := by rw [if_pos h]; exact f
theorem w_f {c : Prop} [Decidable c] {A B : Prop} (h : ¬ c) (f : B) : if c then A else B := by rw [if_neg h]; exact f
/-! the same, with places at which to stop -/
def e_in : List Nat → Nat → Bool
  | [], _ => false
  | a :: r, x => bif Nat.beq a x then true else e_in r x
def e_find2 : List (Nat × XO) → Nat → Option (Nat × XO)
  | [], _ => none
  | (q, o) :: r, pc => bif Nat.beq q pc then some (q, o) else e_find2 r pc
theorem e_find2_ok {pc q : Nat} {o : XO} : ∀ {l : List (Nat × XO)}, e_find2 l pc = some (q, o) → q = pc ∧ e_find l pc = some o
  | [], h => by cases h
  | (q', o') :: r, h => by
    unfold e_find2 at h
    unfold e_find
    cases hq : Nat.beq q' pc with
    | true =>
      rw [hq] at h
      cases h
      exact ⟨Nat.eq_of_beq_eq_true hq, rfl⟩
    | false =>
      rw [hq] at h
      exact e_find2_ok h
def e_wq {η : Type} (I : e_IT η) (y : Nat) (stop : List Nat) (Q : Option Value → η → Prop) : Nat → Nat → List (Option Value) → List Value → Nat × Nat → η → Prop
  | 0, pc, L, st, B, h => e_RunI I y pc L st B h Q
  | n + 1, pc, L, st, B, h => bif e_in stop pc then e_RunI I y pc L st B h Q else match e_find2 (mOps y) pc with
    | some (q, i, len, r1, r2, _, _, sw) => e_k I y i len r1 r2 sw q L st B h Q (e_wq I y stop Q n)
    | none => False
theorem e_wq_ok {η : Type} {I : e_IT η} (hI : e_IOk I) {y : Nat} {stop : List Nat} (hM : OkM y) {Q : Option Value → η → Prop} : ∀ (n pc : Nat) (L : List (Option Value)) (st : List Value) (B : Nat × Nat) (h : η), e_wq I y stop Q n pc L st B h → e_RunI I y pc L st B h Q
  | 0, _, _, _, _, _, k => k
  | n + 1, pc, L, st, B, h, k => by
    unfold e_wq at k
    cases hs : e_in stop pc with
    | true => rw [hs] at k; exact k
    | false =>
      rw [hs] at k
      simp only [cond_false] at k
      split at k
      · next q i len r1 r2 nest hh sw ho =>
        obtain ⟨rfl, ho⟩ := e_find2_ok ho
        exact e_k_ok hI hM ho (fun pc L st B h hk => e_wq_ok hI hM n pc L st B h hk) k
      · exact k.elim
/-- one step, then on to the next stop -/
def e_wr {η : Type} (I : e_IT η) (y : Nat) (stop : List Nat) (Q : Option Value → η → Prop) (n pc : Nat) (L : List (Option Value)) (st : List Value) (B : Nat × Nat) (h : η) : Prop := match e_op y pc with
  | some (i, len, r1, r2, _, _, sw) => e_k I y i len r1 r2 sw pc L st B h Q (e_wq I y stop Q n)
  | none => False
theorem w_loop {η : Type} {I : e_IT η} (hI : e_IOk I) {y : Nat} (stop : List Nat) (hM : OkM y) {Q : Option Value → η → Prop} {pc : Nat} {L : List (Option Value)} {st : List Value} {B : Nat × Nat} {h : η} (k : e_wr I y stop Q 400 pc L st B h) : e_RunI I y pc L st B h Q := by
  unfold e_wr at k
  split at k
  · next i len r1 r2 nest hh sw ho => exact e_k_ok hI hM ho (fun pc L st B h hk => e_wq_ok hI hM 400 pc L st B h hk) k
  · exact k.elim
theorem w_call {η : Type} {I : e_IT η} (hI : e_IOk I) {y : Nat} (stop : List Nat) (hM : OkM y) (hy : plainName (mNm y).cls = true) {as : List Value} {h : η} {Q : Option Value → η → Prop} (hlen : Nat.ble (e_args as).length (mML y) = true) (hwp : e_wq I y stop Q 400 0 (e_L0 as (mML y)) [] ((mRm y).cells, (mRm y).slots) h) (hyl : Nat.beq y y_L_law = false := by rfl) : e_CallI I y as h Q :=
  e_call_of hI hM (n := 0) hy hlen (e_wq_ok hI hM 400 0 _ [] _ h hwp) hyl
/-! ints by whole numbers -/
def iI (z : Int) : Int32 := Int32.ofInt z
abbrev rg (z : Int) : Prop := -2147483648 ≤ z ∧ z < 2147483648
theorem iI_add (a b : Int) : iI a + iI b = iI (a + b) := (Int32.ofInt_add a b).symm
theorem iI_sub (a b : Int) : iI a - iI b = iI (a - b) := (Int32.ofInt_sub a b).symm
theorem iI_mul (a b : Int) : iI a * iI b = iI (a * b) := (Int32.ofInt_mul a b).symm
theorem iI_neg (a : Int) : -iI a = iI (-a) := (Int32.ofInt_neg a).symm
theorem iI_toInt {a : Int} (h : rg a) : (iI a).toInt = a := Int32.toInt_ofInt_of_le h.1 h.2
theorem iI_of (x : Int32) : x = iI x.toInt := (Int32.ofInt_toInt x).symm
theorem iI_rg (x : Int32) : rg x.toInt := ⟨Int32.le_toInt x, Int32.toInt_lt x⟩
theorem iI_lt {a b : Int} (ha : rg a) (hb : rg b) : iI a < iI b ↔ a < b := by rw [Int32.lt_iff_toInt_lt, iI_toInt ha, iI_toInt hb]
theorem iI_le {a b : Int} (ha : rg a) (hb : rg b) : iI a ≤ iI b ↔ a ≤ b := by rw [Int32.le_iff_toInt_le, iI_toInt ha, iI_toInt hb]
theorem iI_eq {a b : Int} (ha : rg a) (hb : rg b) : iI a = iI b ↔ a = b := ⟨fun h => by rw [← iI_toInt ha, ← iI_toInt hb, h], fun h => by rw [h]⟩
theorem iI_nat (n : Nat) : nI n = iI (n : Int) := rfl
theorem iI_lit (n : Nat) : (OfNat.ofNat n : Int32) = iI (n : Int) := rfl
theorem iI_m (n : Nat) : (-(OfNat.ofNat n) : Int32) = iI (-(n : Int)) := iI_neg n
theorem w_lt {x y : Int32} {A B : Prop} (a b : Int) (f : a < b → A) (g : b ≤ a → B) (hx : x = iI a := by first | rfl | simp only [iI_lit, iI_nat, iI_add, iI_sub, iI_mul, iI_neg] <;> rfl) (hy : y = iI b := by first | rfl | simp only [iI_lit, iI_nat, iI_add, iI_sub, iI_mul, iI_neg] <;> rfl) (ha : rg a := by omega) (hb : rg b := by omega) : if x < y then A else B := by
  subst hx; subst hy
  exact w_if (fun h => f ((iI_lt ha hb).mp h)) (fun h => g (by have : ¬ a < b := fun z => h ((iI_lt ha hb).mpr z); omega))
theorem w_le {x y : Int32} {A B : Prop} (a b : Int) (f : a ≤ b → A) (g : b < a → B) (hx : x = iI a := by first | rfl | simp only [iI_lit, iI_nat, iI_add, iI_sub, iI_mul, iI_neg] <;> rfl) (hy : y = iI b := by first | rfl | simp only [iI_lit, iI_nat, iI_add, iI_sub, iI_mul, iI_neg] <;> rfl) (ha : rg a := by omega) (hb : rg b := by omega) : if x ≤ y then A else B := by
  subst hx; subst hy
  exact w_if (fun h => f ((iI_le ha hb).mp h)) (fun h => g (by have : ¬ a ≤ b := fun z => h ((iI_le ha hb).mpr z); omega))
theorem w_eq {x y : Int32} {A B : Prop} (a b : Int) (f : a = b → A) (g : a ≠ b → B) (hx : x = iI a := by first | rfl | simp only [iI_lit, iI_nat, iI_add, iI_sub, iI_mul, iI_neg] <;> rfl) (hy : y = iI b := by first | rfl | simp only [iI_lit, iI_nat, iI_add, iI_sub, iI_mul, iI_neg] <;> rfl) (ha : rg a := by omega) (hb : rg b := by omega) : if x = y then A else B := by
  subst hx; subst hy
  exact w_if (fun h => f ((iI_eq ha hb).mp h)) (fun h => g (fun z => h ((iI_eq ha hb).mpr z)))
/-- an index -/
theorem w_ix {x : Int32} {n : Nat} {K : Nat → Prop} (j : Nat) (k : K j) (hx : x = iI (j : Int) := by first | rfl | simp only [iI_lit, iI_nat, iI_add, iI_sub, iI_mul, iI_neg] <;> rfl) (hj : j < n := by omega) : ∃ i : Nat, x = nI i ∧ i < n ∧ K i := ⟨j, hx, hj, k⟩
end
section
/-! numbers, states: 1 -/
def bI (c : Prop) [Decidable c] : Int32 := if c then 1 else 0
theorem bI_01 (c : Prop) [Decidable c] : bI c = 0 ∨ bI c = 1 := by unfold bI; by_cases h : c <;> simp [h]
theorem bI_t {c : Prop} [Decidable c] (h : c) : bI c = 1 := if_pos h
theorem bI_f {c : Prop} [Decidable c] (h : ¬ c) : bI c = 0 := if_neg h
theorem bI_iff {c d : Prop} [Decidable c] [Decidable d] (h : c ↔ d) : bI c = bI d := by unfold bI; by_cases hc : c <;> simp [hc, ← h]
theorem w_b {c : Prop} [Decidable c] {A B : Prop} (f : ¬ c → A) (g : c → B) : if bI c = 0 then A else B := by
  by_cases h : c
  · rw [bI_t h]; exact w_f (by decide) (g h)
  · rw [bI_f h]; exact w_t rfl (f h)
def sm (f : Nat → Nat) : Nat → Nat
  | 0 => 0
  | n + 1 => sm f n + f n
theorem sm_congr {f g : Nat → Nat} : ∀ {n : Nat}, (∀ i, i < n → f i = g i) → sm f n = sm g n
  | 0, _ => rfl
  | n + 1, h => by simp only [sm]; rw [sm_congr (fun i hi => h i (by omega)), h n (by omega)]
theorem sm_le {f : Nat → Nat} {b : Nat} : ∀ {n : Nat}, (∀ i, i < n → f i ≤ b) → sm f n ≤ n * b
  | 0, _ => by simp [sm]
  | n + 1, h => by
    have := sm_le (f := f) (b := b) (n := n) (fun i hi => h i (by omega))
    have := h n (by omega)
    simp only [sm, Nat.succ_mul]
    omega
theorem sm_zero {f : Nat → Nat} : ∀ {n : Nat}, sm f n = 0 ↔ ∀ i, i < n → f i = 0
  | 0 => by simp [sm]
  | n + 1 => by
    simp only [sm, Nat.add_eq_zero_iff, sm_zero (f := f) (n := n)]
    constructor
    · intro ⟨h1, h2⟩ i hi
      by_cases h : i = n
      · rw [h]; exact h2
      · exact h1 i (by omega)
    · intro h
      exact ⟨fun i hi => h i (by omega), h n (by omega)⟩
theorem sm_add (f g : Nat → Nat) : ∀ n : Nat, sm (fun i => f i + g i) n = sm f n + sm g n
  | 0 => rfl
  | n + 1 => by simp only [sm, sm_add f g n]; omega
theorem sm_mono {f : Nat → Nat} {a b : Nat} (h : a ≤ b) : sm f a ≤ sm f b := by
  induction b with
  | zero => rw [Nat.le_zero.mp h]; exact Nat.le_refl _
  | succ b ih =>
    by_cases hb : a = b + 1
    · rw [hb]; exact Nat.le_refl _
    · have := ih (by omega); simp only [sm]; omega
def hgh (S : Nat → Int) (p : Nat) : Int := if S (26 + 9 * p + 2) = 1 then 16 else 8
abbrev stn (S : Nat → Int) (p : Nat) (y : Int) : Prop := S (26 + 9 * p + 1) ≤ y ∧ y < S (26 + 9 * p + 1) + hgh S p
/-- the bounds of what a puppet has -/
def WP (S : Nat → Int) : Prop := ∀ p, p < 20 → (-15 ≤ S (26 + 9 * p) ∧ S (26 + 9 * p) ≤ 63) ∧ (-15 ≤ S (26 + 9 * p + 1) ∧ S (26 + 9 * p + 1) ≤ 47) ∧ (0 ≤ S (26 + 9 * p + 2) ∧ S (26 + 9 * p + 2) ≤ 1) ∧ (0 ≤ S (26 + 9 * p + 3) ∧ S (26 + 9 * p + 3) ≤ 7) ∧ (0 ≤ S (26 + 9 * p + 4) ∧ S (26 + 9 * p + 4) ≤ 9) ∧ (0 ≤ S (26 + 9 * p + 5) ∧ S (26 + 9 * p + 5) ≤ 3) ∧ (0 ≤ S (26 + 9 * p + 6) ∧ S (26 + 9 * p + 6) ≤ S 5) ∧ (0 ≤ S (26 + 9 * p + 7) ∧ S (26 + 9 * p + 7) ≤ S 5) ∧ (0 ≤ S (26 + 9 * p + 8) ∧ S (26 + 9 * p + 8) ≤ S 5)
def WF (S : Nat → Int) : Prop := (0 ≤ S 0 ∧ S 0 ≤ 20) ∧ (0 ≤ S 1 ∧ S 1 ≤ S 0) ∧ (1 ≤ S 2 ∧ S 2 ≤ 8) ∧ (0 ≤ S 3 ∧ S 3 ≤ 2) ∧ (1 ≤ S 4 ∧ S 4 ≤ 19) ∧ (0 ≤ S 5 ∧ S 5 ≤ 9999) ∧ (∀ k, k < (S 1).toNat → 0 ≤ S (6 + k) ∧ S (6 + k) < S 0) ∧ (∀ j k, j < k → k < (S 1).toNat → S (6 + j) ≠ S (6 + k)) ∧ WP S ∧ (∀ i, i < 64 → 0 ≤ S (206 + i) ∧ S (206 + i) ≤ 255) ∧ (∀ p : Nat, (p : Int) < S 0 → 1 ≤ S (26 + 9 * p + 4)) ∧ (∀ p : Nat, p < 20 → S 0 ≤ p → ∀ j, j < 9 → S (26 + 9 * p + j) = 0)
theorem hgh_b (S : Nat → Int) (p : Nat) : hgh S p = 8 ∨ hgh S p = 16 := by unfold hgh; by_cases h : S (26 + 9 * p + 2) = 1 <;> simp [h]
/-- the number of lines on which a puppet stands -/
def lns (S : Nat → Int) (p : Nat) (n : Nat) : Nat := sm (fun y => if stn S p y then 1 else 0) n
theorem iI_1 {x : Int32} {k : Nat} (h : x = iI k) : x + 1 = iI ((k + 1 : Nat) : Int) := by rw [h, iI_lit, iI_add]; rfl
abbrev od (S : Nat → Int) (k : Nat) : Nat := (S (6 + k)).toNat
theorem WF.n {S : Nat → Int} (h : WF S) : S 1 = ((S 1).toNat : Int) ∧ (S 1).toNat ≤ 20 ∧ 0 ≤ S 0 ∧ S 0 ≤ 20 ∧ S 1 ≤ S 0 := by obtain ⟨h0, h1, -⟩ := h; omega
theorem WF.od {S : Nat → Int} (h : WF S) {k : Nat} (hk : k < (S 1).toNat) : S (6 + k) = (od S k : Int) ∧ od S k < 20 ∧ S (6 + k) < S 0 := by
  obtain ⟨h0, -, -, -, -, -, h1, -⟩ := h
  have := h1 k hk
  unfold Jvm.Pilot.CPuppetTurnsLaw_law_r1533_6dc637.od
  omega
theorem WF.inj {S : Nat → Int} (h : WF S) {j k : Nat} (hj : j < (S 1).toNat) (hk : k < (S 1).toNat) (he : S (6 + j) = S (6 + k)) : j = k := by
  obtain ⟨-, -, -, -, -, -, -, h1, -⟩ := h
  rcases Nat.lt_trichotomy j k with h2 | h2 | h2
  · exact absurd he (h1 j k h2 hk)
  · exact h2
  · exact absurd he.symm (h1 k j h2 hj)
theorem WF.lim {S : Nat → Int} (h : WF S) : 1 ≤ S 2 ∧ S 2 ≤ 8 := h.2.2.1
theorem WF.wp {S : Nat → Int} (h : WF S) : WP S := h.2.2.2.2.2.2.2.2.1
/-- the position of a puppet in the order, or -109 -/
def pos (S : Nat → Int) (p : Int) : Nat → Int
  | 0 => -109
  | k + 1 => if S (6 + k) = p then k else pos S p k
theorem pos_b (S : Nat → Int) (p : Int) : ∀ n : Nat, pos S p n = -109 ∨ (0 ≤ pos S p n ∧ pos S p n < n)
  | 0 => Or.inl rfl
  | k + 1 => by
    unfold pos
    split
    · exact Or.inr (by omega)
    · rcases pos_b S p k with h | h
      · exact Or.inl h
      · exact Or.inr (by omega)
theorem pos_no {S : Nat → Int} {p : Int} : ∀ {n : Nat}, pos S p n = -109 ↔ ∀ k, k < n → S (6 + k) ≠ p
  | 0 => by simp [pos]
  | n + 1 => by
    unfold pos
    by_cases h : S (6 + n) = p
    · rw [if_pos h]
      exact ⟨fun z => by omega, fun z => absurd h (z n (by omega))⟩
    · rw [if_neg h, pos_no (n := n)]
      refine ⟨fun z k hk => ?_, fun z k hk => z k (by omega)⟩
      by_cases hkn : k = n
      · rw [hkn]; exact h
      · exact z k (by omega)
theorem pos_at {S : Nat → Int} {p : Int} : ∀ {n k : Nat}, pos S p n = (k : Int) → k < n ∧ S (6 + k) = p
  | 0, k, h => by unfold pos at h; omega
  | n + 1, k, h => by
    unfold pos at h
    by_cases hp : S (6 + n) = p
    · rw [if_pos hp] at h
      have : k = n := by omega
      subst this
      exact ⟨by omega, hp⟩
    · rw [if_neg hp] at h
      have := pos_at h
      exact ⟨by omega, this.2⟩
theorem pos_is {S : Nat → Int} (hW : WF S) {k : Nat} (hk : k < (S 1).toNat) {p : Int} (hp : S (6 + k) = p) : pos S p (S 1).toNat = k := by
  rcases pos_b S p (S 1).toNat with h | ⟨h1, h2⟩
  · exact absurd hp (pos_no.mp h k hk)
  · have h3 := pos_at (S := S) (p := p) (n := (S 1).toNat) (k := (pos S p (S 1).toNat).toNat) (by omega)
    have := hW.inj h3.1 hk (h3.2.trans hp.symm)
    omega
/-- there is such a puppet -/
abbrev thr (S : Nat → Int) (p : Int) : Prop := pos S p (S 1).toNat ≠ -109
theorem thr_b {S : Nat → Int} (hW : WF S) {p : Int} (h : thr S p) : 0 ≤ p ∧ p < S 0 ∧ p < 20 := by
  rcases pos_b S p (S 1).toNat with h1 | ⟨h1, h2⟩
  · exact absurd h1 h
  · have h3 := pos_at (S := S) (p := p) (n := (S 1).toNat) (k := (pos S p (S 1).toNat).toNat) (by omega)
    have h4 := hW.od h3.1
    have h5 := hW.n
    omega
/-- how many of the first ones by an order stand on a line -/
def cn (S : Nat → Int) (o : Nat → Nat) (y : Int) (k : Nat) : Nat := sm (fun j => if stn S (o j) y then 1 else 0) k
theorem cn_le (S : Nat → Int) (o : Nat → Nat) (y : Int) (k : Nat) : cn S o y k ≤ k := by
  have := sm_le (f := fun j => if stn S (o j) y then 1 else 0) (b := 1) (n := k) (fun i _ => by split <;> omega)
  unfold cn
  omega
theorem cn_t {S : Nat → Int} {o : Nat → Nat} {y : Int} {k : Nat} (h : stn S (o k) y) : cn S o y (k + 1) = cn S o y k + 1 := by simp only [cn, sm, if_pos h]
theorem cn_f {S : Nat → Int} {o : Nat → Nat} {y : Int} {k : Nat} (h : ¬ stn S (o k) y) : cn S o y (k + 1) = cn S o y k := by simp only [cn, sm, if_neg h]; rfl
theorem cn_mono {S : Nat → Int} {o : Nat → Nat} {y : Int} {j k : Nat} (h : j ≤ k) : cn S o y j ≤ cn S o y k := sm_mono h
theorem cn_lt {S : Nat → Int} {o : Nat → Nat} {y : Int} {j k : Nat} (h : j < k) (hs : stn S (o j) y) : cn S o y j < cn S o y k := by
  have h1 := cn_t hs
  have h2 : cn S o y (j + 1) ≤ cn S o y k := cn_mono h
  omega
/-- the k-th by the order is shown on the line -/
abbrev vis (S : Nat → Int) (y : Int) (k : Nat) : Prop := stn S (od S k) y ∧ (cn S (od S) y k : Int) < S 2
/-- what is shown on a line as the told one -/
def ShoR (S : Nat → Int) (y i r : Int) : Prop := (∃ k, k < (S 1).toNat ∧ vis S y k ∧ (cn S (od S) y k : Int) = i ∧ r = S (6 + k)) ∨ (r = -109 ∧ ∀ k, k < (S 1).toNat → vis S y k → (cn S (od S) y k : Int) ≠ i)
theorem WF.pic {S : Nat → Int} (h : WF S) {i : Nat} (hi : i < 64) : 0 ≤ S (206 + i) ∧ S (206 + i) ≤ 255 := h.2.2.2.2.2.2.2.2.2.1 i hi
theorem WF.col {S : Nat → Int} (h : WF S) {p : Nat} (hp : (p : Int) < S 0) : 1 ≤ S (26 + 9 * p + 4) := h.2.2.2.2.2.2.2.2.2.2.1 p hp
def hghN (S : Nat → Int) (p : Nat) : Nat := if S (26 + 9 * p + 2) = 1 then 16 else 8
theorem hghN_i (S : Nat → Int) (p : Nat) : (hghN S p : Int) = hgh S p := by unfold hghN hgh; split <;> rfl
def pxC (S : Nat → Int) (p dx : Nat) : Nat := if S (26 + 9 * p + 5) % 2 = 1 then 7 - dx else dx
def pxR (S : Nat → Int) (p dy : Nat) : Nat := if S (26 + 9 * p + 5) / 2 = 1 then hghN S p - 1 - dy else dy
def pxD (S : Nat → Int) (p dy : Nat) : Nat := (S (206 + 8 * (((S (26 + 9 * p + 3)).toNat + pxR S p dy / 8) % 8) + pxR S p dy % 8)).toNat
def pix (S : Nat → Int) (p dx dy : Nat) : Bool := (pxD S p dy).testBit (7 - pxC S p dx)
abbrev setp (S : Nat → Int) (p : Nat) (x y : Int) : Prop := (0 ≤ x - S (26 + 9 * p) ∧ x - S (26 + 9 * p) ≤ 7) ∧ (0 ≤ y - S (26 + 9 * p + 1) ∧ y - S (26 + 9 * p + 1) ≤ hgh S p - 1) ∧ pix S p (x - S (26 + 9 * p)).toNat (y - S (26 + 9 * p + 1)).toNat = true
theorem and_f1 {f : Int} (h : 0 ≤ f ∧ f ≤ 3) : iI f &&& 1 = iI (f % 2) := by
  rcases (show f = 0 ∨ f = 1 ∨ f = 2 ∨ f = 3 by omega) with rfl | rfl | rfl | rfl <;> decide
theorem and_f2 {f : Int} (h : 0 ≤ f ∧ f ≤ 3) : iI f &&& 2 = iI (2 * (f / 2)) := by
  rcases (show f = 0 ∨ f = 1 ∨ f = 2 ∨ f = 3 by omega) with rfl | rfl | rfl | rfl <;> decide
theorem s_l : ∀ n, n < 32 → ((nI n &&& 31).toBitVec.smod 32).toNat = n := by decide +kernel
theorem fa_and (a b : Nat) : nI a &&& nI b = nI (a &&& b) := by
  apply Int32.toBitVec_inj.1
  show BitVec.ofNat 32 a &&& BitVec.ofNat 32 b = BitVec.ofNat 32 (a &&& b)
  apply BitVec.eq_of_getLsbD_eq
  intro i hi
  simp [hi]
theorem fa_or (a b : Nat) : nI a ||| nI b = nI (a ||| b) := by
  apply Int32.toBitVec_inj.1
  show BitVec.ofNat 32 a ||| BitVec.ofNat 32 b = BitVec.ofNat 32 (a ||| b)
  apply BitVec.eq_of_getLsbD_eq
  intro i hi
  simp [hi]
theorem shN {a c : Nat} (h : a * 2 ^ c < 2 ^ 32) (hc : c < 32) : nI a <<< (nI c &&& 31) = nI (a * 2 ^ c) := pk_shlN _ c (s_l c hc) h
theorem sh128n : ∀ d, d < 256 → ∀ c, c < 8 → (((d * 2 ^ c) &&& 128 = 0) ↔ d.testBit (7 - c) = false) := by decide +kernel
theorem sh128 (d : Nat) (hd : d < 256) (c : Nat) (hc : c < 8) : (((nI d <<< (nI c &&& 31)) &&& 128 = 0) ↔ d.testBit (7 - c) = false) := by
  have h1 : d * 2 ^ c < 256 * 2 ^ 8 := Nat.mul_lt_mul_of_lt_of_le hd (Nat.pow_le_pow_right (by decide) (by omega)) (by decide)
  rw [shN (by omega) (by omega), show (128 : Int32) = nI 128 from rfl, fa_and, show (0 : Int32) = nI 0 from rfl, nI_eq (Nat.lt_of_le_of_lt Nat.and_le_right (by decide)) (by decide)]
  exact sh128n d hd c hc
theorem div8 {x : Int32} {a : Nat} (h : x = iI a) (ha : a < 2 ^ 31) : x / 8 = iI ((a / 8 : Nat) : Int) := by
  rw [h, show (8 : Int32) = nI 8 from rfl, ← iI_nat, pk_div ha (by decide) (by decide)]
  rfl
theorem rem8 {x : Int32} {a : Nat} (h : x = iI a) (ha : a < 2 ^ 31) : x - x / 8 * 8 = iI ((a % 8 : Nat) : Int) := by
  rw [h, show (8 : Int32) = nI 8 from rfl, ← iI_nat, pk_rem ha (by decide) (by decide)]
  rfl
theorem pxR_b (S : Nat → Int) (p dy : Nat) (h : dy < hghN S p) : pxR S p dy < 16 := by
  have h1 : hghN S p = 8 ∨ hghN S p = 16 := by unfold hghN; split <;> omega
  unfold pxR
  split <;> omega
noncomputable def bC (P : Prop) : Int32 := @bI P (Classical.propDecidable P)
theorem bC_01 (P : Prop) : bC P = 0 ∨ bC P = 1 := @bI_01 P (Classical.propDecidable P)
theorem bC_t {P : Prop} (h : P) : bC P = 1 := @bI_t P (Classical.propDecidable P) h
theorem bC_f {P : Prop} (h : ¬ P) : bC P = 0 := @bI_f P (Classical.propDecidable P) h
theorem w_c {P : Prop} {A B : Prop} (f : ¬ P → A) (g : P → B) : if bC P = 0 then A else B := @w_b P (Classical.propDecidable P) A B f g
noncomputable def cI (P : Prop) : Nat := @ite _ P (Classical.propDecidable P) 1 0
theorem cI_t {P : Prop} (h : P) : cI P = 1 := @if_pos P (Classical.propDecidable P) h _ _ _
theorem cI_f {P : Prop} (h : ¬ P) : cI P = 0 := @if_neg P (Classical.propDecidable P) h _ _ _
theorem cI_iff {P R : Prop} (h : P ↔ R) : cI P = cI R := by rw [show P = R from propext h]
theorem cI_le (P : Prop) : cI P ≤ 1 := by
  by_cases h : P
  · rw [cI_t h]; exact Nat.le_refl _
  · rw [cI_f h]; exact Nat.zero_le _
theorem cn_inj {S : Nat → Int} {o : Nat → Nat} {y : Int} {j k : Nat} (hj : stn S (o j) y) (hk : stn S (o k) y) (h : cn S o y j = cn S o y k) : j = k := by
  rcases Nat.lt_trichotomy j k with h2 | h2 | h2
  · have := cn_lt h2 hj; omega
  · exact h2
  · have := cn_lt h2 hk; omega
/-- the first one that is shown on the line with a dot set there, but one -/
def FirR (S : Nat → Int) (x y but r : Int) : Prop := (∃ k, k < (S 1).toNat ∧ vis S y k ∧ S (6 + k) ≠ but ∧ setp S (od S k) x y ∧ (∀ j, j < k → vis S y j → S (6 + j) ≠ but → ¬ setp S (od S j) x y) ∧ r = S (6 + k)) ∨ (r = -109 ∧ ∀ j, j < (S 1).toNat → vis S y j → S (6 + j) ≠ but → ¬ setp S (od S j) x y)
theorem FirR_b {S : Nat → Int} (hW : WF S) {x y but r : Int} (h : FirR S x y but r) : r = -109 ∨ (0 ≤ r ∧ r < 20 ∧ r < S 0) := by
  rcases h with ⟨k, hk, -, -, -, -, rfl⟩ | ⟨rfl, -⟩
  · have := hW.od hk; exact Or.inr (by omega)
  · exact Or.inl rfl
def ColR (S : Nat → Int) (x y c : Int) : Prop := ∃ r, FirR S x y (-109) r ∧ c = (if r = -109 then 0 else S (26 + 9 * r.toNat + 4))
/-- a dot of the stage that is not 0 -/
def lit (S : Nat → Int) (x y : Int) : Prop := ∃ k, k < (S 1).toNat ∧ vis S y k ∧ setp S (od S k) x y
theorem ColR_pos {S : Nat → Int} (hW : WF S) {x y c : Int} (h : ColR S x y c) : (0 < c ↔ lit S x y) ∧ 0 ≤ c ∧ c ≤ 9 := by
  obtain ⟨r, hr, rfl⟩ := h
  rcases hr with ⟨k, hk, hv, hne, hs, hf, rfl⟩ | ⟨rfl, hno⟩
  · have ho := hW.od hk
    have hc := hW.col (p := od S k) (by rw [← ho.1]; exact ho.2.2)
    have hc9 := (hW.wp (od S k) ho.2.1).2.2.2.2.1
    rw [if_neg (by omega)]
    have e : (S (6 + k)).toNat = od S k := rfl
    rw [e]
    exact ⟨⟨fun _ => ⟨k, hk, hv, hs⟩, fun _ => by omega⟩, by omega, by omega⟩
  · rw [if_pos rfl]
    refine ⟨⟨fun z => by omega, fun ⟨k, hk, hv, hs⟩ => ?_⟩, by omega, by omega⟩
    have ho := hW.od hk
    exact absurd hs (hno k hk hv (by omega))
noncomputable def dts (S : Nat → Int) (y : Int) (n : Nat) : Nat := sm (fun x => cI (lit S x y)) n
theorem dts_le (S : Nat → Int) (y : Int) (n : Nat) : dts S y n ≤ n := by
  have := sm_le (f := fun x : Nat => cI (lit S x y)) (b := 1) (n := n) (fun i _ => cI_le _)
  unfold dts
  omega
def HerR (S : Nat → Int) (n : Nat) (r : Int) : Prop := (n = 0 ∧ r = -109) ∨ (∃ k, k < n ∧ r = S (6 + k) ∧ ∀ j, j < n → r ≤ S (6 + j))
/-- a puppet is shown on a line -/
def shw (S : Nat → Int) (p y : Int) : Prop := ∃ k, k < (S 1).toNat ∧ vis S y k ∧ S (6 + k) = p
def Sm (X : List (Nat × Nat)) (Y : List Nat) (h h' : St) : Prop := (∀ o k, (o, k) ∉ X → h'.1 o k = h.1 o k) ∧ ∀ a, a ∉ Y → h'.2 a = h.2 a
theorem Sm.rf {X : List (Nat × Nat)} {Y : List Nat} {h : St} : Sm X Y h h := ⟨fun _ _ _ => rfl, fun _ _ => rfl⟩
theorem Sm.tr {X X' : List (Nat × Nat)} {Y Y' : List Nat} {h h1 h2 : St} (a : Sm X Y h h1) (b : Sm X' Y' h1 h2) : Sm (X ++ X') (Y ++ Y') h h2 :=
  ⟨fun o k hn => (b.1 o k (fun z => hn (List.mem_append_right _ z))).trans (a.1 o k (fun z => hn (List.mem_append_left _ z))), fun q hn => (b.2 q (fun z => hn (List.mem_append_right _ z))).trans (a.2 q (fun z => hn (List.mem_append_left _ z)))⟩
theorem Sm.t {X : List (Nat × Nat)} {Y : List Nat} {h h1 h2 : St} (a : Sm X Y h h1) (b : Sm X Y h1 h2) : Sm X Y h h2 :=
  ⟨fun o k hn => (b.1 o k hn).trans (a.1 o k hn), fun q hn => (b.2 q hn).trans (a.2 q hn)⟩
theorem Sm.mo {X X' : List (Nat × Nat)} {Y Y' : List Nat} {h h1 : St} (a : Sm X Y h h1) (hx : ∀ q ∈ X, q ∈ X') (hy : ∀ q ∈ Y, q ∈ Y') : Sm X' Y' h h1 := ⟨fun o k hn => a.1 o k (fun z => hn (hx _ z)), fun q hn => a.2 q (fun z => hn (hy _ z))⟩
theorem Sm.wr {X : List (Nat × Nat)} {Y : List Nat} {h : St} {a : Nat} (f : Nat → Int32) (ha : a ∈ Y) : Sm X Y h (h.1, u1 h.2 a f) := ⟨fun _ _ _ => rfl, fun q hq => u1_n _ _ (fun z => hq (z ▸ ha))⟩
theorem Sm.put {X : List (Nat × Nat)} {Y : List Nat} {h : St} {o k : Nat} (x : Int32) (ha : (o, k) ∈ X) : Sm X Y h (u2 h.1 o k x, h.2) := by
  refine ⟨fun a j hn => ?_, fun _ _ => rfl⟩
  show u2 h.1 o k x a j = _
  unfold u2 u1
  by_cases h1 : a = o
  · by_cases h2 : j = k
    · rw [h1, h2] at hn; exact absurd ha hn
    · rw [if_pos h1, if_neg h2, h1]
  · rw [if_neg h1]
theorem bit_at {w k : Nat} (hw : w < 2 ^ 20) (hk : k < 20) : (nI w >>> (iI k &&& 31)) &&& 1 = iI (if w.testBit k then 1 else 0) := by
  rw [← iI_nat, pk_shrN (by omega) _ k (s_l k (by omega)), show (1 : Int32) = nI 1 from rfl, fa_and, Nat.and_one_is_mod, Nat.testBit_eq_decide_div_mod_eq]
  have : w / 2 ^ k % 2 = 0 ∨ w / 2 ^ k % 2 = 1 := by omega
  rcases this with h | h
  · rw [h]; rfl
  · rw [h]; rfl
theorem bit_or {w p : Nat} (hp : p < 20) : nI w ||| ((1 : Int32) <<< (iI p &&& 31)) = nI (w ||| 2 ^ p) := by
  have h1 : 2 ^ p < 2 ^ 20 := Nat.pow_lt_pow_right (by decide) hp
  rw [show (1 : Int32) = nI 1 from rfl, ← iI_nat, shN (by omega) (by omega), Nat.one_mul, fa_or]
theorem bit_or_t {w p q : Nat} : (w ||| 2 ^ p).testBit q = (w.testBit q || decide (p = q)) := by rw [Nat.testBit_or, Nat.testBit_two_pow]
theorem bit_or_b {w p : Nat} (hw : w < 2 ^ 20) (hp : p < 20) : w ||| 2 ^ p < 2 ^ 20 := Nat.or_lt_two_pow hw (Nat.pow_lt_pow_right (by decide) hp)
def hA (S : Nat → Int) (o : Nat → Nat) (y k : Nat) : Nat := if stn S (o k) y ∧ S 2 < (cn S o y (k + 1) : Int) then 1 else 0
def hR (S : Nat → Int) (o : Nat → Nat) (y k p : Nat) : Nat := sm (fun j => if o j = p then hA S o y j else 0) k
def hT (S : Nat → Int) (o : Nat → Nat) (n y p : Nat) : Nat := sm (fun l => hR S o l n p) y
theorem hA_le (S : Nat → Int) (o : Nat → Nat) (y k : Nat) : hA S o y k ≤ 1 := by unfold hA; split <;> omega
theorem hR_le (S : Nat → Int) (o : Nat → Nat) (y k p : Nat) : hR S o y k p ≤ k := by
  have := sm_le (f := fun j => if o j = p then hA S o y j else 0) (b := 1) (n := k) (fun i _ => by
    have := hA_le S o y i
    split <;> omega)
  unfold hR
  omega
theorem hT_le (S : Nat → Int) (o : Nat → Nat) (n y p : Nat) : hT S o n y p ≤ y * n := sm_le (fun i _ => hR_le S o i n p)
theorem hR_s (S : Nat → Int) (o : Nat → Nat) (y k p : Nat) : hR S o y (k + 1) p = hR S o y k p + (if o k = p then hA S o y k else 0) := rfl
def wa (h : St) (a j : Nat) (x : Int32) : St := (h.1, u1 h.2 a (u1 (h.2 a) j x))
theorem wa_s (h : St) (a j : Nat) (x : Int32) : (wa h a j x).2 a j = x := by show u1 h.2 a (u1 (h.2 a) j x) a j = x; rw [u1_s, u1_s]
theorem wa_n (h : St) (a j : Nat) (x : Int32) {i : Nat} (hi : i ≠ j) : (wa h a j x).2 a i = h.2 a i := by show u1 h.2 a (u1 (h.2 a) j x) a i = _; rw [u1_s, u1_n _ _ hi]
theorem wa_o (h : St) (a j : Nat) (x : Int32) {b : Nat} (hb : b ≠ a) : (wa h a j x).2 b = h.2 b := u1_n _ _ hb
theorem Sm.wa {X : List (Nat × Nat)} {Y : List Nat} {h : St} {a : Nat} (j : Nat) (x : Int32) (ha : a ∈ Y) : Sm X Y h (wa h a j x) := Sm.wr _ ha
def ol (o : Nat → Nat) (n : Nat) : List Nat := (List.range n).map o
def fl (l : List Nat) : Nat → Nat := fun k => l.getD k 0
theorem ol_len (o : Nat → Nat) (n : Nat) : (ol o n).length = n := by simp [ol]
theorem ol_s (o : Nat → Nat) (n : Nat) : ol o (n + 1) = ol o n ++ [o n] := by simp [ol, List.range_succ]
theorem fl_ol {o : Nat → Nat} {n k : Nat} (h : k < n) : fl (ol o n) k = o k := by simp [fl, ol, List.getD_eq_getElem?_getD, h]
theorem ol_congr {o o' : Nat → Nat} {n : Nat} (h : ∀ k, k < n → o k = o' k) : ol o n = ol o' n := List.map_congr_left (fun k hk => h k (List.mem_range.mp hk))
theorem fl_app {l m : List Nat} {k : Nat} (h : k < l.length) : fl (l ++ m) k = fl l k := by simp [fl, List.getD_eq_getElem?_getD, List.getElem?_append_left h]
theorem fl_end {l : List Nat} {x k : Nat} (h : k = l.length) : fl (l ++ [x]) k = x := by subst h; simp [fl, List.getD_eq_getElem?_getD]
theorem filt_perm (B : Nat → Bool) : ∀ l : List Nat, (l.filter B ++ l.filter (fun p => !B p)).Perm l
  | [] => by simp
  | a :: r => by
    have ih := filt_perm B r
    cases h : B a with
    | true =>
      simp only [List.filter_cons, h, if_true, Bool.not_true, Bool.false_eq_true, if_false, List.cons_append]
      exact ih.cons a
    | false =>
      simp only [List.filter_cons, h, Bool.false_eq_true, if_false, Bool.not_false, if_true]
      exact List.perm_middle.trans (ih.cons a)
/-- the order behind its turn -/
def turnL (B : Nat → Bool) (rule : Int) (step n : Nat) (o : Nat → Nat) : List Nat := if rule = 2 then (ol o n).filter B ++ (ol o n).filter (fun p => !B p) else if rule = 1 then ol (fun k => o ((k + step) % n)) n else ol o n
theorem turnL_len (B : Nat → Bool) (rule : Int) (step n : Nat) (o : Nat → Nat) : (turnL B rule step n o).length = n := by
  unfold turnL
  split
  · rw [(filt_perm B (ol o n)).length_eq, ol_len]
  · split <;> rw [ol_len]
theorem turnL_mem {B : Nat → Bool} {rule : Int} {step n : Nat} {o : Nat → Nat} {x : Nat} (h : x ∈ turnL B rule step n o) : ∃ k, k < n ∧ o k = x := by
  have key : ∀ {o' : Nat → Nat}, x ∈ ol o' n → ∃ k, k < n ∧ o' k = x := fun hx => by
    obtain ⟨k, hk, e⟩ := List.mem_map.mp hx
    exact ⟨k, List.mem_range.mp hk, e⟩
  unfold turnL at h
  split at h
  · exact key ((filt_perm B (ol o n)).mem_iff.mp h)
  · split at h
    · obtain ⟨k, hk, e⟩ := key h
      exact ⟨(k + step) % n, Nat.mod_lt _ (by omega), e⟩
    · exact key h
theorem fl_mem {l : List Nat} {k : Nat} (h : k < l.length) : fl l k ∈ l := by
  unfold fl
  rw [List.getD_eq_getElem?_getD, List.getElem?_eq_getElem h]
  exact List.getElem_mem h
theorem modr {x y : Int32} {a b : Nat} (hx : x = iI a) (hy : y = iI b) (ha : a < 2 ^ 31) (hb : b < 2 ^ 31) (h0 : 0 < b) : x - x / y * y = iI ((a % b : Nat) : Int) := by
  rw [hx, hy, ← iI_nat, ← iI_nat, pk_rem ha h0 hb]
  rfl
theorem bit_is {w p : Nat} {B : Nat → Bool} (hw : w < 2 ^ 20) (hp : p < 20) (hb : w.testBit p = B p) : (nI w >>> (iI p &&& 31)) &&& 1 = iI (if B p then 1 else 0) := by rw [bit_at hw hp, hb]
theorem iI_p {x : Int32} {k : Nat} (h : x = iI k) (hk : 0 < k) : x + (-1) = iI ((k - 1 : Nat) : Int) := by
  rw [h, show (-1 : Int32) = iI (-1) from by decide, iI_add]
  exact congrArg iI (by omega)
theorem u1_app {α : Type} (f : Nat → α) (k : Nat) (x : α) (j : Nat) : u1 f k x j = if j = k then x else f j := rfl
def mvS (S : Nat → Int) (p : Nat) (x y : Int) : Nat → Int := u1 (u1 S (26 + 9 * p) x) (26 + 9 * p + 1) y
/-- the order is another one, and all else as before -/
def ROrd (S : Nat → Int) (n : Nat) (o : Nat → Nat) (S' : Nat → Int) : Prop := S' 1 = n ∧ (∀ k, k < n → S' (6 + k) = o k) ∧ ∀ i, i ≠ 1 → ¬ (6 ≤ i ∧ i < 26) → S' i = S i
def outO (o : Nat → Nat) (q : Nat) : Nat → Nat := fun k => if k < q then o k else o (k + 1)
def lftO (o : Nat → Nat) (q : Nat) : Nat → Nat := fun k => if k = 0 then o q else if k ≤ q then o (k - 1) else o k
def lowO (o : Nat → Nat) (q n : Nat) : Nat → Nat := fun k => if k < q then o k else if k + 1 < n then o (k + 1) else o q
/-- a puppet is hidden on any line -/
def hdd (S : Nat → Int) (p : Nat) : Bool := decide (0 < hT S (od S) (S 1).toNat 48 p)
def frP (T : Nat → Int) (b : Bool) (p : Nat) : Nat → Int :=
  u1 (u1 (u1 T (26 + 9 * p + 6) (T (26 + 9 * p + 6) + (if b then 1 else 0))) (26 + 9 * p + 7) (if b then T (26 + 9 * p + 7) + 1 else 0)) (26 + 9 * p + 8) (if (if b then T (26 + 9 * p + 7) + 1 else 0) ≤ T (26 + 9 * p + 8) then T (26 + 9 * p + 8) else (if b then T (26 + 9 * p + 7) + 1 else 0))
/-- the counts of the first ones by the order, behind a frame -/
def frC (S : Nat → Int) (hd : Nat → Bool) : Nat → (Nat → Int)
  | 0 => S
  | k + 1 => frP (frC S hd k) (hd (od S k)) (od S k)
theorem frP_o {T : Nat → Int} {b : Bool} {p i : Nat} (h : i ≠ 26 + 9 * p + 6) (h1 : i ≠ 26 + 9 * p + 7) (h2 : i ≠ 26 + 9 * p + 8) : frP T b p i = T i := by
  unfold frP
  rw [u1_n _ _ h2, u1_n _ _ h1, u1_n _ _ h]
theorem frC_o {S : Nat → Int} {hd : Nat → Bool} {i : Nat} : ∀ {k : Nat}, (∀ j, j < k → od S j < 20) → (i < 26 ∨ 206 ≤ i) → frC S hd k i = S i
  | 0, _, _ => rfl
  | k + 1, hb, hi => by
    have := hb k (by omega)
    unfold frC
    rw [frP_o (by omega) (by omega) (by omega)]
    exact frC_o (fun j hj => hb j (by omega)) hi
theorem frC_p {S : Nat → Int} {hd : Nat → Bool} {p i : Nat} (hi : i < 9) : ∀ {k : Nat}, (∀ j, j < k → od S j ≠ p) → frC S hd k (26 + 9 * p + i) = S (26 + 9 * p + i)
  | 0, _ => rfl
  | k + 1, hb => by
    have := hb k (by omega)
    unfold frC
    rw [frP_o (by omega) (by omega) (by omega)]
    exact frC_p hi (fun j hj => hb j (by omega))
theorem frC_c {S : Nat → Int} {hd : Nat → Bool} {p i : Nat} (hi : i < 6) : ∀ {k : Nat}, frC S hd k (26 + 9 * p + i) = S (26 + 9 * p + i)
  | 0 => rfl
  | k + 1 => by
    unfold frC
    rw [frP_o (by omega) (by omega) (by omega)]
    exact frC_c hi
def RFr (S S' : Nat → Int) : Prop := S' 5 = S 5 + 1 ∧ (∀ k, k < (S 1).toNat → S' (6 + k) = fl (turnL (hdd S) (S 3) (S 4).toNat (S 1).toNat (od S)) k) ∧ ∀ i, i ≠ 5 → ¬ (6 ≤ i ∧ i < 26) → S' i = frC S (hdd S) (S 1).toNat i
def hidN (S : Nat → Int) : Nat := sm (fun p => if hdd S p then 1 else 0) 20
theorem wf_oi {S : Nat → Int} (h : WF S) {j k : Nat} (hj : j < (S 1).toNat) (hk : k < (S 1).toNat) (he : od S j = od S k) : j = k := by
  have h1 := (h.od hj).1
  have h2 := (h.od hk).1
  exact h.inj hj hk (by omega)
def psN (n : Nat) : Nat := if n = 5 then 5 else n + 1
def psH (n : Nat) (H : Nat → Nat → Int) (S : Nat → Int) : Nat → Nat → Int := if n = 5 then (fun j => if j < 4 then H (j + 1) else S) else (fun j => if j < n then H j else S)
theorem mvS_n {S : Nat → Int} {p i : Nat} {x y : Int} (h : i ≠ 26 + 9 * p) (h1 : i ≠ 26 + 9 * p + 1) : mvS S p x y i = S i := by
  unfold mvS
  rw [u1_n _ _ h1, u1_n _ _ h]
/-- a new puppet -/
def cmS (S : Nat → Int) (x y t g c : Int) : Nat → Int :=
  u1 (u1 (u1 (u1 (u1 (u1 (u1 (u1 S 0 (S 0 + 1)) (6 + (S 1).toNat) (S 0)) 1 (S 1 + 1)) (26 + 9 * (S 0).toNat) x) (26 + 9 * (S 0).toNat + 1) y) (26 + 9 * (S 0).toNat + 2) t) (26 + 9 * (S 0).toNat + 3) g) (26 + 9 * (S 0).toNat + 4) c
def FaiR (f : Nat) (G : Nat → Int) (w r : Int) : Prop := (¬ (0 ≤ w ∧ w ≤ 4) ∧ r = -101) ∨ ((0 ≤ w ∧ w ≤ 4) ∧ ((f = 0 ∧ r = -109) ∨ (f = 1 ∧ r = G w.toNat)))
noncomputable def adt (S : Nat → Int) (n : Nat) : Nat := sm (fun y : Nat => dts S y 64) n
/-- what count answers -/
def CntR (S : Nat → Int) (hn len : Nat) (w r : Int) : Prop := (w = 0 ∧ r = S 1) ∨ (w = 1 ∧ r = S 0) ∨ (w = 2 ∧ r = S 2) ∨ (w = 3 ∧ r = S 3) ∨ (w = 4 ∧ r = S 4) ∨ (w = 5 ∧ r = S 5) ∨ (w = 6 ∧ r = hidN S) ∨ (w = 7 ∧ r = adt S 48) ∨ (w = 8 ∧ HerR S (S 1).toNat r) ∨ (w = 9 ∧ r = hn) ∨ (w = 10 ∧ r = len) ∨ (¬ (0 ≤ w ∧ w ≤ 10) ∧ r = -101)
/-- what puppet answers -/
def PupR (S : Nat → Int) (p w r : Int) : Prop := (¬ (thr S p ∧ (0 ≤ w ∧ w ≤ 11)) ∧ r = -101) ∨ ((thr S p ∧ (0 ≤ w ∧ w ≤ 11)) ∧ ((w = 6 ∧ r = pos S p (S 1).toNat) ∨ (w = 7 ∧ r = lns S p.toNat 48) ∨ (w = 8 ∧ r = hT S (od S) (S 1).toNat 48 p.toNat) ∨ (8 < w ∧ r = S (26 + 9 * p.toNat + (w - 3).toNat)) ∨ (w < 6 ∧ r = S (26 + 9 * p.toNat + w.toNat))))
/-- what line answers -/
def LinR (S : Nat → Int) (y w r : Int) : Prop := (¬ ((0 ≤ y ∧ y ≤ 47) ∧ (0 ≤ w ∧ w ≤ 2)) ∧ r = -101) ∨ (((0 ≤ y ∧ y ≤ 47) ∧ (0 ≤ w ∧ w ≤ 2)) ∧ ((w = 0 ∧ r = cn S (od S) y (S 1).toNat) ∨ (w = 2 ∧ r = dts S y 64) ∨ (w = 1 ∧ r = if (cn S (od S) y (S 1).toNat : Int) < S 2 then (cn S (od S) y (S 1).toNat : Int) else S 2)))
/-- what shown answers -/
def ShnR (S : Nat → Int) (y i r : Int) : Prop := (¬ ((0 ≤ y ∧ y ≤ 47) ∧ 0 ≤ i) ∧ r = -101) ∨ (((0 ≤ y ∧ y ≤ 47) ∧ 0 ≤ i) ∧ ShoR S y i r)
/-- what dot answers -/
def DotR (S : Nat → Int) (x y r : Int) : Prop := (¬ ((0 ≤ x ∧ x ≤ 63) ∧ (0 ≤ y ∧ y ≤ 47)) ∧ r = -101) ∨ (((0 ≤ x ∧ x ≤ 63) ∧ (0 ≤ y ∧ y ≤ 47)) ∧ ColR S x y r)
/-- there is a clash at a dot -/
def clq (S : Nat → Int) (hr x y : Int) : Prop := hr ≠ -109 ∧ setp S hr.toNat x y ∧ shw S hr y ∧ ∃ k, k < (S 1).toNat ∧ vis S y k ∧ S (6 + k) ≠ hr ∧ setp S (od S k) x y
noncomputable def clN (S : Nat → Int) (hr : Int) (n : Nat) : Nat := sm (fun p : Nat => cI (clq S hr ((p % 64 : Nat) : Int) ((p / 64 : Nat) : Int))) n
/-- what clash answers -/
def ClaR (S : Nat → Int) (w r : Int) : Prop := (¬ (0 ≤ w ∧ w ≤ 3) ∧ r = -101) ∨ ((0 ≤ w ∧ w ≤ 3) ∧ ∃ hr, HerR S (S 1).toNat hr ∧ ((w = 0 ∧ r = clN S hr 3072) ∨ (w ≠ 0 ∧ r = -109 ∧ ∀ p : Nat, p < 3072 → ¬ clq S hr ((p % 64 : Nat) : Int) ((p / 64 : Nat) : Int)) ∨
  (w ≠ 0 ∧ ∃ p : Nat, p < 3072 ∧ clq S hr ((p % 64 : Nat) : Int) ((p / 64 : Nat) : Int) ∧ (∀ q : Nat, q < p → ¬ clq S hr ((q % 64 : Nat) : Int) ((q / 64 : Nat) : Int)) ∧ ((w = 1 ∧ r = ((p % 64 : Nat) : Int)) ∨ (w = 2 ∧ r = ((p / 64 : Nat) : Int)) ∨ (w = 3 ∧ FirR S ((p % 64 : Nat) : Int) ((p / 64 : Nat) : Int) hr r)))))
/-- what worstLine answers -/
def WrsR (S : Nat → Int) (k : Nat) (r m : Int) : Prop := (r = -109 ∧ m = 0 ∧ ∀ y : Nat, y < k → (cn S (od S) y (S 1).toNat : Int) ≤ S 2) ∨ (∃ y : Nat, y < k ∧ r = y ∧ m = cn S (od S) y (S 1).toNat - S 2 ∧ 0 < m ∧ (∀ z : Nat, z < k → cn S (od S) z (S 1).toNat ≤ cn S (od S) y (S 1).toNat) ∧ ∀ z : Nat, z < y → cn S (od S) z (S 1).toNat < cn S (od S) y (S 1).toNat)
/-- the latest state, where it tells something -/
def rsS (S G : Nat → Int) : Nat → Int := fun i => if i < 270 then G i else S i
def hB (S : Nat → Int) (o : Nat → Nat) (p : Nat) : Bool := decide (0 < hT S o (S 1).toNat 48 p)
/-- the order behind some frames -/
def oF (S : Nat → Int) (rule : Int) (step : Nat) : Nat → (Nat → Nat)
  | 0 => od S
  | t + 1 => fl (turnL (hB S (oF S rule step t)) rule step (S 1).toNat (oF S rule step t))
theorem oF_b {S : Nat → Int} (hW : WF S) (rule : Int) (step : Nat) : ∀ (t k : Nat), k < (S 1).toNat → ∃ j, j < (S 1).toNat ∧ oF S rule step t k = od S j
  | 0, k, hk => ⟨k, hk, rfl⟩
  | t + 1, k, hk => by
    have h1 := fl_mem (l := turnL (hB S (oF S rule step t)) rule step (S 1).toNat (oF S rule step t)) (k := k) (by rw [turnL_len]; exact hk)
    obtain ⟨j, hj, e⟩ := turnL_mem h1
    obtain ⟨i, hi, e2⟩ := oF_b hW rule step t j hj
    refine ⟨i, hi, ?_⟩
    show fl (turnL (hB S (oF S rule step t)) rule step (S 1).toNat (oF S rule step t)) k = _
    rw [← e, e2]
theorem oF_20 {S : Nat → Int} (hW : WF S) (rule : Int) (step t k : Nat) (hk : k < (S 1).toNat) : oF S rule step t k < 20 := by
  obtain ⟨j, hj, e⟩ := oF_b hW rule step t k hk
  rw [e]
  exact (hW.od hj).2.1
/-- in how many of some frames a puppet is hidden -/
def ofn (S : Nat → Int) (rule : Int) (step p : Nat) (t : Nat) : Nat := sm (fun i => if hB S (oF S rule step i) p then 1 else 0) t
theorem ofn_le (S : Nat → Int) (rule : Int) (step p t : Nat) : ofn S rule step p t ≤ t := by
  have := sm_le (f := fun i => if hB S (oF S rule step i) p then 1 else 0) (b := 1) (n := t) (fun i _ => by split <;> omega)
  unfold ofn
  omega
/-- what hiddenIn answers -/
def HinR (S : Nat → Int) (p f r : Int) : Prop := (¬ (thr S p ∧ (1 ≤ f ∧ f ≤ 60)) ∧ r = -101) ∨ ((thr S p ∧ (1 ≤ f ∧ f ≤ 60)) ∧ r = ofn S (S 3) (S 4).toNat p.toNat f.toNat)
abbrev SmF (h h' : St) : Prop := Sm [(90, 0)] [98, 97, 96, 95] h h'
/-- every puppet would have been shown on all its lines in one of t frames at least -/
def allS (S : Nat → Int) (t : Nat) : Prop := ∀ k, k < (S 1).toNat → ∃ i, i < t ∧ hB S (oF S (S 3) (S 4).toNat i) (od S k) = false
def AllR (S : Nat → Int) (r : Int) : Prop := (∃ t : Nat, t ≤ 60 ∧ r = t ∧ allS S t ∧ ∀ u, u < t → ¬ allS S u) ∨ (r = -109 ∧ ∀ u, u ≤ 60 → ¬ allS S u)
theorem nat_zero_bits {w : Nat} (h : ∀ p, p < 20 → w.testBit p = false) (hw : w < 2 ^ 20) : w = 0 := by
  apply Nat.eq_of_testBit_eq
  intro i
  rw [Nat.zero_testBit]
  by_cases hi : i < 20
  · exact h i hi
  · exact Nat.testBit_lt_two_pow (Nat.lt_of_lt_of_le hw (Nat.pow_le_pow_right (by decide) (by omega)))
def mxF (f : Nat → Nat) : Nat → Nat
  | 0 => 0
  | n + 1 => if mxF f n < f n then f n else mxF f n
theorem mxF_z {f : Nat → Nat} : ∀ {n : Nat}, (∀ i, i < n → f i = 0) → mxF f n = 0
  | 0, _ => rfl
  | n + 1, h => by
    unfold mxF
    rw [mxF_z (fun i hi => h i (by omega)), h n (by omega)]
    rfl
theorem mxF_b {f : Nat → Nat} {b : Nat} : ∀ {n : Nat}, (∀ i, i < n → f i ≤ b) → mxF f n ≤ b
  | 0, _ => Nat.zero_le _
  | n + 1, h => by
    unfold mxF
    have := mxF_b (f := f) (b := b) (n := n) (fun i hi => h i (by omega))
    have := h n (by omega)
    split <;> omega
/-- the greatest number of 20 frames in which one puppet is hidden, by rule 1 and a step -/
def grb (S : Nat → Int) (step : Nat) : Nat := mxF (fun p => ofn S 1 step p 20) 20
theorem grb_b (S : Nat → Int) (step : Nat) : grb S step ≤ 20 := mxF_b (fun i _ => ofn_le S 1 step i 20)
/-- the best step among the first ones, and its number -/
def bsF (g : Nat → Nat) : Nat → Nat × Nat
  | 0 => (1, g 1)
  | k + 1 => if g (k + 2) < (bsF g k).2 then (k + 2, g (k + 2)) else bsF g k
end
section
/-! numbers, states: 2 -/
theorem bsF_b {g : Nat → Nat} (hg : ∀ s, g s ≤ 20) : ∀ k : Nat, (bsF g k).1 ≤ k + 1 ∧ (bsF g k).2 ≤ 20
  | 0 => ⟨by show (1 : Nat) ≤ 1; omega, hg 1⟩
  | k + 1 => by
    have := bsF_b hg k
    unfold bsF
    split
    · exact ⟨by show k + 2 ≤ _; omega, hg _⟩
    · exact ⟨by omega, this.2⟩
/-- what bestStep answers -/
def BstR (S : Nat → Int) (w r : Int) : Prop := (¬ (0 ≤ w ∧ w ≤ 1) ∧ r = -101) ∨ (w = 0 ∧ r = (bsF (grb S) 18).1) ∨ (w = 1 ∧ r = (bsF (grb S) 18).2)
abbrev isDb (c : Nat) : Bool := decide (48 ≤ c ∧ c ≤ 57)
/-- a number goes on behind j digits of the value v: its value, and how many digits it has -/
def ext (ch : Nat → Nat) (i : Nat) : Nat → Nat → Nat → Nat × Nat
  | 0, j, v => (v, j)
  | f + 1, j, v => if isDb (ch (i + j)) = true ∧ 0 < v ∧ j < 3 then ext ch i f (j + 1) (10 * v + (ch (i + j) - 48)) else (v, j)
def nd (ch : Nat → Nat) (i : Nat) : Nat := if isDb (ch i) = true then (ext ch i 3 1 (ch i - 48)).2 else 0
/-- what opens a group at i: where its bracket ought to stand, and how often it is run -/
def gq (ch : Nat → Nat) (i : Nat) : Nat := if isDb (ch i) = true then i + nd ch i else i
theorem iI_q {x : Int32} {k : Nat} (h : x = iI k) (hk : 0 < k) : x - 1 = iI ((k - 1 : Nat) : Int) := by
  rw [h]
  exact (iI_sub k 1).trans (congrArg iI (by omega))
def Eqv (S S' : Nat → Int) : Prop := ∀ i, i < 270 → (i < 6 + (S 1).toNat ∨ 26 ≤ i) → S' i = S i
theorem Eqv.rf (S : Nat → Int) : Eqv S S := fun _ _ _ => rfl
theorem Eqv.n {S S' : Nat → Int} (e : Eqv S S') : S' 1 = S 1 := e 1 (by omega) (by omega)
theorem Eqv.sy {S S' : Nat → Int} (e : Eqv S S') : Eqv S' S := fun i h1 h2 => (e i h1 (by rw [e.n] at h2; exact h2)).symm
theorem Eqv.tr {S S1 S2 : Nat → Int} (a : Eqv S S1) (b : Eqv S1 S2) : Eqv S S2 := fun i h1 h2 => (b i h1 (by rw [a.n]; exact h2)).trans (a i h1 h2)
theorem Eqv.od {S S' : Nat → Int} (e : Eqv S S') (hW : WF S) {k : Nat} (hk : k < (S 1).toNat) : od S' k = od S k := by
  have := hW.n
  exact congrArg Int.toNat (e (6 + k) (by omega) (by omega))
theorem Eqv.wf {S S' : Nat → Int} (e : Eqv S S') (hW : WF S) : WF S' := by
  have hn := hW.n
  obtain ⟨h0, h1, h2, h3, h4, h5, h6, h7, h8, h9, h10, h11⟩ := hW
  refine ⟨?_, ?_, ?_, ?_, ?_, ?_, ?_, ?_, ?_, ?_, ?_, ?_⟩
  · rw [e 0 (by omega) (by omega)]; exact h0
  · rw [e 0 (by omega) (by omega), e.n]; exact h1
  · rw [e 2 (by omega) (by omega)]; exact h2
  · rw [e 3 (by omega) (by omega)]; exact h3
  · rw [e 4 (by omega) (by omega)]; exact h4
  · rw [e 5 (by omega) (by omega)]; exact h5
  · intro k hk
    rw [e.n] at hk
    rw [e 0 (by omega) (by omega), e (6 + k) (by omega) (by omega)]
    exact h6 k hk
  · intro j k hjk hk
    rw [e.n] at hk
    rw [e (6 + j) (by omega) (by omega), e (6 + k) (by omega) (by omega)]
    exact h7 j k hjk hk
  · intro p hp
    rw [e (26 + 9 * p) (by omega) (by omega), e (26 + 9 * p + 1) (by omega) (by omega), e (26 + 9 * p + 2) (by omega) (by omega), e (26 + 9 * p + 3) (by omega) (by omega), e (26 + 9 * p + 4) (by omega) (by omega), e (26 + 9 * p + 5) (by omega) (by omega), e (26 + 9 * p + 6) (by omega) (by omega), e (26 + 9 * p + 7) (by omega) (by omega), e (26 + 9 * p + 8) (by omega) (by omega), e 5 (by omega) (by omega)]
    exact h8 p hp
  · intro i hi
    rw [e (206 + i) (by omega) (by omega)]
    exact h9 i hi
  · intro p hp
    rw [e 0 (by omega) (by omega)] at hp
    rw [e (26 + 9 * p + 4) (by omega) (by omega)]
    exact h10 p hp
  · intro p hp hs j hj
    rw [e 0 (by omega) (by omega)] at hs
    rw [e (26 + 9 * p + j) (by omega) (by omega)]
    exact h11 p hp hs j hj
theorem Eqv.pos {S S' : Nat → Int} (e : Eqv S S') (hW : WF S) (p : Int) : pos S' p (S' 1).toNat = pos S p (S 1).toNat := by
  have hn := hW.n
  have : ∀ k, k ≤ (S 1).toNat → Jvm.Pilot.CPuppetTurnsLaw_law_r1533_6dc637.pos S' p k = Jvm.Pilot.CPuppetTurnsLaw_law_r1533_6dc637.pos S p k := by
    intro k
    induction k with
    | zero => intro _; rfl
    | succ k ih =>
      intro hk
      unfold Jvm.Pilot.CPuppetTurnsLaw_law_r1533_6dc637.pos
      rw [e (6 + k) (by omega) (by omega), ih (by omega)]
  rw [e.n]
  exact this _ (Nat.le_refl _)
theorem Eqv.hgh {S S' : Nat → Int} (e : Eqv S S') {p : Nat} (hp : p < 20) : hgh S' p = hgh S p := by
  unfold Jvm.Pilot.CPuppetTurnsLaw_law_r1533_6dc637.hgh
  rw [e (26 + 9 * p + 2) (by omega) (by omega)]
theorem Eqv.stn {S S' : Nat → Int} (e : Eqv S S') {p : Nat} (hp : p < 20) (y : Int) : stn S' p y = stn S p y := by
  unfold Jvm.Pilot.CPuppetTurnsLaw_law_r1533_6dc637.stn
  rw [e (26 + 9 * p + 1) (by omega) (by omega), e.hgh hp]
theorem Eqv.cn {S S' : Nat → Int} (e : Eqv S S') {o o' : Nat → Nat} {k : Nat} (ho : ∀ j, j < k → o' j = o j ∧ o j < 20) (y : Int) : cn S' o' y k = cn S o y k := by
  refine sm_congr (fun j hj => ?_)
  have := ho j hj
  rw [this.1]
  exact ite_congr (e.stn this.2 y) (fun _ => rfl) (fun _ => rfl)
theorem Eqv.hA {S S' : Nat → Int} (e : Eqv S S') {o o' : Nat → Nat} {k : Nat} (ho : ∀ j, j ≤ k → o' j = o j ∧ o j < 20) (y : Nat) : hA S' o' y k = hA S o y k := by
  unfold Jvm.Pilot.CPuppetTurnsLaw_law_r1533_6dc637.hA
  have h1 := e.cn (k := k + 1) (fun j hj => ho j (by omega)) (y : Int)
  have h2 := ho k (Nat.le_refl _)
  rw [h1, h2.1, e 2 (by omega) (by omega)]
  exact ite_congr (by rw [e.stn h2.2 (y : Int)]) (fun _ => rfl) (fun _ => rfl)
theorem Eqv.hT {S S' : Nat → Int} (e : Eqv S S') {o o' : Nat → Nat} {k : Nat} (ho : ∀ j, j < k → o' j = o j ∧ o j < 20) (y p : Nat) : hT S' o' k y p = hT S o k y p := by
  refine sm_congr (fun l _ => sm_congr (fun j hj => ?_))
  rw [(ho j hj).1, e.hA (fun i hi => ho i (by omega)) l]
theorem Eqv.hdd {S S' : Nat → Int} (e : Eqv S S') (hW : WF S) : hdd S' = hdd S := by
  funext p
  unfold Jvm.Pilot.CPuppetTurnsLaw_law_r1533_6dc637.hdd
  rw [e.n, e.hT (fun j hj => ⟨e.od hW hj, (hW.od hj).2.1⟩)]
theorem turnL_cg {B : Nat → Bool} {rule : Int} {step n : Nat} {o o' : Nat → Nat} (h : ∀ k, k < n → o' k = o k) : turnL B rule step n o' = turnL B rule step n o := by
  unfold turnL
  rw [ol_congr h, ol_congr (o := fun k => o' ((k + step) % n)) (o' := fun k => o ((k + step) % n)) (fun k hk => h _ (Nat.mod_lt _ (by omega)))]
theorem frP_cg {T T' : Nat → Int} {b : Bool} {p i : Nat} (hi : T' i = T i) (h1 : T' (26 + 9 * p + 6) = T (26 + 9 * p + 6)) (h2 : T' (26 + 9 * p + 7) = T (26 + 9 * p + 7)) (h3 : T' (26 + 9 * p + 8) = T (26 + 9 * p + 8)) : frP T' b p i = frP T b p i := by
  unfold frP
  rw [h1, h2, h3]
  simp only [u1_app]
  rw [hi]
theorem Eqv.frC {S S' : Nat → Int} (e : Eqv S S') (hW : WF S) (hd : Nat → Bool) : ∀ k, k ≤ (S 1).toNat → ∀ i, i < 270 → (i < 6 + (S 1).toNat ∨ 26 ≤ i) → frC S' hd k i = frC S hd k i
  | 0, _, i, h1, h2 => e i h1 h2
  | k + 1, hk, i, h1, h2 => by
    have ho := e.od hW (k := k) (by omega)
    have hb := (hW.od (k := k) (by omega)).2.1
    have ih := e.frC hW hd k (by omega)
    show frP (Jvm.Pilot.CPuppetTurnsLaw_law_r1533_6dc637.frC S' hd k) (hd (Jvm.Pilot.CPuppetTurnsLaw_law_r1533_6dc637.od S' k)) (Jvm.Pilot.CPuppetTurnsLaw_law_r1533_6dc637.od S' k) i = frP (Jvm.Pilot.CPuppetTurnsLaw_law_r1533_6dc637.frC S hd k) (hd (Jvm.Pilot.CPuppetTurnsLaw_law_r1533_6dc637.od S k)) (Jvm.Pilot.CPuppetTurnsLaw_law_r1533_6dc637.od S k) i
    rw [ho]
    exact frP_cg (ih i h1 h2) (ih _ (by omega) (by omega)) (ih _ (by omega) (by omega)) (ih _ (by omega) (by omega))
/-- an order, the state behind a frame -/
def ordS (S : Nat → Int) (n : Nat) (o : Nat → Nat) : Nat → Int := fun i => if i = 1 then (n : Int) else if 6 ≤ i ∧ i < 26 then (o (i - 6) : Int) else S i
def frS (S : Nat → Int) : Nat → Int := fun i => if i = 5 then S 5 + 1 else if 6 ≤ i ∧ i < 26 then (fl (turnL (hdd S) (S 3) (S 4).toNat (S 1).toNat (od S)) (i - 6) : Int) else frC S (hdd S) (S 1).toNat i
theorem ord_eqv {S S' : Nat → Int} {n : Nat} {o : Nat → Nat} (h : ROrd S n o S') : Eqv (ordS S n o) S' := by
  obtain ⟨h1, h2, h3⟩ := h
  intro i hi hg
  have : ordS S n o 1 = n := rfl
  rw [this] at hg
  by_cases z1 : i = 1
  · rw [z1]; exact h1
  · by_cases z2 : 6 ≤ i ∧ i < 26
    · have : ordS S n o i = o (i - 6) := by unfold ordS; rw [if_neg z1, if_pos z2]
      rw [this, ← h2 (i - 6) (by omega)]
      congr 1
      omega
    · have : ordS S n o i = S i := by unfold ordS; rw [if_neg z1, if_neg z2]
      rw [this, h3 i z1 z2]
theorem frS_1 {S : Nat → Int} (hW : WF S) : frS S 1 = S 1 := by
  show frC S (hdd S) (S 1).toNat 1 = S 1
  exact frC_o (fun j hj => (hW.od hj).2.1) (by omega)
theorem fr_eqv {S S' : Nat → Int} (hW : WF S) (h : RFr S S') : Eqv (frS S) S' := by
  obtain ⟨h1, h2, h3⟩ := h
  intro i hi hg
  rw [frS_1 hW] at hg
  by_cases z1 : i = 5
  · rw [z1]; exact h1
  · by_cases z2 : 6 ≤ i ∧ i < 26
    · have : frS S i = fl (turnL (hdd S) (S 3) (S 4).toNat (S 1).toNat (od S)) (i - 6) := by unfold frS; rw [if_neg z1, if_pos z2]
      rw [this, ← h2 (i - 6) (by omega)]
      congr 1
      omega
    · have : frS S i = frC S (hdd S) (S 1).toNat i := by unfold frS; rw [if_neg z1, if_neg z2]
      rw [this, h3 i z1 z2]
theorem ordS_cg {S S' : Nat → Int} {n : Nat} {o o' : Nat → Nat} (hS : ∀ i, i < 270 → ¬ (6 ≤ i ∧ i < 26) → S' i = S i) (ho : ∀ k, k < n → o' k = o k) : Eqv (ordS S n o) (ordS S' n o') := by
  intro i hi hg
  have : ordS S n o 1 = n := rfl
  rw [this] at hg
  unfold ordS
  by_cases z1 : i = 1
  · rw [if_pos z1, if_pos z1]
  · rw [if_neg z1, if_neg z1]
    by_cases z2 : 6 ≤ i ∧ i < 26
    · rw [if_pos z2, if_pos z2, ho _ (by omega)]
    · rw [if_neg z2, if_neg z2, hS i hi z2]
theorem frS_cg {S S' : Nat → Int} (e : Eqv S S') (hW : WF S) : Eqv (frS S) (frS S') := by
  intro i hi hg
  rw [frS_1 hW] at hg
  have hn := hW.n
  unfold frS
  rw [e 5 (by omega) (by omega), e.n, e.hdd hW, e 3 (by omega) (by omega), e 4 (by omega) (by omega), turnL_cg (fun k hk => e.od hW hk)]
  by_cases z1 : i = 5
  · rw [if_pos z1, if_pos z1]
  · rw [if_neg z1, if_neg z1]
    by_cases z2 : 6 ≤ i ∧ i < 26
    · rw [if_pos z2, if_pos z2]
    · rw [if_neg z2, if_neg z2]
      exact e.frC hW (hdd S) _ (Nat.le_refl _) i hi (by omega)
theorem WF.pu {S S' : Nat → Int} (hW : WF S) (p : Nat) (hp : (p : Int) < S 0) (ho : ∀ i, i < 26 + 9 * p ∨ 26 + 9 * p + 9 ≤ i → S' i = S i)
    (h0 : -15 ≤ S' (26 + 9 * p) ∧ S' (26 + 9 * p) ≤ 63) (h1 : -15 ≤ S' (26 + 9 * p + 1) ∧ S' (26 + 9 * p + 1) ≤ 47) (h2 : 0 ≤ S' (26 + 9 * p + 2) ∧ S' (26 + 9 * p + 2) ≤ 1) (h3 : 0 ≤ S' (26 + 9 * p + 3) ∧ S' (26 + 9 * p + 3) ≤ 7) (h4 : 1 ≤ S' (26 + 9 * p + 4) ∧ S' (26 + 9 * p + 4) ≤ 9) (h5 : 0 ≤ S' (26 + 9 * p + 5) ∧ S' (26 + 9 * p + 5) ≤ 3) (h6 : ∀ j, j < 3 → S' (26 + 9 * p + 6 + j) = S (26 + 9 * p + 6 + j)) : WF S' := by
  have hn := hW.n
  obtain ⟨g0, g1, g2, g3, g4, g5, g6, g7, g8, g9, g10, g11⟩ := hW
  have e0 := ho 0 (by omega)
  have e1 := ho 1 (by omega)
  have e5 := ho 5 (by omega)
  refine ⟨by rw [e0]; exact g0, by rw [e0, e1]; exact g1, by rw [ho 2 (by omega)]; exact g2, by rw [ho 3 (by omega)]; exact g3, by rw [ho 4 (by omega)]; exact g4, by rw [e5]; exact g5, ?_, ?_, ?_, ?_, ?_, ?_⟩
  · intro k hk
    rw [e1] at hk
    rw [e0, ho (6 + k) (by omega)]
    exact g6 k hk
  · intro j k hjk hk
    rw [e1] at hk
    rw [ho (6 + j) (by omega), ho (6 + k) (by omega)]
    exact g7 j k hjk hk
  · intro q hq
    have g := g8 q hq
    rw [e5]
    by_cases z : q = p
    · subst z
      have a0 := h6 0 (by omega)
      have a1 := h6 1 (by omega)
      have a2 := h6 2 (by omega)
      exact ⟨h0, h1, h2, h3, ⟨by omega, h4.2⟩, h5, by rw [show 26 + 9 * q + 6 = 26 + 9 * q + 6 + 0 from rfl, a0]; exact g.2.2.2.2.2.2.1, by rw [show 26 + 9 * q + 7 = 26 + 9 * q + 6 + 1 from rfl, a1]; exact g.2.2.2.2.2.2.2.1, by rw [show 26 + 9 * q + 8 = 26 + 9 * q + 6 + 2 from rfl, a2]; exact g.2.2.2.2.2.2.2.2⟩
    · rw [ho (26 + 9 * q) (by omega), ho (26 + 9 * q + 1) (by omega), ho (26 + 9 * q + 2) (by omega), ho (26 + 9 * q + 3) (by omega), ho (26 + 9 * q + 4) (by omega), ho (26 + 9 * q + 5) (by omega), ho (26 + 9 * q + 6) (by omega), ho (26 + 9 * q + 7) (by omega), ho (26 + 9 * q + 8) (by omega)]
      exact g
  · intro i hi
    rw [ho (206 + i) (by omega)]
    exact g9 i hi
  · intro q hq
    rw [e0] at hq
    by_cases z : q = p
    · subst z; exact h4.1
    · rw [ho (26 + 9 * q + 4) (by omega)]
      exact g10 q hq
  · intro q hq hs j hj
    rw [e0] at hs
    have : q ≠ p := by omega
    rw [ho (26 + 9 * q + j) (by omega)]
    exact g11 q hq hs j hj
theorem WF.mv {S : Nat → Int} (hW : WF S) {p : Nat} (hp : (p : Int) < S 0) {x y : Int} (hx : -15 ≤ x ∧ x ≤ 63) (hy : -15 ≤ y ∧ y ≤ 47) : WF (mvS S p x y) := by
  have hn := hW.n
  have g := hW.wp p (by omega)
  have gc := hW.2.2.2.2.2.2.2.2.2.2.1 p hp
  refine hW.pu p hp (fun i hi => mvS_n (by omega) (by omega)) ?_ ?_ ?_ ?_ ?_ ?_ (fun j hj => mvS_n (by omega) (by omega))
  · unfold mvS; rw [u1_n _ _ (by omega), u1_s]; exact hx
  · unfold mvS; rw [u1_s]; exact hy
  · rw [mvS_n (by omega) (by omega)]; exact g.2.2.1
  · rw [mvS_n (by omega) (by omega)]; exact g.2.2.2.1
  · rw [mvS_n (by omega) (by omega)]; exact ⟨gc, g.2.2.2.2.1.2⟩
  · rw [mvS_n (by omega) (by omega)]; exact g.2.2.2.2.2.1
theorem WF.tu {S : Nat → Int} (hW : WF S) {p : Nat} (hp : (p : Int) < S 0) {f : Int} (hf : 0 ≤ f ∧ f ≤ 3) : WF (u1 S (26 + 9 * p + 5) f) := by
  have hn := hW.n
  have g := hW.wp p (by omega)
  have gc := hW.2.2.2.2.2.2.2.2.2.2.1 p hp
  refine hW.pu p hp (fun i hi => u1_n _ _ (by omega)) ?_ ?_ ?_ ?_ ?_ ?_ (fun j hj => u1_n _ _ (by omega))
  · rw [u1_n _ _ (by omega)]; exact g.1
  · rw [u1_n _ _ (by omega)]; exact g.2.1
  · rw [u1_n _ _ (by omega)]; exact g.2.2.1
  · rw [u1_n _ _ (by omega)]; exact g.2.2.2.1
  · rw [u1_n _ _ (by omega)]; exact ⟨gc, g.2.2.2.2.1.2⟩
  · rw [u1_s]; exact hf
/-- what lies beside the order changes within its bounds -/
theorem WF.ot {S S' : Nat → Int} (hW : WF S) (ho : ∀ i, i < 206 → i ≠ 2 → i ≠ 3 → i ≠ 4 → S' i = S i) (h2 : 1 ≤ S' 2 ∧ S' 2 ≤ 8) (h3 : 0 ≤ S' 3 ∧ S' 3 ≤ 2) (h4 : 1 ≤ S' 4 ∧ S' 4 ≤ 19) (hp : ∀ i, i < 64 → 0 ≤ S' (206 + i) ∧ S' (206 + i) ≤ 255) : WF S' := by
  have hn := hW.n
  obtain ⟨g0, g1, g2, g3, g4, g5, g6, g7, g8, g9, g10, g11⟩ := hW
  have e0 := ho 0 (by omega) (by omega) (by omega) (by omega)
  have e1 := ho 1 (by omega) (by omega) (by omega) (by omega)
  have e5 := ho 5 (by omega) (by omega) (by omega) (by omega)
  refine ⟨by rw [e0]; exact g0, by rw [e0, e1]; exact g1, h2, h3, h4, by rw [e5]; exact g5, ?_, ?_, ?_, hp, ?_, ?_⟩
  · intro k hk
    rw [e1] at hk
    rw [e0, ho (6 + k) (by omega) (by omega) (by omega) (by omega)]
    exact g6 k hk
  · intro j k hjk hk
    rw [e1] at hk
    rw [ho (6 + j) (by omega) (by omega) (by omega) (by omega), ho (6 + k) (by omega) (by omega) (by omega) (by omega)]
    exact g7 j k hjk hk
  · intro q hq
    have g := g8 q hq
    have a : ∀ j, j < 9 → S' (26 + 9 * q + j) = S (26 + 9 * q + j) := fun j hj => ho _ (by omega) (by omega) (by omega) (by omega)
    rw [e5, a 1 (by omega), a 2 (by omega), a 3 (by omega), a 4 (by omega), a 5 (by omega), a 6 (by omega), a 7 (by omega), a 8 (by omega), show S' (26 + 9 * q) = S (26 + 9 * q) from a 0 (by omega)]
    exact g
  · intro q hq
    rw [e0] at hq
    rw [ho (26 + 9 * q + 4) (by omega) (by omega) (by omega) (by omega)]
    exact g10 q hq
  · intro q hq hs j hj
    rw [e0] at hs
    rw [ho (26 + 9 * q + j) (by omega) (by omega) (by omega) (by omega)]
    exact g11 q hq hs j hj
theorem WF.li {S : Nat → Int} (hW : WF S) {l : Int} (hl : 1 ≤ l ∧ l ≤ 8) : WF (u1 S 2 l) := by
  refine hW.ot (fun i _ h _ _ => u1_n _ _ h) (by rw [u1_s]; exact hl) (by rw [u1_n _ _ (by omega)]; exact hW.2.2.2.1) (by rw [u1_n _ _ (by omega)]; exact hW.2.2.2.2.1) (fun i hi => ?_)
  rw [u1_n _ _ (by omega)]
  exact hW.2.2.2.2.2.2.2.2.2.1 i hi
theorem WF.ru {S : Nat → Int} (hW : WF S) {a b : Int} (ha : 0 ≤ a ∧ a ≤ 2) (hb : 1 ≤ b ∧ b ≤ 19) : WF (u1 (u1 S 3 a) 4 b) := by
  refine hW.ot (fun i _ _ h3 h4 => by rw [u1_n _ _ h4, u1_n _ _ h3]) (by rw [u1_n _ _ (by omega), u1_n _ _ (by omega)]; exact hW.2.2.1) (by rw [u1_n _ _ (by omega), u1_s]; exact ha) (by rw [u1_s]; exact hb) (fun i hi => ?_)
  rw [u1_n _ _ (by omega), u1_n _ _ (by omega)]
  exact hW.2.2.2.2.2.2.2.2.2.1 i hi
theorem WF.pi {S : Nat → Int} (hW : WF S) {k : Nat} (hk : k < 64) {c : Int} (hc : 0 ≤ c ∧ c ≤ 255) : WF (u1 S (206 + k) c) := by
  refine hW.ot (fun i h _ _ _ => u1_n _ _ (by omega)) (by rw [u1_n _ _ (by omega)]; exact hW.2.2.1) (by rw [u1_n _ _ (by omega)]; exact hW.2.2.2.1) (by rw [u1_n _ _ (by omega)]; exact hW.2.2.2.2.1) (fun i hi => ?_)
  by_cases z : i = k
  · subst z; rw [u1_s]; exact hc
  · rw [u1_n _ _ (by omega)]
    exact hW.2.2.2.2.2.2.2.2.2.1 i hi
theorem WF.ro {S S' : Nat → Int} (hW : WF S) {n : Nat} {o : Nat → Nat} (h : ROrd S n o S') (hn : (n : Int) ≤ S 0) (ho : ∀ k, k < n → (o k : Int) < S 0) (hi : ∀ j k, j < k → k < n → o j ≠ o k) : WF S' := by
  obtain ⟨r1, r2, r3⟩ := h
  obtain ⟨g0, g1, g2, g3, g4, g5, g6, g7, g8, g9, g10, g11⟩ := hW
  have e0 := r3 0 (by omega) (by omega)
  have e5 := r3 5 (by omega) (by omega)
  refine ⟨by rw [e0]; exact g0, by rw [e0, r1]; omega, by rw [r3 2 (by omega) (by omega)]; exact g2, by rw [r3 3 (by omega) (by omega)]; exact g3, by rw [r3 4 (by omega) (by omega)]; exact g4, by rw [e5]; exact g5, ?_, ?_, ?_, ?_, ?_, ?_⟩
  · intro k hk
    have := ho k (by omega)
    rw [e0, r2 k (by omega)]
    omega
  · intro j k hjk hk
    rw [r2 j (by omega), r2 k (by omega)]
    have := hi j k hjk (by omega)
    omega
  · intro q hq
    have g := g8 q hq
    have a : ∀ j, j < 9 → S' (26 + 9 * q + j) = S (26 + 9 * q + j) := fun j hj => r3 _ (by omega) (by omega)
    rw [e5, a 1 (by omega), a 2 (by omega), a 3 (by omega), a 4 (by omega), a 5 (by omega), a 6 (by omega), a 7 (by omega), a 8 (by omega), show S' (26 + 9 * q) = S (26 + 9 * q) from a 0 (by omega)]
    exact g
  · intro i hi
    rw [r3 (206 + i) (by omega) (by omega)]
    exact g9 i hi
  · intro q hq
    rw [e0] at hq
    rw [r3 (26 + 9 * q + 4) (by omega) (by omega)]
    exact g10 q hq
  · intro q hq hs j hj
    rw [e0] at hs
    rw [r3 (26 + 9 * q + j) (by omega) (by omega)]
    exact g11 q hq hs j hj
theorem wf_nd {S : Nat → Int} (hW : WF S) {j k : Nat} (hj : j < (S 1).toNat) (hk : k < (S 1).toNat) (h : j ≠ k) : od S j ≠ od S k := fun z => h (wf_oi hW hj hk z)
theorem wf_out {S S' : Nat → Int} (hW : WF S) {q : Nat} (hq : q < (S 1).toNat) (h : ROrd S ((S 1).toNat - 1) (outO (od S) q) S') : WF S' := by
  have hn := hW.n
  refine hW.ro h (by omega) (fun k hk => ?_) (fun j k hjk hk => ?_)
  · unfold outO
    split
    · have := hW.od (k := k) (by omega); omega
    · have := hW.od (k := k + 1) (by omega); omega
  · unfold outO
    split <;> split <;> exact wf_nd hW (by omega) (by omega) (by omega)
theorem wf_lft {S S' : Nat → Int} (hW : WF S) {q : Nat} (hq : q < (S 1).toNat) (h : ROrd S (S 1).toNat (lftO (od S) q) S') : WF S' := by
  have hn := hW.n
  refine hW.ro h (by omega) (fun k hk => ?_) (fun j k hjk hk => ?_)
  · unfold lftO
    split
    · have := hW.od hq; omega
    · split
      · have := hW.od (k := k - 1) (by omega); omega
      · have := hW.od (k := k) (by omega); omega
  · unfold lftO
    split <;> split <;> (try split) <;> (try split) <;> first | omega | exact wf_nd hW (by omega) (by omega) (by omega)
theorem wf_low {S S' : Nat → Int} (hW : WF S) {q : Nat} (hq : q < (S 1).toNat) (h : ROrd S (S 1).toNat (lowO (od S) q (S 1).toNat) S') : WF S' := by
  have hn := hW.n
  refine hW.ro h (by omega) (fun k hk => ?_) (fun j k hjk hk => ?_)
  · unfold lowO
    split
    · have := hW.od (k := k) (by omega); omega
    · split
      · have := hW.od (k := k + 1) (by omega); omega
      · have := hW.od hq; omega
  · unfold lowO
    split <;> split <;> (try split) <;> (try split) <;> first | omega | exact wf_nd hW (by omega) (by omega) (by omega)
theorem ol_nd {o : Nat → Nat} {n : Nat} (h : ∀ j k, j < n → k < n → j ≠ k → o j ≠ o k) : (ol o n).Nodup := by
  unfold ol List.Nodup
  rw [List.pairwise_map]
  exact List.Pairwise.imp_of_mem (fun ha hb hab => h _ _ (List.mem_range.mp ha) (List.mem_range.mp hb) hab) List.nodup_range
theorem rot_ne {n s j k : Nat} (hj : j < n) (hk : k < n) (h : j < k) : (j + s) % n ≠ (k + s) % n := by
  intro e
  have h1 := Nat.sub_mod_eq_zero_of_mod_eq e.symm
  rw [show k + s - (j + s) = k - j by omega, Nat.mod_eq_of_lt (by omega)] at h1
  omega
theorem turnL_nd {B : Nat → Bool} {rule : Int} {step n : Nat} {o : Nat → Nat} (h : ∀ j k, j < n → k < n → j ≠ k → o j ≠ o k) : (turnL B rule step n o).Nodup := by
  unfold turnL
  split
  · exact (filt_perm B (ol o n)).nodup_iff.mpr (ol_nd h)
  · split
    · refine ol_nd (fun j k hj hk hjk => h _ _ (Nat.mod_lt _ (by omega)) (Nat.mod_lt _ (by omega)) ?_)
      rcases Nat.lt_or_gt_of_ne hjk with g | g
      · exact rot_ne hj hk g
      · exact (rot_ne hk hj g).symm
    · exact ol_nd h
theorem fl_ne {l : List Nat} (h : l.Nodup) {j k : Nat} (hjk : j < k) (hk : k < l.length) : fl l j ≠ fl l k := by
  unfold fl
  rw [List.getD_eq_getElem?_getD, List.getD_eq_getElem?_getD, List.getElem?_eq_getElem hk, List.getElem?_eq_getElem (show j < l.length by omega)]
  exact List.pairwise_iff_getElem.mp h j k (by omega) hk hjk
theorem frP_6 {T : Nat → Int} {b : Bool} {p : Nat} : frP T b p (26 + 9 * p + 6) = T (26 + 9 * p + 6) + (if b then 1 else 0) := by
  unfold frP
  rw [u1_n _ _ (by omega), u1_n _ _ (by omega), u1_s]
theorem frP_7 {T : Nat → Int} {b : Bool} {p : Nat} : frP T b p (26 + 9 * p + 7) = (if b then T (26 + 9 * p + 7) + 1 else 0) := by
  unfold frP
  rw [u1_n _ _ (by omega), u1_s]
theorem frP_8 {T : Nat → Int} {b : Bool} {p : Nat} : frP T b p (26 + 9 * p + 8) = (if (if b then T (26 + 9 * p + 7) + 1 else 0) ≤ T (26 + 9 * p + 8) then T (26 + 9 * p + 8) else (if b then T (26 + 9 * p + 7) + 1 else 0)) := by
  unfold frP
  rw [u1_s]
theorem frC_b {S : Nat → Int} (hW : WF S) (hd : Nat → Bool) : ∀ k, k ≤ (S 1).toNat → ∀ p, p < 20 → (0 ≤ frC S hd k (26 + 9 * p + 6) ∧ frC S hd k (26 + 9 * p + 6) ≤ S 5 + 1) ∧ (0 ≤ frC S hd k (26 + 9 * p + 7) ∧ frC S hd k (26 + 9 * p + 7) ≤ S 5 + 1) ∧ (0 ≤ frC S hd k (26 + 9 * p + 8) ∧ frC S hd k (26 + 9 * p + 8) ≤ S 5 + 1)
  | 0, _, p, hp => by
    have := hW.wp p hp
    show (0 ≤ S (26 + 9 * p + 6) ∧ S (26 + 9 * p + 6) ≤ S 5 + 1) ∧ (0 ≤ S (26 + 9 * p + 7) ∧ S (26 + 9 * p + 7) ≤ S 5 + 1) ∧ (0 ≤ S (26 + 9 * p + 8) ∧ S (26 + 9 * p + 8) ≤ S 5 + 1)
    omega
  | k + 1, hk, p, hp => by
    have ih := frC_b hW hd k (by omega) p hp
    by_cases z : p = od S k
    · have g := hW.wp p hp
      have hne : ∀ j, j < k → od S j ≠ p := fun j hj => by rw [z]; exact wf_nd hW (by omega) (by omega) (by omega)
      have e6 : frC S hd k (26 + 9 * p + 6) = S (26 + 9 * p + 6) := frC_p (by omega) hne
      have e7 : frC S hd k (26 + 9 * p + 7) = S (26 + 9 * p + 7) := frC_p (by omega) hne
      have e8 : frC S hd k (26 + 9 * p + 8) = S (26 + 9 * p + 8) := frC_p (by omega) hne
      have ef : frC S hd (k + 1) = frP (frC S hd k) (hd p) p := by rw [z]; rfl
      rw [ef, frP_6, frP_7, frP_8, e6, e7, e8]
      cases hd p <;> simp only [if_true, Bool.false_eq_true, if_false] <;> refine ⟨by omega, by omega, ?_⟩ <;> split <;> omega
    · have ef : ∀ i, i < 9 → frC S hd (k + 1) (26 + 9 * p + i) = frC S hd k (26 + 9 * p + i) := fun i hi => frP_o (by omega) (by omega) (by omega)
      rw [ef 6 (by omega), ef 7 (by omega), ef 8 (by omega)]
      exact ih
theorem wf_fr {S S' : Nat → Int} (hW : WF S) (h : RFr S S') (h5 : S 5 ≠ 9999) : WF S' := by
  obtain ⟨r5, r2, r3⟩ := h
  have hn := hW.n
  have hb : ∀ j, j < (S 1).toNat → od S j < 20 := fun j hj => (hW.od hj).2.1
  have hC := fun p hp => frC_b hW (hdd S) (S 1).toNat (Nat.le_refl _) p hp
  have lo : ∀ i, i ≠ 5 → ¬ (6 ≤ i ∧ i < 26) → (i < 26 ∨ 206 ≤ i) → S' i = S i := fun i h1 h2 h3 => (r3 i h1 h2).trans (frC_o hb h3)
  have pu : ∀ p i, i < 6 → S' (26 + 9 * p + i) = S (26 + 9 * p + i) := fun p i hi => (r3 _ (by omega) (by omega)).trans (frC_c hi)
  have hl : ∀ k, k < (S 1).toNat → ∃ j, j < (S 1).toNat ∧ od S j = fl (turnL (hdd S) (S 3) (S 4).toNat (S 1).toNat (od S)) k := fun k hk => turnL_mem (fl_mem (by rw [turnL_len]; exact hk))
  obtain ⟨g0, g1, g2, g3, g4, g5, g6, g7, g8, g9, g10, g11⟩ := id hW
  have e0 := lo 0 (by omega) (by omega) (by omega)
  have e1 := lo 1 (by omega) (by omega) (by omega)
  refine ⟨by rw [e0]; exact g0, by rw [e0, e1]; exact g1, by rw [lo 2 (by omega) (by omega) (by omega)]; exact g2, by rw [lo 3 (by omega) (by omega) (by omega)]; exact g3, by rw [lo 4 (by omega) (by omega) (by omega)]; exact g4, by rw [r5]; omega, ?_, ?_, ?_, ?_, ?_, ?_⟩
  · intro k hk
    rw [e1] at hk
    rw [e0, r2 k hk]
    obtain ⟨j, hj, e⟩ := hl k hk
    rw [← e]
    have := hW.od hj
    omega
  · intro j k hjk hk
    rw [e1] at hk
    rw [r2 j (by omega), r2 k hk]
    have := fl_ne (turnL_nd (B := hdd S) (rule := S 3) (step := (S 4).toNat) (o := od S) (fun j k hj hk hjk => wf_nd hW hj hk hjk)) hjk (by rw [turnL_len]; exact hk)
    omega
  · intro q hq
    have g := g8 q hq
    have c := hC q hq
    rw [r5, pu q 1 (by omega), pu q 2 (by omega), pu q 3 (by omega), pu q 4 (by omega), pu q 5 (by omega), show S' (26 + 9 * q) = S (26 + 9 * q) from pu q 0 (by omega), r3 (26 + 9 * q + 6) (by omega) (by omega), r3 (26 + 9 * q + 7) (by omega) (by omega), r3 (26 + 9 * q + 8) (by omega) (by omega)]
    exact ⟨g.1, g.2.1, g.2.2.1, g.2.2.2.1, g.2.2.2.2.1, g.2.2.2.2.2.1, c⟩
  · intro i hi
    rw [lo (206 + i) (by omega) (by omega) (by omega)]
    exact g9 i hi
  · intro q hq
    rw [e0] at hq
    rw [pu q 4 (by omega)]
    exact g10 q hq
  · intro q hq hs j hj
    rw [e0] at hs
    rw [r3 (26 + 9 * q + j) (by omega) (by omega), frC_p hj (fun i hi => by have := hW.od hi; omega)]
    exact g11 q hq hs j hj
theorem wf_rs {S G : Nat → Int} (hG : WF G) : WF (rsS S G) := by
  have e : Eqv G (rsS S G) := fun i hi _ => if_pos hi
  exact e.wf hG
theorem wf_cm {S : Nat → Int} (hW : WF S) {x y t g c : Int} (h20 : S 0 ≠ 20) (hx : -15 ≤ x ∧ x ≤ 63) (hy : -15 ≤ y ∧ y ≤ 47) (ht : 0 ≤ t ∧ t ≤ 1) (hg : 0 ≤ g ∧ g ≤ 7) (hc : 1 ≤ c ∧ c ≤ 9) : WF (cmS S x y t g c) := by
  have hn := hW.n
  obtain ⟨g0, g1, g2, g3, g4, g5, g6, g7, g8, g9, g10, g11⟩ := id hW
  obtain ⟨p, hp⟩ : ∃ p : Nat, S 0 = p := ⟨(S 0).toNat, by omega⟩
  obtain ⟨m, hm⟩ : ∃ m : Nat, S 1 = m := ⟨(S 1).toNat, by omega⟩
  have hz := g11 p (by omega) (by omega)
  have hcs : ∀ i, cmS S x y t g c i = if i = 26 + 9 * p + 4 then c else if i = 26 + 9 * p + 3 then g else if i = 26 + 9 * p + 2 then t else if i = 26 + 9 * p + 1 then y else if i = 26 + 9 * p then x else if i = 1 then S 1 + 1 else if i = 6 + m then S 0 else if i = 0 then S 0 + 1 else S i := by
    intro i
    unfold cmS
    rw [show (S 0).toNat = p by omega, show (S 1).toNat = m by omega]
    simp only [u1_app]
  have hot : ∀ i, i ≠ 0 → i ≠ 1 → i ≠ 6 + m → ¬ (26 + 9 * p ≤ i ∧ i < 26 + 9 * p + 5) → cmS S x y t g c i = S i := by
    intro i h0 h1 h2 h3
    rw [hcs, if_neg (by omega), if_neg (by omega), if_neg (by omega), if_neg (by omega), if_neg (by omega), if_neg (by omega), if_neg (by omega), if_neg (by omega)]
  have e0 : cmS S x y t g c 0 = S 0 + 1 := by rw [hcs, if_neg (by omega), if_neg (by omega), if_neg (by omega), if_neg (by omega), if_neg (by omega), if_neg (by omega), if_neg (by omega), if_pos rfl]
  have e1 : cmS S x y t g c 1 = S 1 + 1 := by rw [hcs, if_neg (by omega), if_neg (by omega), if_neg (by omega), if_neg (by omega), if_neg (by omega), if_pos rfl]
  have em : cmS S x y t g c (6 + m) = S 0 := by rw [hcs, if_neg (by omega), if_neg (by omega), if_neg (by omega), if_neg (by omega), if_neg (by omega), if_neg (by omega), if_pos rfl]
  refine ⟨by rw [e0]; omega, by rw [e0, e1]; omega, by rw [hot 2 (by omega) (by omega) (by omega) (by omega)]; exact g2, by rw [hot 3 (by omega) (by omega) (by omega) (by omega)]; exact g3, by rw [hot 4 (by omega) (by omega) (by omega) (by omega)]; exact g4, by rw [hot 5 (by omega) (by omega) (by omega) (by omega)]; exact g5, ?_, ?_, ?_, ?_, ?_, ?_⟩
  · intro k hk
    rw [e1] at hk
    rw [e0]
    by_cases z : k = m
    · subst z; rw [em]; omega
    · rw [hot (6 + k) (by omega) (by omega) (by omega) (by omega)]
      have := g6 k (by omega)
      omega
  · intro j k hjk hk
    rw [e1] at hk
    rw [hot (6 + j) (by omega) (by omega) (by omega) (by omega)]
    by_cases z : k = m
    · subst z
      rw [em]
      have := g6 j (by omega)
      omega
    · rw [hot (6 + k) (by omega) (by omega) (by omega) (by omega)]
      exact g7 j k hjk (by omega)
  · intro q hq
    have gq := g8 q hq
    rw [hot 5 (by omega) (by omega) (by omega) (by omega), hot (26 + 9 * q + 5) (by omega) (by omega) (by omega) (by omega), hot (26 + 9 * q + 6) (by omega) (by omega) (by omega) (by omega), hot (26 + 9 * q + 7) (by omega) (by omega) (by omega) (by omega), hot (26 + 9 * q + 8) (by omega) (by omega) (by omega) (by omega)]
    by_cases z : q = p
    · subst z
      have a0 : cmS S x y t g c (26 + 9 * q) = x := by rw [hcs, if_neg (by omega), if_neg (by omega), if_neg (by omega), if_neg (by omega), if_pos rfl]
      have a1 : cmS S x y t g c (26 + 9 * q + 1) = y := by rw [hcs, if_neg (by omega), if_neg (by omega), if_neg (by omega), if_pos rfl]
      have a2 : cmS S x y t g c (26 + 9 * q + 2) = t := by rw [hcs, if_neg (by omega), if_neg (by omega), if_pos rfl]
      have a3 : cmS S x y t g c (26 + 9 * q + 3) = g := by rw [hcs, if_neg (by omega), if_pos rfl]
      have a4 : cmS S x y t g c (26 + 9 * q + 4) = c := by rw [hcs, if_pos rfl]
      rw [a0, a1, a2, a3, a4]
      exact ⟨hx, hy, ht, hg, ⟨by omega, hc.2⟩, gq.2.2.2.2.2⟩
    · rw [hot (26 + 9 * q) (by omega) (by omega) (by omega) (by omega), hot (26 + 9 * q + 1) (by omega) (by omega) (by omega) (by omega), hot (26 + 9 * q + 2) (by omega) (by omega) (by omega) (by omega), hot (26 + 9 * q + 3) (by omega) (by omega) (by omega) (by omega), hot (26 + 9 * q + 4) (by omega) (by omega) (by omega) (by omega)]
      exact gq
  · intro i hi
    rw [hot (206 + i) (by omega) (by omega) (by omega) (by omega)]
    exact g9 i hi
  · intro q hq
    rw [e0] at hq
    by_cases z : q = p
    · subst z
      rw [hcs, if_pos rfl]
      exact hc.1
    · rw [hot (26 + 9 * q + 4) (by omega) (by omega) (by omega) (by omega)]
      exact g10 q (by omega)
  · intro q hq hs j hj
    rw [e0] at hs
    rw [hot (26 + 9 * q + j) (by omega) (by omega) (by omega) (by omega)]
    exact g11 q hq (by omega) j hj
end
section
/-! numbers, states: 3 -/
theorem pos_lt {S : Nat → Int} (hW : WF S) {p : Int} (h : thr S p) : (pos S p (S 1).toNat).toNat < (S 1).toNat ∧ pos S p (S 1).toNat = ((pos S p (S 1).toNat).toNat : Int) := by
  rcases pos_b S p (S 1).toNat with h1 | ⟨h1, h2⟩
  · exact absurd h1 h
  · omega
theorem ro_ord (S : Nat → Int) {n : Nat} (hn : n ≤ 20) (o : Nat → Nat) : ROrd S n o (ordS S n o) := by
  refine ⟨rfl, fun k hk => ?_, fun i h1 h2 => ?_⟩
  · unfold ordS
    rw [if_neg (by omega), if_pos (by omega), show 6 + k - 6 = k by omega]
  · unfold ordS
    rw [if_neg h1, if_neg h2]
theorem rf_fr {S : Nat → Int} (hW : WF S) : RFr S (frS S) := by
  have hn := hW.n
  refine ⟨rfl, fun k hk => ?_, fun i h1 h2 => ?_⟩
  · unfold frS
    rw [if_neg (by omega), if_pos (by omega), show 6 + k - 6 = k by omega]
  · unfold frS
    rw [if_neg h1, if_neg h2]
theorem hidN_le (S : Nat → Int) : hidN S ≤ 20 := sm_le (b := 1) (fun i _ => by split <;> omega)
theorem lns_le (S : Nat → Int) (p n : Nat) : lns S p n ≤ n := by
  have := sm_le (f := fun y => if stn S p y then 1 else 0) (b := 1) (n := n) (fun i _ => by split <;> omega)
  unfold lns
  omega
end
section
/-! the class: numbers in a row, of which no index is out of range -/
theorem w_m {x : Option Value} {K : Value → Prop} (v : Value) : x = some v → K v → (match x with
  | some v => K v
  | none => False) := fun hx k => by subst hx; exact k
theorem w_mn {x : Option Nat} {K : Nat → Prop} {R : Prop} (v : Nat) : x = some v → K v → (match x with
  | some v => K v
  | none => R) := fun hx k => by subst hx; exact k
theorem w_mm {x y : Option Nat} {K : Nat → Nat → Prop} (v u : Nat) : x = some v → y = some u → K v u → (match x, y with
  | some v, some u => K v u
  | _, _ => False) := fun hx hy k => by subst hx; subst hy; exact k
set_option maxHeartbeats 4000000 in
/-- the same for a method whose class has no plain name, but no row of a native for her -/
theorem e_call_ofF {η : Type} {I : e_IT η} (hI : e_IOk I) {y n : Nat} (hM : OkM y) (hy : plainFor (mNm y) = true) {as : List Value} {h : η} {Q : Option Value → η → Prop} (hlen : Nat.ble (e_args as).length (mML y) = true) (hwp : e_wp I y Q n 0 (e_L0 as (mML y)) [] ((mRm y).cells, (mRm y).slots) h) (hyl : Nat.beq y y_L_law = false := by rfl) : e_CallI I y as h Q := by
  intro l D b cI cS H0
  refine MetFree.of_bodySF (code := mBy y) (maxLocals := mML y) (ret := mRet y) hy (fun args s m hp hn => ?_) (fun p e s m args below meth c s₁ B hml hv _ => ?_)
  · obtain ⟨meth, c, h1, h2, h3, h4, h5, h6, -, -⟩ := Cond.code_spec hn (atoms_spec (ws := mWs y) hp _ List.mem_cons_self)
    exact ⟨meth, c, h1, h2, h3, h4, h5, h6⟩
  have hh0 : s₁.heap = s.heap := by rw [B.state]; rfl
  have key : W p l e (mRm y) s m args below meth c s.heap [] 0 0 (MQ below (e_Qc D b cI cS H0 (fun r σ => ∃ h', σ = I.1 h' ∧ Q r h')) args s (mRm y).cells (mRm y).slots (fun q => b ≤ q)) (entryFrame m args (mML y)) := ?_
  · obtain ⟨t, a1, o, b1, b2, b3⟩ := key s₁ hh0 (Stand.of_body B)
    exact ⟨t, o, a1, b1, b2, ⟨b3.1, b3.2⟩⟩
  obtain ⟨rfl, hS, hK⟩ := hv
  have hx := B.exec
  have hb := B.bytes
  have hr := B.returns
  have hlocks := B.notSynchronized
  have hts := atoms_spec (ws := mWs y) B.pre
  have hret : e_Ret p l e (mRm y) s m (as.map (e_v b)).toArray below meth c D b cI cS H0 (MQ below (e_Qc D b cI cS H0 (fun r σ => ∃ h', σ = I.1 h' ∧ Q r h')) (as.map (e_v b)).toArray s (mRm y).cells (mRm y).slots (fun q => b ≤ q)) y (fun r σ => ∃ h', σ = I.1 h' ∧ Q r h') := by
    intro r σ H locs cells slots pc ls hQ hS' hlo hc hs hdg hok
    refine W.widen hc hs ?_
    revert hok
    cases r with
    | none =>
      cases hm : mRet y with
      | none => intro _; exact W.vret hx hb (hr.trans hm) (fun t ht hW => ⟨none, σ, rfl, hQ, by rw [ht]; exact hS'⟩) hlo hdg
      | some t => intro z; cases t <;> exact z.elim
    | some v =>
      cases hm : mRet y with
      | none => intro z; exact z.elim
      | some t =>
        intro z
        cases t <;> cases v <;> first
          | exact z.elim
          | exact W.iret hx hb (hr.trans hm) (fun t ht hW => ⟨some _, σ, rfl, hQ, by rw [ht]; exact hS'⟩) hlo hdg
          | exact W.lret hx hb (hr.trans hm) (fun t ht hW => ⟨some _, σ, rfl, hQ, by rw [ht]; exact hS'⟩) hlo hdg
          | exact W.zret hx hb (hr.trans hm) (by rcases z with rfl | rfl <;> rfl) (fun t ht hW => ⟨some _, σ, rfl, hQ, by rw [ht]; exact hS'⟩) hlo hdg
          | exact W.aret hx hb (hr.trans hm) (Or.inl ⟨_, rfl⟩) (Or.inr ⟨_, rfl⟩) (fun t ht hW => ⟨some _, σ, rfl, hQ, by rw [ht]; exact hS'⟩) hlo hdg
  rw [lg_entry_eq]
  exact e_wp_ok hI hM n 0 _ [] _ h hwp p l e (mRm y) s m _ below meth c D b cI cS H0 _ ⟨hx, hb, hml, findClass_of_methodNamed B.named, fun w hw => hts w (List.mem_cons_of_mem _ hw), hK, Nat.le_refl _, Nat.le_refl _, (name_of_methodNamed B.named B.method).1, hret, fun z => absurd (hyl.symm.trans z) (by decide)⟩ s.heap [] 0 0 _ hS (fun q hq => (by cases hq)) (by simp) (by simp) (by rw [e_x0_no hyl]; exact e_LH_entry b (mML y) as (Nat.le_of_ble_eq_true hlen))
theorem w_callF {η : Type} {I : e_IT η} (hI : e_IOk I) {y : Nat} (stop : List Nat) (hM : OkM y) (hy : plainFor (mNm y) = true) {as : List Value} {h : η} {Q : Option Value → η → Prop} (hlen : Nat.ble (e_args as).length (mML y) = true) (hwp : e_wq I y stop Q 400 0 (e_L0 as (mML y)) [] ((mRm y).cells, (mRm y).slots) h) (hyl : Nat.beq y y_L_law = false := by rfl) : e_CallI I y as h Q :=
  e_call_ofF hI hM (n := 0) hy hlen (e_wq_ok hI hM 400 0 _ [] _ h hwp) hyl
theorem pf_98 : plainFor (mNm 98) = true := by decide +kernel
theorem pf_99 : plainFor (mNm 99) = true := by decide +kernel
/-- o is a Cells with the row a of n places, w wide -/
def CA (o a n w : Nat) : Prop := (∀ h, s_len h a = some n) ∧ (∀ h, s_get h o 0 0 = some (.ref a)) ∧ (∀ h, s_get h o 0 1 = some (.int (iI w))) ∧ n < 1000
theorem c_J_max {x y : Int32} {h : St} {Q : Option Value → St → Prop} (a b : Int) (hQ : Q (some (.int (iI (if b ≤ a then a else b)))) h) (hx : x = iI a) (hy : y = iI b) (ha : rg a := by omega) (hb : rg b := by omega) : SC y_J_max [.int x, .int y] h Q := by
  refine w_callF IS_ok [] ok_J_max pf_98 rfl ?_
  refine w_lt a b (fun g => ?_) (fun g => ?_) hx hy ha hb
  · rw [if_neg (by omega)] at hQ; rw [hy]; exact hQ
  · rw [if_pos (by omega)] at hQ; rw [hx]; exact hQ
theorem c_J_min {x y : Int32} {h : St} {Q : Option Value → St → Prop} (a b : Int) (hQ : Q (some (.int (iI (if a ≤ b then a else b)))) h) (hx : x = iI a) (hy : y = iI b) (ha : rg a := by omega) (hb : rg b := by omega) : SC y_J_min [.int x, .int y] h Q := by
  refine w_callF IS_ok [] ok_J_min pf_99 rfl ?_
  refine w_lt b a (fun g => ?_) (fun g => ?_) hy hx hb ha
  · rw [if_neg (by omega)] at hQ; rw [hy]; exact hQ
  · rw [if_pos (by omega)] at hQ; rw [hx]; exact hQ
theorem c_Cells_get1 {o a n w : Nat} {x : Int32} {h : St} {Q : Option Value → St → Prop} (hc : CA o a n w) (j : Nat) (hj : j < n) (hQ : Q (some (.int (h.2 a j))) h) (hx : x = iI j) : SC y_Cells_get1 [.ref o, .int x] h Q := by
  obtain ⟨hl, hg, hw, hn⟩ := hc
  refine w_call IS_ok [] ok_Cells_get1 rfl rfl ?_
  refine w_lt j 0 (fun _ => by omega) (fun _ => ?_) hx rfl
  refine w_m _ (hg h) ?_
  refine w_mn _ (hl h) ?_
  refine w_le n j (fun _ => by omega) (fun _ => ?_) rfl hx
  refine w_m _ (hg h) ?_
  refine w_mn _ (hl h) ?_
  refine w_ix j ?_ hx hj
  exact hQ
theorem rc_i {x y : Int32} {r c w : Nat} (hx : x = iI r) (hy : y = iI c) : x * iI w + y = iI ((r * w + c : Nat) : Int) := by
  rw [hx, hy]
  exact (congrArg (· + iI c) (iI_mul r w)).trans ((iI_add _ _).trans (congrArg iI (by omega)))
theorem c_Cells_get2 {o a n w : Nat} {x y : Int32} {h : St} {Q : Option Value → St → Prop} (hc : CA o a n w) (r c : Nat) (hj : r * w + c < n) (hQ : Q (some (.int (h.2 a (r * w + c)))) h) (hx : x = iI r) (hy : y = iI c) : SC y_Cells_get2 [.ref o, .int x, .int y] h Q := by
  obtain ⟨hl, hg, hw, hn⟩ := hc
  have he : x * iI w + y = iI ((r * w + c : Nat) : Int) := rc_i hx hy
  refine w_call IS_ok [] ok_Cells_get2 rfl rfl ?_
  refine w_m _ (hw h) ?_
  refine w_lt (r * w + c : Nat) 0 (fun _ => by omega) (fun _ => ?_) he rfl
  refine w_m _ (hg h) ?_
  refine w_mn _ (hl h) ?_
  refine w_le n (r * w + c : Nat) (fun _ => by omega) (fun _ => ?_) rfl he
  refine w_m _ (hg h) ?_
  refine w_mn _ (hl h) ?_
  refine w_ix (r * w + c) ?_ he hj
  exact hQ
theorem c_Cells_set2 {o a n w : Nat} {x v : Int32} {h : St} {Q : Option Value → St → Prop} (hc : CA o a n w) (j : Nat) (hj : j < n) (hQ : Q none (wa h a j v)) (hx : x = iI j) : SC y_Cells_set2 [.ref o, .int x, .int v] h Q := by
  obtain ⟨hl, hg, hw, hn⟩ := hc
  refine w_call IS_ok [] ok_Cells_set2 rfl rfl ?_
  refine w_lt j 0 (fun _ => by omega) (fun _ => ?_) hx rfl
  refine w_m _ (hg h) ?_
  refine w_mn _ (hl h) ?_
  refine w_le n j (fun _ => by omega) (fun _ => ?_) rfl hx
  refine w_m _ (hg h) ?_
  refine w_mn _ (hl h) ?_
  refine w_ix j ?_ hx hj
  exact hQ
theorem c_Cells_set3 {o a n w : Nat} {x y v : Int32} {h : St} {Q : Option Value → St → Prop} (hc : CA o a n w) (r c : Nat) (hj : r * w + c < n) (hQ : Q none (wa h a (r * w + c) v)) (hx : x = iI r) (hy : y = iI c) : SC y_Cells_set3 [.ref o, .int x, .int y, .int v] h Q := by
  obtain ⟨hl, hg, hw, hn⟩ := hc
  have he : x * iI w + y = iI ((r * w + c : Nat) : Int) := rc_i hx hy
  refine w_call IS_ok [] ok_Cells_set3 rfl rfl ?_
  refine w_m _ (hw h) ?_
  refine w_lt (r * w + c : Nat) 0 (fun _ => by omega) (fun _ => ?_) he rfl
  refine w_m _ (hg h) ?_
  refine w_mn _ (hl h) ?_
  refine w_le n (r * w + c : Nat) (fun _ => by omega) (fun _ => ?_) rfl he
  refine w_m _ (hg h) ?_
  refine w_mn _ (hl h) ?_
  refine w_ix (r * w + c) ?_ he hj
  exact hQ
theorem c_Cells_add {o a n w : Nat} {x v : Int32} {h : St} {Q : Option Value → St → Prop} (hc : CA o a n w) (j : Nat) (hj : j < n) (hQ : Q none (wa h a j (h.2 a j + v))) (hx : x = iI j) : SC y_Cells_add [.ref o, .int x, .int v] h Q := by
  obtain ⟨hl, hg, hw, hn⟩ := hc
  refine w_call IS_ok [] ok_Cells_add rfl rfl ?_
  refine w_lt j 0 (fun _ => by omega) (fun _ => ?_) hx rfl
  refine w_m _ (hg h) ?_
  refine w_mn _ (hl h) ?_
  refine w_le n j (fun _ => by omega) (fun _ => ?_) rfl hx
  refine w_m _ (hg h) ?_
  refine w_mn _ (hl h) ?_
  refine w_ix j ?_ hx hj
  refine w_mn _ (hl h) ?_
  refine w_ix j ?_ hx hj
  exact hQ
theorem c_Cells_fill {o a n w : Nat} {v : Int32} {h : St} {Q : Option Value → St → Prop} (hc : CA o a n w) (hQ : ∀ h', Sm [] [a] h h' → (∀ j, j < n → h'.2 a j = v) → Q none h') : SC y_Cells_fill [.ref o, .int v] h Q := by
  obtain ⟨hl, hg, hw, hn⟩ := hc
  refine w_call IS_ok [2] ok_Cells_fill rfl rfl ?_
  have loop : ∀ (m k : Nat) (hc : St) (z : Int32), n ≤ k + m → k ≤ n → Sm [] [a] h hc → (∀ j, j < k → hc.2 a j = v) → z = iI k → SR y_Cells_fill 2 [some (.ref o), some (.int v), some (.int z)] [] hc Q := by
    intro m
    induction m with
    | zero =>
      intro k hc z hm hk hs hv hz
      refine w_loop IS_ok [2] ok_Cells_fill ?_
      refine w_m _ (hg hc) ?_
      refine w_mn _ (hl hc) ?_
      exact w_le n k (fun _ => hQ hc hs (fun j hj => hv j (by omega))) (fun _ => by omega) rfl hz
    | succ m ih =>
      intro k hc z hm hk hs hv hz
      refine w_loop IS_ok [2] ok_Cells_fill ?_
      refine w_m _ (hg hc) ?_
      refine w_mn _ (hl hc) ?_
      refine w_le n k (fun _ => hQ hc hs (fun j hj => hv j (by omega))) (fun _ => ?_) rfl hz
      refine w_m _ (hg hc) ?_
      refine w_mn _ (hl hc) ?_
      refine w_ix k ?_ hz (by omega)
      refine ih (k + 1) (wa hc a k v) _ (by omega) (by omega) (hs.t (Sm.wa _ _ (by simp))) (fun j hj => ?_) (iI_1 hz)
      by_cases hjk : j = k
      · subst hjk; exact wa_s _ _ _ _
      · rw [wa_n _ _ _ _ hjk]; exact hv j (by omega)
  exact loop n 0 h _ (by omega) (by omega) Sm.rf (fun j hj => by omega) rfl
theorem c_Cells_copyFrom {o a n w o2 a2 w2 : Nat} {h : St} {Q : Option Value → St → Prop} (hc : CA o a n w) (hc2 : CA o2 a2 n w2) (hne : a ≠ a2) (hQ : ∀ h', Sm [] [a] h h' → (∀ j, j < n → h'.2 a j = h.2 a2 j) → Q none h') : SC y_Cells_copyFrom [.ref o, .ref o2] h Q := by
  obtain ⟨hl, hg, hw, hn⟩ := hc
  obtain ⟨hl2, hg2, hw2, -⟩ := hc2
  refine w_call IS_ok [] ok_Cells_copyFrom rfl rfl ?_
  refine w_m _ (hg2 h) ?_
  refine w_m _ (hg h) ?_
  refine w_m _ (hg2 h) ?_
  refine w_mn _ (hl2 h) ?_
  refine w_m _ (hg h) ?_
  refine w_mn _ (hl h) ?_
  refine c_J_min n n ?_ rfl rfl
  refine w_mm _ _ (hl h) (hl2 h) ?_
  refine ⟨n, by rw [if_pos (Int.le_refl _)]; rfl, Nat.le_refl _, Nat.le_refl _, rfl, rfl, hne, by decide, ?_⟩
  refine hQ (h.1, u1 h.2 a (e_cpy (h.2 a2) (h.2 a) n)) (Sm.wr _ (by simp)) (fun j hj => ?_)
  show u1 h.2 a (e_cpy (h.2 a2) (h.2 a) n) a j = _
  rw [u1_s]
  exact if_pos hj
end
section
/-! the class: a scene -/
def pg (h : St) (o k : Nat) (x : Int32) : St := (u2 h.1 o k x, h.2)
theorem pg_s (h : St) (o k : Nat) (x : Int32) : (pg h o k x).1 o k = x := by show u2 h.1 o k x o k = x; unfold u2; rw [u1_s, u1_s]
theorem pg_n (h : St) (o k : Nat) (x : Int32) {j : Nat} (hj : j ≠ k) : (pg h o k x).1 o j = h.1 o j := by show u2 h.1 o k x o j = _; unfold u2; rw [u1_s, u1_n _ _ hj]
theorem pg_o (h : St) (o k : Nat) (x : Int32) {o' j : Nat} (ho : o' ≠ o) : (pg h o k x).1 o' j = h.1 o' j := by show u2 h.1 o k x o' j = _; unfold u2; rw [u1_n _ _ ho]
theorem Sm.pg {X : List (Nat × Nat)} {Y : List Nat} {h : St} {o k : Nat} (x : Int32) (ha : (o, k) ∈ X) : Sm X Y h (pg h o k x) := Sm.put x ha
/-- the scene at a shows S -/
def CS (a : Nat) (S : Nat → Int) (h : St) : Prop := (h.1 a 3 = iI (S 1) ∧ h.1 a 4 = iI (S 0) ∧ h.1 a 5 = iI (S 2) ∧ h.1 a 6 = iI (S 3) ∧ h.1 a 7 = iI (S 4) ∧ h.1 a 8 = iI (S 5)) ∧ (∀ i, i < 64 → h.2 (a + 2) i = iI (S (206 + i))) ∧ (∀ k, k < (S 1).toNat → h.2 (a + 6) k = iI (S (6 + k))) ∧ (∀ p, p < 20 → ∀ j, j < 6 → h.2 (a + 4) (p * 10 + j) = iI (S (26 + 9 * p + j))) ∧ (∀ p : Nat, p < 20 → (p : Int) < S 0 → h.2 (a + 4) (p * 10 + 6) = iI (hgh S p)) ∧ (∀ p, p < 20 → ∀ j, j < 3 → h.2 (a + 4) (p * 10 + (7 + j)) = iI (S (26 + 9 * p + (6 + j))))
theorem CS.sm {a : Nat} {S : Nat → Int} {X : List (Nat × Nat)} {Y : List Nat} {h h' : St} (hC : CS a S h) (s : Sm X Y h h') (hx : ∀ q ∈ X, q.1 ≠ a) (hy : ∀ q ∈ Y, q ≠ a + 2 ∧ q ≠ a + 4 ∧ q ≠ a + 6) : CS a S h' := by
  have e1 : ∀ k, h'.1 a k = h.1 a k := fun k => s.1 a k (fun z => hx _ z rfl)
  have e2 : h'.2 (a + 2) = h.2 (a + 2) := s.2 _ (fun z => (hy _ z).1 rfl)
  have e4 : h'.2 (a + 4) = h.2 (a + 4) := s.2 _ (fun z => (hy _ z).2.1 rfl)
  have e6 : h'.2 (a + 6) = h.2 (a + 6) := s.2 _ (fun z => (hy _ z).2.2 rfl)
  unfold CS
  rw [e1, e1, e1, e1, e1, e1, e2, e4, e6]
  exact hC
/-- what a frame needs to know of a state: its counts are at most b -/
def WG (b : Int) (S : Nat → Int) : Prop := (0 ≤ S 0 ∧ S 0 ≤ 20) ∧ (0 ≤ S 1 ∧ S 1 ≤ 20) ∧ (1 ≤ S 2 ∧ S 2 ≤ 8) ∧ (0 ≤ S 3 ∧ S 3 ≤ 2) ∧ (1 ≤ S 4 ∧ S 4 ≤ 19) ∧ (0 ≤ S 5 ∧ S 5 ≤ b) ∧ (∀ k, k < (S 1).toNat → S (6 + k) = (od S k : Int) ∧ od S k < 20 ∧ S (6 + k) < S 0) ∧ (∀ j k, j < (S 1).toNat → k < (S 1).toNat → od S j = od S k → j = k) ∧ (∀ p, p < 20 → -15 ≤ S (26 + 9 * p + 1) ∧ S (26 + 9 * p + 1) ≤ 47) ∧ (∀ p, p < 20 → ∀ j, j < 3 → 0 ≤ S (26 + 9 * p + (6 + j)) ∧ S (26 + 9 * p + (6 + j)) ≤ b)
theorem WF.wg {S : Nat → Int} (h : WF S) : WG 9999 S := by
  have hn := h.n
  have hw := h.wp
  have h5 := h.2.2.2.2.2.1
  refine ⟨h.1, by omega, h.2.2.1, h.2.2.2.1, h.2.2.2.2.1, h5, fun k hk => h.od hk, fun j k hj hk he => wf_oi h hj hk he, fun p hp => (hw p hp).2.1, fun p hp j hj => ?_⟩
  obtain ⟨-, -, -, -, -, -, a, b, c⟩ := hw p hp
  have : j = 0 ∨ j = 1 ∨ j = 2 := by omega
  rcases this with rfl | rfl | rfl
  · exact ⟨a.1, by have := a.2; show S (26 + 9 * p + 6) ≤ 9999; omega⟩
  · exact ⟨b.1, by have := b.2; show S (26 + 9 * p + 7) ≤ 9999; omega⟩
  · exact ⟨c.1, by have := c.2; show S (26 + 9 * p + 8) ≤ 9999; omega⟩
theorem CS.eqv {a : Nat} {S S' : Nat → Int} {h : St} (hC : CS a S h) (e : Eqv S S') (hn : (S 1).toNat ≤ 20) : CS a S' h := by
  obtain ⟨⟨a1, a2, a3, a4, a5, a6⟩, b, c, d, f, g⟩ := hC
  have k : ∀ i, i < 270 → (i < 6 ∨ 26 ≤ i) → S' i = S i := fun i h1 h2 => e i h1 (by omega)
  refine ⟨⟨by rw [k 1 (by omega) (by omega)]; exact a1, by rw [k 0 (by omega) (by omega)]; exact a2, by rw [k 2 (by omega) (by omega)]; exact a3, by rw [k 3 (by omega) (by omega)]; exact a4, by rw [k 4 (by omega) (by omega)]; exact a5, by rw [k 5 (by omega) (by omega)]; exact a6⟩, fun i hi => by rw [k _ (by omega) (by omega)]; exact b i hi, fun i hi => ?_, fun p hp j hj => by rw [k _ (by omega) (by omega)]; exact d p hp j hj, fun p hp h0 => ?_, fun p hp j hj => by rw [k _ (by omega) (by omega)]; exact g p hp j hj⟩
  · rw [k 1 (by omega) (by omega)] at hi
    rw [e _ (by omega) (by omega)]
    exact c i hi
  · rw [k 0 (by omega) (by omega)] at h0
    have := f p hp h0
    unfold hgh at this ⊢
    rw [k _ (by omega) (by omega)]
    exact this
def fst (S : Nat → Int) (p : Nat) : Int := if 0 ≤ S (26 + 9 * p + 1) then S (26 + 9 * p + 1) else 0
def lst (S : Nat → Int) (p : Nat) : Int := (if S (26 + 9 * p + 1) + hgh S p ≤ 48 then S (26 + 9 * p + 1) + hgh S p else 48) - 1
def shf {α : Type} (r : Nat → α) (f t : Nat) : Nat → α := fun k => if k = t then r f else if f ≤ k ∧ k < t then r (k + 1) else if t < k ∧ k ≤ f then r (k - 1) else r k
theorem CA_2 : CA 2 3 64 8 := ⟨fun _ => rfl, fun _ => rfl, fun _ => rfl, by decide⟩
theorem CA_4 : CA 4 5 200 10 := ⟨fun _ => rfl, fun _ => rfl, fun _ => rfl, by decide⟩
theorem CA_6 : CA 6 7 20 1 := ⟨fun _ => rfl, fun _ => rfl, fun _ => rfl, by decide⟩
theorem CA_9 : CA 9 10 64 8 := ⟨fun _ => rfl, fun _ => rfl, fun _ => rfl, by decide⟩
theorem CA_11 : CA 11 12 200 10 := ⟨fun _ => rfl, fun _ => rfl, fun _ => rfl, by decide⟩
theorem CA_13 : CA 13 14 20 1 := ⟨fun _ => rfl, fun _ => rfl, fun _ => rfl, by decide⟩
theorem CA_25 : CA 25 26 64 8 := ⟨fun _ => rfl, fun _ => rfl, fun _ => rfl, by decide⟩
theorem CA_27 : CA 27 28 200 10 := ⟨fun _ => rfl, fun _ => rfl, fun _ => rfl, by decide⟩
theorem CA_29 : CA 29 30 20 1 := ⟨fun _ => rfl, fun _ => rfl, fun _ => rfl, by decide⟩
theorem CA_41 : CA 41 42 64 8 := ⟨fun _ => rfl, fun _ => rfl, fun _ => rfl, by decide⟩
theorem CA_43 : CA 43 44 200 10 := ⟨fun _ => rfl, fun _ => rfl, fun _ => rfl, by decide⟩
theorem CA_45 : CA 45 46 20 1 := ⟨fun _ => rfl, fun _ => rfl, fun _ => rfl, by decide⟩
theorem CA_48 : CA 48 49 64 8 := ⟨fun _ => rfl, fun _ => rfl, fun _ => rfl, by decide⟩
theorem CA_50 : CA 50 51 200 10 := ⟨fun _ => rfl, fun _ => rfl, fun _ => rfl, by decide⟩
theorem CA_52 : CA 52 53 20 1 := ⟨fun _ => rfl, fun _ => rfl, fun _ => rfl, by decide⟩
theorem CA_55 : CA 55 56 64 8 := ⟨fun _ => rfl, fun _ => rfl, fun _ => rfl, by decide⟩
theorem CA_57 : CA 57 58 200 10 := ⟨fun _ => rfl, fun _ => rfl, fun _ => rfl, by decide⟩
theorem CA_59 : CA 59 60 20 1 := ⟨fun _ => rfl, fun _ => rfl, fun _ => rfl, by decide⟩
theorem CA_62 : CA 62 63 64 8 := ⟨fun _ => rfl, fun _ => rfl, fun _ => rfl, by decide⟩
theorem CA_64 : CA 64 65 200 10 := ⟨fun _ => rfl, fun _ => rfl, fun _ => rfl, by decide⟩
theorem CA_66 : CA 66 67 20 1 := ⟨fun _ => rfl, fun _ => rfl, fun _ => rfl, by decide⟩
theorem CA_69 : CA 69 70 64 8 := ⟨fun _ => rfl, fun _ => rfl, fun _ => rfl, by decide⟩
theorem CA_71 : CA 71 72 200 10 := ⟨fun _ => rfl, fun _ => rfl, fun _ => rfl, by decide⟩
theorem CA_73 : CA 73 74 20 1 := ⟨fun _ => rfl, fun _ => rfl, fun _ => rfl, by decide⟩
theorem CA_16 : CA 16 17 48 1 := ⟨fun _ => rfl, fun _ => rfl, fun _ => rfl, by decide⟩
theorem CA_18 : CA 18 19 20 1 := ⟨fun _ => rfl, fun _ => rfl, fun _ => rfl, by decide⟩
theorem CA_32 : CA 32 33 48 1 := ⟨fun _ => rfl, fun _ => rfl, fun _ => rfl, by decide⟩
theorem CA_34 : CA 34 35 20 1 := ⟨fun _ => rfl, fun _ => rfl, fun _ => rfl, by decide⟩
theorem CA_21 : CA 21 22 8 1 := ⟨fun _ => rfl, fun _ => rfl, fun _ => rfl, by decide⟩
theorem CA_36 : CA 36 37 20 1 := ⟨fun _ => rfl, fun _ => rfl, fun _ => rfl, by decide⟩
theorem CA_77 : CA 77 78 100 1 := ⟨fun _ => rfl, fun _ => rfl, fun _ => rfl, by decide⟩
theorem CA_80 : CA 80 81 600 6 := ⟨fun _ => rfl, fun _ => rfl, fun _ => rfl, by decide⟩
theorem CA_82 : CA 82 83 4 1 := ⟨fun _ => rfl, fun _ => rfl, fun _ => rfl, by decide⟩
theorem CA_85 : CA 85 86 200 1 := ⟨fun _ => rfl, fun _ => rfl, fun _ => rfl, by decide⟩
theorem CA_87 : CA 87 88 4 1 := ⟨fun _ => rfl, fun _ => rfl, fun _ => rfl, by decide⟩

theorem c_Scene_firstLine_1 {S : Nat → Int} {x : Int32} {h : St} {Q : Option Value → St → Prop} (hC : CS 1 S h) (p : Nat) (hp : p < 20) (hy : -15 ≤ S (26 + 9 * p + 1) ∧ S (26 + 9 * p + 1) ≤ 47) (hQ : Q (some (.int (iI (fst S p)))) h) (hx : x = iI p) : SC y_Scene_firstLine [.ref 1, .int x] h Q := by
  refine w_call IS_ok [] ok_Scene_firstLine rfl rfl ?_
  refine c_Cells_get2 CA_4 p 1 (by omega) ?_ hx rfl
  exact c_J_max (S (26 + 9 * p + 1)) 0 hQ (hC.2.2.2.1 p hp 1 (by omega)) rfl
theorem c_Scene_lastLine_1 {S : Nat → Int} {x : Int32} {h : St} {Q : Option Value → St → Prop} (hC : CS 1 S h) (p : Nat) (hp : p < 20) (hp0 : (p : Int) < S 0) (hy : -15 ≤ S (26 + 9 * p + 1) ∧ S (26 + 9 * p + 1) ≤ 47) (hQ : Q (some (.int (iI (lst S p)))) h) (hx : x = iI p) : SC y_Scene_lastLine [.ref 1, .int x] h Q := by
  refine w_call IS_ok [] ok_Scene_lastLine rfl rfl ?_
  refine c_Cells_get2 CA_4 p 1 (by omega) ?_ hx rfl
  refine c_Cells_get2 CA_4 p 6 (by omega) ?_ hx rfl
  have hh := hgh_b S p
  refine c_J_min (S (26 + 9 * p + 1) + hgh S p) 48 ?_ ?_ rfl
  · unfold lst at hQ
    rw [← iI_sub] at hQ
    exact hQ
  · exact (congr (congrArg HAdd.hAdd (hC.2.2.2.1 p hp 1 (by omega))) (hC.2.2.2.2.1 p hp hp0)).trans (iI_add _ _)
theorem c_Scene_shiftInOrder_1 {x y : Int32} {h : St} {Q : Option Value → St → Prop} (f t : Nat) (hf : f < 20) (ht : t < 20) (hQ : ∀ h', Sm [] [7] h h' → (∀ k, k < 20 → h'.2 7 k = shf (h.2 7) f t k) → Q none h') (hx : x = iI f) (hy : y = iI t) : SC y_Scene_shiftInOrder [.ref 1, .int x, .int y] h Q := by
  refine w_call IS_ok [12] ok_Scene_shiftInOrder rfl rfl ?_
  refine c_Cells_get1 CA_6 f hf ?_ hx
  have last : ∀ (c : Nat) (hc : St) (z : Int32), Sm [] [7] h hc → c ≤ f → c ≤ t → (t ≤ c ∨ c = f) → (∀ k, k < 20 → hc.2 7 k = if c < k ∧ k ≤ f then h.2 7 (k - 1) else if f ≤ k ∧ k < t then h.2 7 (k + 1) else h.2 7 k) → SR y_Scene_shiftInOrder 79 [some (.ref 1), some (.int x), some (.int y), some (.int (h.2 7 f)), some (.int z)] [] hc Q := by
    intro c hc z hs h1 h2 h3 hr
    refine w_loop IS_ok [] ok_Scene_shiftInOrder ?_
    refine c_Cells_set2 CA_6 t ht ?_ hy
    refine hQ _ (hs.t (Sm.wa _ _ (by decide))) (fun k hk => ?_)
    unfold shf
    by_cases z1 : k = t
    · rw [z1, wa_s, if_pos rfl]
    · rw [wa_n _ _ _ _ z1, if_neg z1, hr k hk]
      by_cases z2 : f ≤ k ∧ k < t
      · rw [if_neg (by omega), if_pos z2, if_pos z2]
      · rw [if_neg z2, if_neg z2]
        by_cases z3 : t < k ∧ k ≤ f
        · rw [if_pos (by omega), if_pos z3]
        · rw [if_neg (by omega), if_neg z3]
  have loop2 : ∀ (m c : Nat) (hc : St) (z : Int32), c ≤ t + m → c ≤ f → (t ≤ c ∨ c = f) → Sm [] [7] h hc → (∀ k, k < 20 → hc.2 7 k = if c < k ∧ k ≤ f then h.2 7 (k - 1) else if f ≤ k ∧ k < t then h.2 7 (k + 1) else h.2 7 k) → z = iI c → SR y_Scene_shiftInOrder 47 [some (.ref 1), some (.int x), some (.int y), some (.int (h.2 7 f)), some (.int z)] [] hc Q := by
    intro m
    induction m with
    | zero =>
      intro c hc z h1 h2 h3 hs hr hz
      refine w_loop IS_ok [79] ok_Scene_shiftInOrder ?_
      exact w_le c t (fun _ => last c hc z hs h2 (by omega) h3 hr) (fun _ => by omega) hz hy
    | succ m ih =>
      intro c hc z h1 h2 h3 hs hr hz
      refine w_loop IS_ok [47, 79] ok_Scene_shiftInOrder ?_
      refine w_le c t (fun _ => last c hc z hs h2 (by omega) h3 hr) (fun g => ?_) hz hy
      refine c_Cells_get1 CA_6 (c - 1) (by omega) ?_ (iI_q hz (by omega))
      refine c_Cells_set2 CA_6 c (by omega) ?_ hz
      refine ih (c - 1) (wa hc 7 c (hc.2 7 (c - 1))) _ (by omega) (by omega) (by omega) (hs.t (Sm.wa _ _ (by decide))) (fun k hk => ?_) (iI_p hz (by omega))
      by_cases z1 : k = c
      · subst z1
        rw [wa_s, hr _ (by omega), if_neg (by omega), if_neg (by omega), if_pos (by omega)]
      · rw [wa_n _ _ _ _ z1, hr k hk]
        by_cases z2 : c < k ∧ k ≤ f
        · rw [if_pos z2, if_pos (by omega)]
        · rw [if_neg z2, if_neg (by omega), if_neg (by omega)]
  have loop1 : ∀ (m c : Nat) (hc : St) (z : Int32), t ≤ c + m → f ≤ c → (c ≤ t ∨ c = f) → Sm [] [7] h hc → (∀ k, k < 20 → hc.2 7 k = if f ≤ k ∧ k < c then h.2 7 (k + 1) else h.2 7 k) → z = iI c → SR y_Scene_shiftInOrder 12 [some (.ref 1), some (.int x), some (.int y), some (.int (h.2 7 f)), some (.int z)] [] hc Q := by
    have mid : ∀ (c : Nat) (hc : St) (z : Int32), f ≤ c → (c ≤ t ∨ c = f) → t ≤ c → Sm [] [7] h hc → (∀ k, k < 20 → hc.2 7 k = if f ≤ k ∧ k < c then h.2 7 (k + 1) else h.2 7 k) → SR y_Scene_shiftInOrder 44 [some (.ref 1), some (.int x), some (.int y), some (.int (h.2 7 f)), some (.int z)] [] hc Q := by
      intro c hc z h1 h2 h3 hs hr
      refine w_loop IS_ok [47] ok_Scene_shiftInOrder ?_
      refine loop2 20 f hc _ (by omega) (by omega) (by omega) hs (fun k hk => ?_) hx
      rw [hr k hk, if_neg (by omega : ¬ (f < k ∧ k ≤ f))]
      by_cases z2 : f ≤ k ∧ k < t
      · rw [if_pos z2, if_pos (by omega)]
      · rw [if_neg z2, if_neg (by omega)]
    intro m
    induction m with
    | zero =>
      intro c hc z h1 h2 h3 hs hr hz
      refine w_loop IS_ok [44] ok_Scene_shiftInOrder ?_
      exact w_le t c (fun _ => mid c hc z h2 h3 (by omega) hs hr) (fun _ => by omega) hy hz
    | succ m ih =>
      intro c hc z h1 h2 h3 hs hr hz
      refine w_loop IS_ok [12, 44] ok_Scene_shiftInOrder ?_
      refine w_le t c (fun _ => mid c hc z h2 h3 (by omega) hs hr) (fun g => ?_) hy hz
      refine c_Cells_get1 CA_6 (c + 1) (by omega) ?_ (iI_1 hz)
      refine c_Cells_set2 CA_6 c (by omega) ?_ hz
      refine ih (c + 1) (wa hc 7 c (hc.2 7 (c + 1))) _ (by omega) (by omega) (by omega) (hs.t (Sm.wa _ _ (by decide))) (fun k hk => ?_) (iI_1 hz)
      by_cases z1 : k = c
      · subst z1
        rw [wa_s, hr _ (by omega), if_neg (by omega), if_pos (by omega)]
      · rw [wa_n _ _ _ _ z1, hr k hk]
        by_cases z2 : f ≤ k ∧ k < c
        · rw [if_pos z2, if_pos (by omega)]
        · rw [if_neg z2, if_neg (by omega)]
  refine loop1 20 f h _ (by omega) (by omega) (by omega) Sm.rf (fun k hk => ?_) hx
  rw [if_neg (by omega)]

theorem c_Scene_firstLine_24 {S : Nat → Int} {x : Int32} {h : St} {Q : Option Value → St → Prop} (hC : CS 24 S h) (p : Nat) (hp : p < 20) (hy : -15 ≤ S (26 + 9 * p + 1) ∧ S (26 + 9 * p + 1) ≤ 47) (hQ : Q (some (.int (iI (fst S p)))) h) (hx : x = iI p) : SC y_Scene_firstLine [.ref 24, .int x] h Q := by
  refine w_call IS_ok [] ok_Scene_firstLine rfl rfl ?_
  refine c_Cells_get2 CA_27 p 1 (by omega) ?_ hx rfl
  exact c_J_max (S (26 + 9 * p + 1)) 0 hQ (hC.2.2.2.1 p hp 1 (by omega)) rfl
theorem c_Scene_lastLine_24 {S : Nat → Int} {x : Int32} {h : St} {Q : Option Value → St → Prop} (hC : CS 24 S h) (p : Nat) (hp : p < 20) (hp0 : (p : Int) < S 0) (hy : -15 ≤ S (26 + 9 * p + 1) ∧ S (26 + 9 * p + 1) ≤ 47) (hQ : Q (some (.int (iI (lst S p)))) h) (hx : x = iI p) : SC y_Scene_lastLine [.ref 24, .int x] h Q := by
  refine w_call IS_ok [] ok_Scene_lastLine rfl rfl ?_
  refine c_Cells_get2 CA_27 p 1 (by omega) ?_ hx rfl
  refine c_Cells_get2 CA_27 p 6 (by omega) ?_ hx rfl
  have hh := hgh_b S p
  refine c_J_min (S (26 + 9 * p + 1) + hgh S p) 48 ?_ ?_ rfl
  · unfold lst at hQ
    rw [← iI_sub] at hQ
    exact hQ
  · exact (congr (congrArg HAdd.hAdd (hC.2.2.2.1 p hp 1 (by omega))) (hC.2.2.2.2.1 p hp hp0)).trans (iI_add _ _)
theorem c_Scene_shiftInOrder_24 {x y : Int32} {h : St} {Q : Option Value → St → Prop} (f t : Nat) (hf : f < 20) (ht : t < 20) (hQ : ∀ h', Sm [] [30] h h' → (∀ k, k < 20 → h'.2 30 k = shf (h.2 30) f t k) → Q none h') (hx : x = iI f) (hy : y = iI t) : SC y_Scene_shiftInOrder [.ref 24, .int x, .int y] h Q := by
  refine w_call IS_ok [12] ok_Scene_shiftInOrder rfl rfl ?_
  refine c_Cells_get1 CA_29 f hf ?_ hx
  have last : ∀ (c : Nat) (hc : St) (z : Int32), Sm [] [30] h hc → c ≤ f → c ≤ t → (t ≤ c ∨ c = f) → (∀ k, k < 20 → hc.2 30 k = if c < k ∧ k ≤ f then h.2 30 (k - 1) else if f ≤ k ∧ k < t then h.2 30 (k + 1) else h.2 30 k) → SR y_Scene_shiftInOrder 79 [some (.ref 24), some (.int x), some (.int y), some (.int (h.2 30 f)), some (.int z)] [] hc Q := by
    intro c hc z hs h1 h2 h3 hr
    refine w_loop IS_ok [] ok_Scene_shiftInOrder ?_
    refine c_Cells_set2 CA_29 t ht ?_ hy
    refine hQ _ (hs.t (Sm.wa _ _ (by decide))) (fun k hk => ?_)
    unfold shf
    by_cases z1 : k = t
    · rw [z1, wa_s, if_pos rfl]
    · rw [wa_n _ _ _ _ z1, if_neg z1, hr k hk]
      by_cases z2 : f ≤ k ∧ k < t
      · rw [if_neg (by omega), if_pos z2, if_pos z2]
      · rw [if_neg z2, if_neg z2]
        by_cases z3 : t < k ∧ k ≤ f
        · rw [if_pos (by omega), if_pos z3]
        · rw [if_neg (by omega), if_neg z3]
  have loop2 : ∀ (m c : Nat) (hc : St) (z : Int32), c ≤ t + m → c ≤ f → (t ≤ c ∨ c = f) → Sm [] [30] h hc → (∀ k, k < 20 → hc.2 30 k = if c < k ∧ k ≤ f then h.2 30 (k - 1) else if f ≤ k ∧ k < t then h.2 30 (k + 1) else h.2 30 k) → z = iI c → SR y_Scene_shiftInOrder 47 [some (.ref 24), some (.int x), some (.int y), some (.int (h.2 30 f)), some (.int z)] [] hc Q := by
    intro m
    induction m with
    | zero =>
      intro c hc z h1 h2 h3 hs hr hz
      refine w_loop IS_ok [79] ok_Scene_shiftInOrder ?_
      exact w_le c t (fun _ => last c hc z hs h2 (by omega) h3 hr) (fun _ => by omega) hz hy
    | succ m ih =>
      intro c hc z h1 h2 h3 hs hr hz
      refine w_loop IS_ok [47, 79] ok_Scene_shiftInOrder ?_
      refine w_le c t (fun _ => last c hc z hs h2 (by omega) h3 hr) (fun g => ?_) hz hy
      refine c_Cells_get1 CA_29 (c - 1) (by omega) ?_ (iI_q hz (by omega))
      refine c_Cells_set2 CA_29 c (by omega) ?_ hz
      refine ih (c - 1) (wa hc 30 c (hc.2 30 (c - 1))) _ (by omega) (by omega) (by omega) (hs.t (Sm.wa _ _ (by decide))) (fun k hk => ?_) (iI_p hz (by omega))
      by_cases z1 : k = c
      · subst z1
        rw [wa_s, hr _ (by omega), if_neg (by omega), if_neg (by omega), if_pos (by omega)]
      · rw [wa_n _ _ _ _ z1, hr k hk]
        by_cases z2 : c < k ∧ k ≤ f
        · rw [if_pos z2, if_pos (by omega)]
        · rw [if_neg z2, if_neg (by omega), if_neg (by omega)]
  have loop1 : ∀ (m c : Nat) (hc : St) (z : Int32), t ≤ c + m → f ≤ c → (c ≤ t ∨ c = f) → Sm [] [30] h hc → (∀ k, k < 20 → hc.2 30 k = if f ≤ k ∧ k < c then h.2 30 (k + 1) else h.2 30 k) → z = iI c → SR y_Scene_shiftInOrder 12 [some (.ref 24), some (.int x), some (.int y), some (.int (h.2 30 f)), some (.int z)] [] hc Q := by
    have mid : ∀ (c : Nat) (hc : St) (z : Int32), f ≤ c → (c ≤ t ∨ c = f) → t ≤ c → Sm [] [30] h hc → (∀ k, k < 20 → hc.2 30 k = if f ≤ k ∧ k < c then h.2 30 (k + 1) else h.2 30 k) → SR y_Scene_shiftInOrder 44 [some (.ref 24), some (.int x), some (.int y), some (.int (h.2 30 f)), some (.int z)] [] hc Q := by
      intro c hc z h1 h2 h3 hs hr
      refine w_loop IS_ok [47] ok_Scene_shiftInOrder ?_
      refine loop2 20 f hc _ (by omega) (by omega) (by omega) hs (fun k hk => ?_) hx
      rw [hr k hk, if_neg (by omega : ¬ (f < k ∧ k ≤ f))]
      by_cases z2 : f ≤ k ∧ k < t
      · rw [if_pos z2, if_pos (by omega)]
      · rw [if_neg z2, if_neg (by omega)]
    intro m
    induction m with
    | zero =>
      intro c hc z h1 h2 h3 hs hr hz
      refine w_loop IS_ok [44] ok_Scene_shiftInOrder ?_
      exact w_le t c (fun _ => mid c hc z h2 h3 (by omega) hs hr) (fun _ => by omega) hy hz
    | succ m ih =>
      intro c hc z h1 h2 h3 hs hr hz
      refine w_loop IS_ok [12, 44] ok_Scene_shiftInOrder ?_
      refine w_le t c (fun _ => mid c hc z h2 h3 (by omega) hs hr) (fun g => ?_) hy hz
      refine c_Cells_get1 CA_29 (c + 1) (by omega) ?_ (iI_1 hz)
      refine c_Cells_set2 CA_29 c (by omega) ?_ hz
      refine ih (c + 1) (wa hc 30 c (hc.2 30 (c + 1))) _ (by omega) (by omega) (by omega) (hs.t (Sm.wa _ _ (by decide))) (fun k hk => ?_) (iI_1 hz)
      by_cases z1 : k = c
      · subst z1
        rw [wa_s, hr _ (by omega), if_neg (by omega), if_pos (by omega)]
      · rw [wa_n _ _ _ _ z1, hr k hk]
        by_cases z2 : f ≤ k ∧ k < c
        · rw [if_pos z2, if_pos (by omega)]
        · rw [if_neg z2, if_neg (by omega)]
  refine loop1 20 f h _ (by omega) (by omega) (by omega) Sm.rf (fun k hk => ?_) hx
  rw [if_neg (by omega)]
end
section
/-! the class: the survey -/
theorem stn_fl {S : Nat → Int} {p : Nat} {l : Nat} (hl : l < 48) : stn S p l ↔ fst S p ≤ l ∧ (l : Int) ≤ lst S p := by
  unfold fst lst stn
  split <;> split <;> omega
theorem fst_b {S : Nat → Int} {p : Nat} (hy : -15 ≤ S (26 + 9 * p + 1) ∧ S (26 + 9 * p + 1) ≤ 47) : 0 ≤ fst S p ∧ fst S p ≤ 47 := by
  unfold fst
  split <;> omega
theorem lst_b {S : Nat → Int} {p : Nat} (hy : -15 ≤ S (26 + 9 * p + 1) ∧ S (26 + 9 * p + 1) ≤ 47) : -20 ≤ lst S p ∧ lst S p ≤ 47 := by
  have := hgh_b S p
  unfold lst
  split <;> omega
theorem sm_tail {f : Nat → Nat} {y : Nat} : ∀ {m : Nat}, y ≤ m → (∀ l, y ≤ l → l < m → f l = 0) → sm f m = sm f y
  | 0, h, _ => by rw [show y = 0 by omega]
  | m + 1, h, hz => by
    by_cases z : y = m + 1
    · rw [z]
    · show sm f m + f m = _
      rw [hz m (by omega) (by omega), sm_tail (m := m) (by omega) (fun l h1 h2 => hz l h1 (by omega))]
      rfl
theorem smR (S : Nat → Int) (o : Nat → Nat) (k p m : Nat) : sm (fun l => hR S o l (k + 1) p) m = sm (fun l => hR S o l k p) m + (if o k = p then sm (fun l => hA S o l k) m else 0) := by
  have : sm (fun l => hR S o l (k + 1) p) m = sm (fun l => hR S o l k p + (if o k = p then hA S o l k else 0)) m := sm_congr (fun l _ => hR_s S o l k p)
  rw [this, sm_add]
  split
  · rfl
  · rw [show sm (fun _ => 0) m = 0 from sm_zero.mpr (fun _ _ => rfl)]

set_option maxHeartbeats 2000000 in
theorem c_Surv_look_1 {b : Int} {S : Nat → Int} {h : St} {Q : Option Value → St → Prop} (hC : CS 1 S h) (hG : WG b S) (hQ : ∀ h', Sm [] [17, 19] h h' → (∀ y, y < 48 → h'.2 17 y = iI (cn S (od S) y (S 1).toNat : Nat)) → (∀ p, p < 20 → h'.2 19 p = iI (hT S (od S) (S 1).toNat 48 p : Nat)) → Q none h') : SC y_Surv_look [.ref 15, .ref 1] h Q := by
  obtain ⟨g0, g1, g2, g3, g4, g5, god, ginj, gy, gc⟩ := id hG
  refine w_call IS_ok [18] ok_Surv_look rfl rfl ?_
  refine c_Cells_fill CA_16 (fun h1 hs1 hz1 => ?_)
  refine c_Cells_fill CA_18 (fun h2 hs2 hz2 => ?_)
  have outer : ∀ (m k : Nat) (hc : St) (z : Int32) (L3 L4 L5 : Option Value), (S 1).toNat ≤ k + m → k ≤ (S 1).toNat → Sm [] [17, 19] h hc → (∀ y : Nat, y < 48 → hc.2 17 y = iI (cn S (od S) y k : Nat)) → (∀ p, p < 20 → hc.2 19 p = iI (sm (fun l => hR S (od S) l k p) 48 : Nat)) → z = iI k → SR y_Surv_look 18 [some (.ref 15), some (.ref 1), some (.int z), L3, L4, L5] [] hc Q := by
    intro m
    induction m with
    | zero =>
      intro k hc z L3 L4 L5 hm hk hs ha hb hz
      have : k = (S 1).toNat := by omega
      subst this
      refine w_loop IS_ok [18] ok_Surv_look ?_
      exact w_le (S 1) (S 1).toNat (fun _ => hQ hc hs ha hb) (fun _ => by omega) ((hs.1 _ _ (by decide)).trans hC.1.1) hz
    | succ m ih =>
      intro k hc z L3 L4 L5 hm hk hs ha hb hz
      have hCc : CS 1 S hc := hC.sm hs (by decide) (by decide)
      refine w_loop IS_ok [18, 49] ok_Surv_look ?_
      refine w_le (S 1) k (fun g => ?_) (fun g => ?_) hCc.1.1 hz
      · have : k = (S 1).toNat := by omega
        subst this
        exact hQ hc hs ha hb
      obtain ⟨o1, o2, o3⟩ := god k (by omega)
      have hy := gy _ o2
      have hf := fst_b hy
      have hl := lst_b hy
      refine c_Cells_get1 CA_6 k (by omega) ?_ hz
      have eo : hc.2 7 k = iI (od S k : Nat) := (hCc.2.2.1 k (by omega)).trans (congrArg iI o1)
      refine c_Scene_lastLine_1 hCc (od S k) o2 (by omega) hy ?_ eo
      refine c_Scene_firstLine_1 hCc (od S k) o2 hy ?_ eo
      have done : ∀ (y : Nat) (hd : St) (z5 : Int32), lst S (od S k) < y → fst S (od S k) ≤ y → y ≤ 48 → Sm [] [17, 19] h hd → (∀ l, l < 48 → hd.2 17 l = iI ((if l < y then cn S (od S) l (k + 1) else cn S (od S) l k : Nat) : Nat)) → (∀ q, q < 20 → hd.2 19 q = iI ((sm (fun l => hR S (od S) l k q) 48 + (if od S k = q then sm (fun l => hA S (od S) l k) y else 0) : Nat) : Nat)) → SR y_Surv_look 97 [some (.ref 15), some (.ref 1), some (.int z), some (.int (hc.2 7 k)), some (.int (iI (lst S (od S k)))), some (.int z5)] [] hd Q := by
        intro y hd z5 hyl hyf hy48 hsd had hbd
        refine w_loop IS_ok [18] ok_Surv_look ?_
        refine ih (k + 1) hd _ _ _ _ (by omega) (by omega) hsd (fun l hl => ?_) (fun q hq => ?_) (iI_1 hz)
        · rw [had l hl]
          by_cases z1 : l < y
          · rw [if_pos z1]
          · rw [if_neg z1, cn_f (fun z2 => by have := (stn_fl hl).mp z2; omega)]
        · rw [hbd q hq, smR, sm_tail (f := fun l => hA S (od S) l k) (y := y) (m := 48) hy48 (fun l h1 h2 => if_neg (fun z2 => by have := (stn_fl h2).mp z2.1; omega))]
      have inner : ∀ (m y : Nat) (hd : St) (z5 : Int32), 48 ≤ y + m → fst S (od S k) ≤ y → y ≤ 48 → Sm [] [17, 19] h hd → (∀ l, l < 48 → hd.2 17 l = iI ((if l < y then cn S (od S) l (k + 1) else cn S (od S) l k : Nat) : Nat)) → (∀ q, q < 20 → hd.2 19 q = iI ((sm (fun l => hR S (od S) l k q) 48 + (if od S k = q then sm (fun l => hA S (od S) l k) y else 0) : Nat) : Nat)) → z5 = iI y → SR y_Surv_look 49 [some (.ref 15), some (.ref 1), some (.int z), some (.int (hc.2 7 k)), some (.int (iI (lst S (od S k)))), some (.int z5)] [] hd Q := by
        intro m
        induction m with
        | zero =>
          intro y hd z5 hm2 hyf hy48 hsd had hbd hz5
          refine w_loop IS_ok [97] ok_Surv_look ?_
          exact w_lt (lst S (od S k)) y (fun g => done y hd z5 g hyf hy48 hsd had hbd) (fun _ => by omega) rfl hz5
        | succ m ih2 =>
          intro y hd z5 hm2 hyf hy48 hsd had hbd hz5
          refine w_loop IS_ok [81, 97] ok_Surv_look ?_
          refine w_lt (lst S (od S k)) y (fun g => done y hd z5 g hyf hy48 hsd had hbd) (fun g => ?_) rfl hz5
          have hy47 : y < 48 := by omega
          have hst : stn S (od S k) y := (stn_fl hy47).mpr ⟨hyf, g⟩
          have hcn := cn_le S (od S) y k
          have hct := cn_t (o := od S) (k := k) hst
          have at81 : ∀ (he : St), Sm [] [17, 19] h he → he.2 17 = hd.2 17 → (∀ q, q < 20 → he.2 19 q = iI ((sm (fun l => hR S (od S) l k q) 48 + (if od S k = q then sm (fun l => hA S (od S) l k) (y + 1) else 0) : Nat) : Nat)) → SR y_Surv_look 81 [some (.ref 15), some (.ref 1), some (.int z), some (.int (hc.2 7 k)), some (.int (iI (lst S (od S k)))), some (.int z5)] [] he Q := by
            intro he hse hae hbe
            refine w_loop IS_ok [49] ok_Surv_look ?_
            refine c_Cells_add CA_16 y hy47 ?_ hz5
            refine ih2 (y + 1) (wa he 17 y (he.2 17 y + 1)) _ (by omega) (by omega) (by omega) (hse.t (Sm.wa _ _ (by decide))) (fun l hl => ?_) (fun q hq => ?_) (iI_1 hz5)
            · by_cases z1 : l = y
              · subst z1
                rw [wa_s, hae, had l hl, if_neg (by omega), if_pos (by omega), hct]
                exact iI_1 rfl
              · rw [wa_n _ _ _ _ z1, hae, had l hl]
                by_cases z2 : l < y
                · rw [if_pos z2, if_pos (by omega)]
                · rw [if_neg z2, if_neg (by omega)]
            · rw [wa_o _ _ _ _ (by decide)]
              exact hbe q hq
          refine c_Cells_get1 CA_16 y hy47 ?_ hz5
          have hCd : CS 1 S hd := hC.sm hsd (by decide) (by decide)
          have es : hd.2 17 y = iI (cn S (od S) y k : Nat) := by rw [had y hy47, if_neg (by omega)]
          have hsu : sm (fun l => hA S (od S) l k) (y + 1) = sm (fun l => hA S (od S) l k) y + hA S (od S) y k := rfl
          refine w_lt (cn S (od S) y k : Nat) (S 2) (fun g2 => ?_) (fun g2 => ?_) es hCd.1.2.2.1
          · refine at81 hd hsd rfl (fun q hq => ?_)
            rw [hbd q hq, hsu, show hA S (od S) y k = 0 from if_neg (fun z2 => by have := z2.2; omega)]
            rfl
          · refine c_Cells_add CA_18 (od S k) o2 ?_ eo
            refine at81 (wa hd 19 (od S k) (hd.2 19 (od S k) + 1)) (hsd.t (Sm.wa _ _ (by decide))) (wa_o _ _ _ _ (by decide)) (fun q hq => ?_)
            rw [hsu, show hA S (od S) y k = 1 from if_pos ⟨hst, by omega⟩]
            by_cases z1 : q = od S k
            · subst z1
              rw [wa_s, hbd _ o2, if_pos rfl, if_pos rfl]
              exact iI_1 rfl
            · rw [wa_n _ _ _ _ z1, hbd q hq, if_neg (fun z => z1 z.symm), if_neg (fun z => z1 z.symm)]
      refine inner 48 (fst S (od S k)).toNat hc _ (by omega) (by omega) (by omega) hs (fun l hl => ?_) (fun q hq => ?_) (congrArg iI (by omega))
      · rw [ha l hl]
        by_cases z1 : l < (fst S (od S k)).toNat
        · rw [if_pos z1, cn_f (fun z2 => by have := (stn_fl hl).mp z2; omega)]
        · rw [if_neg z1]
      · rw [hb q hq, show sm (fun l => hA S (od S) l k) (fst S (od S k)).toNat = 0 from sm_zero.mpr (fun l hl => if_neg (fun z2 => by have := (stn_fl (show l < 48 by omega)).mp z2.1; omega))]
        congr 2
        split <;> rfl
  refine outer (S 1).toNat 0 h2 _ _ _ _ (by omega) (by omega) ((hs1.mo (by decide) (by decide)).t (hs2.mo (by decide) (by decide))) (fun y hy => ?_) (fun p hp => ?_) rfl
  · rw [hs2.2 _ (by decide), hz1 y hy]; rfl
  · rw [hz2 p hp]
    exact (congrArg (fun z : Nat => iI (z : Int)) (sm_zero (f := fun l => hR S (od S) l 0 p).mpr (fun l _ => rfl))).symm
theorem c_Surv_isHidden_1 {B : Nat → Nat} {x : Int32} {h : St} {Q : Option Value → St → Prop} (hB : ∀ p, p < 20 → h.2 19 p = iI (B p : Nat) ∧ B p < 2000) (p : Nat) (hp : p < 20) (hQ : Q (some (.int (bI (0 < B p)))) h) (hx : x = iI p) : SC y_Surv_isHidden [.ref 15, .int x] h Q := by
  refine w_call IS_ok [] ok_Surv_isHidden rfl rfl ?_
  refine c_Cells_get1 CA_18 p hp ?_ hx
  have := hB p hp
  refine w_le (B p : Nat) 0 (fun g => ?_) (fun g => ?_) this.1 rfl
  · rw [bI_f (by omega)] at hQ
    exact ⟨Or.inl rfl, hQ⟩
  · rw [bI_t (by omega)] at hQ
    exact ⟨Or.inr rfl, hQ⟩

set_option maxHeartbeats 2000000 in
theorem c_Surv_look_24 {b : Int} {S : Nat → Int} {h : St} {Q : Option Value → St → Prop} (hC : CS 24 S h) (hG : WG b S) (hQ : ∀ h', Sm [] [33, 35] h h' → (∀ y, y < 48 → h'.2 33 y = iI (cn S (od S) y (S 1).toNat : Nat)) → (∀ p, p < 20 → h'.2 35 p = iI (hT S (od S) (S 1).toNat 48 p : Nat)) → Q none h') : SC y_Surv_look [.ref 31, .ref 24] h Q := by
  obtain ⟨g0, g1, g2, g3, g4, g5, god, ginj, gy, gc⟩ := id hG
  refine w_call IS_ok [18] ok_Surv_look rfl rfl ?_
  refine c_Cells_fill CA_32 (fun h1 hs1 hz1 => ?_)
  refine c_Cells_fill CA_34 (fun h2 hs2 hz2 => ?_)
  have outer : ∀ (m k : Nat) (hc : St) (z : Int32) (L3 L4 L5 : Option Value), (S 1).toNat ≤ k + m → k ≤ (S 1).toNat → Sm [] [33, 35] h hc → (∀ y : Nat, y < 48 → hc.2 33 y = iI (cn S (od S) y k : Nat)) → (∀ p, p < 20 → hc.2 35 p = iI (sm (fun l => hR S (od S) l k p) 48 : Nat)) → z = iI k → SR y_Surv_look 18 [some (.ref 31), some (.ref 24), some (.int z), L3, L4, L5] [] hc Q := by
    intro m
    induction m with
    | zero =>
      intro k hc z L3 L4 L5 hm hk hs ha hb hz
      have : k = (S 1).toNat := by omega
      subst this
      refine w_loop IS_ok [18] ok_Surv_look ?_
      exact w_le (S 1) (S 1).toNat (fun _ => hQ hc hs ha hb) (fun _ => by omega) ((hs.1 _ _ (by decide)).trans hC.1.1) hz
    | succ m ih =>
      intro k hc z L3 L4 L5 hm hk hs ha hb hz
      have hCc : CS 24 S hc := hC.sm hs (by decide) (by decide)
      refine w_loop IS_ok [18, 49] ok_Surv_look ?_
      refine w_le (S 1) k (fun g => ?_) (fun g => ?_) hCc.1.1 hz
      · have : k = (S 1).toNat := by omega
        subst this
        exact hQ hc hs ha hb
      obtain ⟨o1, o2, o3⟩ := god k (by omega)
      have hy := gy _ o2
      have hf := fst_b hy
      have hl := lst_b hy
      refine c_Cells_get1 CA_29 k (by omega) ?_ hz
      have eo : hc.2 30 k = iI (od S k : Nat) := (hCc.2.2.1 k (by omega)).trans (congrArg iI o1)
      refine c_Scene_lastLine_24 hCc (od S k) o2 (by omega) hy ?_ eo
      refine c_Scene_firstLine_24 hCc (od S k) o2 hy ?_ eo
      have done : ∀ (y : Nat) (hd : St) (z5 : Int32), lst S (od S k) < y → fst S (od S k) ≤ y → y ≤ 48 → Sm [] [33, 35] h hd → (∀ l, l < 48 → hd.2 33 l = iI ((if l < y then cn S (od S) l (k + 1) else cn S (od S) l k : Nat) : Nat)) → (∀ q, q < 20 → hd.2 35 q = iI ((sm (fun l => hR S (od S) l k q) 48 + (if od S k = q then sm (fun l => hA S (od S) l k) y else 0) : Nat) : Nat)) → SR y_Surv_look 97 [some (.ref 31), some (.ref 24), some (.int z), some (.int (hc.2 30 k)), some (.int (iI (lst S (od S k)))), some (.int z5)] [] hd Q := by
        intro y hd z5 hyl hyf hy48 hsd had hbd
        refine w_loop IS_ok [18] ok_Surv_look ?_
        refine ih (k + 1) hd _ _ _ _ (by omega) (by omega) hsd (fun l hl => ?_) (fun q hq => ?_) (iI_1 hz)
        · rw [had l hl]
          by_cases z1 : l < y
          · rw [if_pos z1]
          · rw [if_neg z1, cn_f (fun z2 => by have := (stn_fl hl).mp z2; omega)]
        · rw [hbd q hq, smR, sm_tail (f := fun l => hA S (od S) l k) (y := y) (m := 48) hy48 (fun l h1 h2 => if_neg (fun z2 => by have := (stn_fl h2).mp z2.1; omega))]
      have inner : ∀ (m y : Nat) (hd : St) (z5 : Int32), 48 ≤ y + m → fst S (od S k) ≤ y → y ≤ 48 → Sm [] [33, 35] h hd → (∀ l, l < 48 → hd.2 33 l = iI ((if l < y then cn S (od S) l (k + 1) else cn S (od S) l k : Nat) : Nat)) → (∀ q, q < 20 → hd.2 35 q = iI ((sm (fun l => hR S (od S) l k q) 48 + (if od S k = q then sm (fun l => hA S (od S) l k) y else 0) : Nat) : Nat)) → z5 = iI y → SR y_Surv_look 49 [some (.ref 31), some (.ref 24), some (.int z), some (.int (hc.2 30 k)), some (.int (iI (lst S (od S k)))), some (.int z5)] [] hd Q := by
        intro m
        induction m with
        | zero =>
          intro y hd z5 hm2 hyf hy48 hsd had hbd hz5
          refine w_loop IS_ok [97] ok_Surv_look ?_
          exact w_lt (lst S (od S k)) y (fun g => done y hd z5 g hyf hy48 hsd had hbd) (fun _ => by omega) rfl hz5
        | succ m ih2 =>
          intro y hd z5 hm2 hyf hy48 hsd had hbd hz5
          refine w_loop IS_ok [81, 97] ok_Surv_look ?_
          refine w_lt (lst S (od S k)) y (fun g => done y hd z5 g hyf hy48 hsd had hbd) (fun g => ?_) rfl hz5
          have hy47 : y < 48 := by omega
          have hst : stn S (od S k) y := (stn_fl hy47).mpr ⟨hyf, g⟩
          have hcn := cn_le S (od S) y k
          have hct := cn_t (o := od S) (k := k) hst
          have at81 : ∀ (he : St), Sm [] [33, 35] h he → he.2 33 = hd.2 33 → (∀ q, q < 20 → he.2 35 q = iI ((sm (fun l => hR S (od S) l k q) 48 + (if od S k = q then sm (fun l => hA S (od S) l k) (y + 1) else 0) : Nat) : Nat)) → SR y_Surv_look 81 [some (.ref 31), some (.ref 24), some (.int z), some (.int (hc.2 30 k)), some (.int (iI (lst S (od S k)))), some (.int z5)] [] he Q := by
            intro he hse hae hbe
            refine w_loop IS_ok [49] ok_Surv_look ?_
            refine c_Cells_add CA_32 y hy47 ?_ hz5
            refine ih2 (y + 1) (wa he 33 y (he.2 33 y + 1)) _ (by omega) (by omega) (by omega) (hse.t (Sm.wa _ _ (by decide))) (fun l hl => ?_) (fun q hq => ?_) (iI_1 hz5)
            · by_cases z1 : l = y
              · subst z1
                rw [wa_s, hae, had l hl, if_neg (by omega), if_pos (by omega), hct]
                exact iI_1 rfl
              · rw [wa_n _ _ _ _ z1, hae, had l hl]
                by_cases z2 : l < y
                · rw [if_pos z2, if_pos (by omega)]
                · rw [if_neg z2, if_neg (by omega)]
            · rw [wa_o _ _ _ _ (by decide)]
              exact hbe q hq
          refine c_Cells_get1 CA_32 y hy47 ?_ hz5
          have hCd : CS 24 S hd := hC.sm hsd (by decide) (by decide)
          have es : hd.2 33 y = iI (cn S (od S) y k : Nat) := by rw [had y hy47, if_neg (by omega)]
          have hsu : sm (fun l => hA S (od S) l k) (y + 1) = sm (fun l => hA S (od S) l k) y + hA S (od S) y k := rfl
          refine w_lt (cn S (od S) y k : Nat) (S 2) (fun g2 => ?_) (fun g2 => ?_) es hCd.1.2.2.1
          · refine at81 hd hsd rfl (fun q hq => ?_)
            rw [hbd q hq, hsu, show hA S (od S) y k = 0 from if_neg (fun z2 => by have := z2.2; omega)]
            rfl
          · refine c_Cells_add CA_34 (od S k) o2 ?_ eo
            refine at81 (wa hd 35 (od S k) (hd.2 35 (od S k) + 1)) (hsd.t (Sm.wa _ _ (by decide))) (wa_o _ _ _ _ (by decide)) (fun q hq => ?_)
            rw [hsu, show hA S (od S) y k = 1 from if_pos ⟨hst, by omega⟩]
            by_cases z1 : q = od S k
            · subst z1
              rw [wa_s, hbd _ o2, if_pos rfl, if_pos rfl]
              exact iI_1 rfl
            · rw [wa_n _ _ _ _ z1, hbd q hq, if_neg (fun z => z1 z.symm), if_neg (fun z => z1 z.symm)]
      refine inner 48 (fst S (od S k)).toNat hc _ (by omega) (by omega) (by omega) hs (fun l hl => ?_) (fun q hq => ?_) (congrArg iI (by omega))
      · rw [ha l hl]
        by_cases z1 : l < (fst S (od S k)).toNat
        · rw [if_pos z1, cn_f (fun z2 => by have := (stn_fl hl).mp z2; omega)]
        · rw [if_neg z1]
      · rw [hb q hq, show sm (fun l => hA S (od S) l k) (fst S (od S k)).toNat = 0 from sm_zero.mpr (fun l hl => if_neg (fun z2 => by have := (stn_fl (show l < 48 by omega)).mp z2.1; omega))]
        congr 2
        split <;> rfl
  refine outer (S 1).toNat 0 h2 _ _ _ _ (by omega) (by omega) ((hs1.mo (by decide) (by decide)).t (hs2.mo (by decide) (by decide))) (fun y hy => ?_) (fun p hp => ?_) rfl
  · rw [hs2.2 _ (by decide), hz1 y hy]; rfl
  · rw [hz2 p hp]
    exact (congrArg (fun z : Nat => iI (z : Int)) (sm_zero (f := fun l => hR S (od S) l 0 p).mpr (fun l _ => rfl))).symm
theorem c_Surv_isHidden_24 {B : Nat → Nat} {x : Int32} {h : St} {Q : Option Value → St → Prop} (hB : ∀ p, p < 20 → h.2 35 p = iI (B p : Nat) ∧ B p < 2000) (p : Nat) (hp : p < 20) (hQ : Q (some (.int (bI (0 < B p)))) h) (hx : x = iI p) : SC y_Surv_isHidden [.ref 31, .int x] h Q := by
  refine w_call IS_ok [] ok_Surv_isHidden rfl rfl ?_
  refine c_Cells_get1 CA_34 p hp ?_ hx
  have := hB p hp
  refine w_le (B p : Nat) 0 (fun g => ?_) (fun g => ?_) this.1 rfl
  · rw [bI_f (by omega)] at hQ
    exact ⟨Or.inl rfl, hQ⟩
  · rw [bI_t (by omega)] at hQ
    exact ⟨Or.inr rfl, hQ⟩
end
section
/-! the class: a frame -/
theorem CS.cnt {a p : Nat} {S S' : Nat → Int} {h h' : St} (hC : CS a S h) (hn20 : (S 1).toNat ≤ 20) (hp : p < 20) (h1 : ∀ k, h'.1 a k = h.1 a k) (h2 : h'.2 (a + 2) = h.2 (a + 2)) (h6 : h'.2 (a + 6) = h.2 (a + 6)) (hr : ∀ i, (∀ j, j < 3 → i ≠ p * 10 + (7 + j)) → h'.2 (a + 4) i = h.2 (a + 4) i) (hn : ∀ j, j < 3 → h'.2 (a + 4) (p * 10 + (7 + j)) = iI (S' (26 + 9 * p + (6 + j)))) (hs : ∀ i, (∀ j, j < 3 → i ≠ 26 + 9 * p + (6 + j)) → S' i = S i) : CS a S' h' := by
  obtain ⟨⟨a1, a2, a3, a4, a5, a6⟩, b, c, d, f, g⟩ := hC
  have e : ∀ i, (i < 26 ∨ 206 ≤ i) → S' i = S i := fun i hi => hs i (fun j hj => by omega)
  refine ⟨⟨by rw [h1, e 1 (by omega)]; exact a1, by rw [h1, e 0 (by omega)]; exact a2, by rw [h1, e 2 (by omega)]; exact a3, by rw [h1, e 3 (by omega)]; exact a4, by rw [h1, e 4 (by omega)]; exact a5, by rw [h1, e 5 (by omega)]; exact a6⟩, fun i hi => by rw [h2, e _ (by omega)]; exact b i hi, fun k hk => ?_, fun q hq j hj => ?_, fun q hq h0 => ?_, fun q hq j hj => ?_⟩
  · rw [e 1 (by omega)] at hk
    rw [h6, hs (6 + k) (fun j hj => by omega)]
    exact c k hk
  · rw [hr _ (fun i hi => by omega), hs _ (fun i hi => by omega)]
    exact d q hq j hj
  · rw [e 0 (by omega)] at h0
    rw [hr _ (fun i hi => by omega)]
    have := f q hq h0
    unfold hgh at this ⊢
    rw [hs _ (fun i hi => by omega)]
    exact this
  · by_cases z : q = p
    · subst z; exact hn j hj
    · rw [hr _ (fun i hi => by omega), hs _ (fun i hi => by omega)]
      exact g q hq j hj
theorem CS.mk2 {a : Nat} {F S' : Nat → Int} {h h' : St} (hC : CS a F h) (h2 : h'.2 (a + 2) = h.2 (a + 2)) (h4 : h'.2 (a + 4) = h.2 (a + 4)) (hf : h'.1 a 3 = iI (S' 1) ∧ h'.1 a 4 = iI (S' 0) ∧ h'.1 a 5 = iI (S' 2) ∧ h'.1 a 6 = iI (S' 3) ∧ h'.1 a 7 = iI (S' 4) ∧ h'.1 a 8 = iI (S' 5)) (ho : ∀ k, k < (S' 1).toNat → h'.2 (a + 6) k = iI (S' (6 + k))) (h0 : S' 0 = F 0) (hs : ∀ i, 26 ≤ i → S' i = F i) : CS a S' h' := by
  obtain ⟨-, b, -, d, f, g⟩ := hC
  refine ⟨hf, fun i hi => by rw [h2, hs _ (by omega)]; exact b i hi, ho, fun p hp j hj => by rw [h4, hs _ (by omega)]; exact d p hp j hj, fun p hp hp0 => ?_, fun p hp j hj => by rw [h4, hs _ (by omega)]; exact g p hp j hj⟩
  rw [h0] at hp0
  have := f p hp hp0
  unfold hgh at this ⊢
  rw [h4, hs _ (by omega)]
  exact this
theorem fl_mid {A C : List Nat} {x k : Nat} : fl (A ++ ([x] ++ C)) k = if k < A.length then fl (A ++ C) k else if k = A.length then x else fl (A ++ C) (k - 1) := by
  unfold fl
  simp only [List.getD_eq_getElem?_getD]
  by_cases h1 : k < A.length
  · rw [if_pos h1, List.getElem?_append_left h1, List.getElem?_append_left h1]
  · rw [if_neg h1, List.getElem?_append_right (by omega)]
    by_cases h2 : k = A.length
    · rw [if_pos h2, h2, Nat.sub_self]; rfl
    · rw [if_neg h2, List.getElem?_append_right (show [x].length ≤ k - A.length by simp; omega), List.getElem?_append_right (by omega)]
      congr 2
      simp
      omega

theorem c_Scene_countHidden_1 {T : Nat → Int} {B : Nat → Nat} {x : Int32} {h : St} {Q : Option Value → St → Prop} (hC : CS 1 T h) (hn20 : (T 1).toNat ≤ 20) (hB : ∀ p, p < 20 → h.2 19 p = iI (B p : Nat) ∧ B p < 2000) (p : Nat) (hp : p < 20) (hb : ∀ j, j < 3 → 0 ≤ T (26 + 9 * p + (6 + j)) ∧ T (26 + 9 * p + (6 + j)) ≤ 20000) (hQ : ∀ h', Sm [] [5] h h' → CS 1 (frP T (decide (0 < B p)) p) h' → Q none h') (hx : x = iI p) : SC y_Scene_countHidden [.ref 1, .int x, .ref 15] h Q := by
  refine w_call IS_ok [] ok_Scene_countHidden rfl rfl ?_
  refine c_Surv_isHidden_1 hB p hp ?_ hx
  have b0 := hb 0 (by omega)
  have b1 := hb 1 (by omega)
  have b2 := hb 2 (by omega)
  have g0 := hC.2.2.2.2.2 p hp 0 (by omega)
  have g1 := hC.2.2.2.2.2 p hp 1 (by omega)
  have g2 := hC.2.2.2.2.2 p hp 2 (by omega)
  refine w_b (fun g => ?_) (fun g => ?_)
  · refine c_Cells_set3 CA_4 p 8 (by omega) ?_ hx rfl
    have hs : Sm [] [5] h (wa h 5 (p * 10 + 8) 0) := Sm.wa _ _ (by decide)
    rw [decide_eq_false g] at hQ
    refine hQ _ hs (hC.cnt hn20 hp (fun _ => rfl) (wa_o _ _ _ _ (by decide)) (wa_o _ _ _ _ (by decide)) (fun i hi => wa_n _ _ _ _ (hi 1 (by omega))) (fun j hj => ?_) (fun i hi => frP_o (hi 0 (by omega)) (hi 1 (by omega)) (hi 2 (by omega))))
    have : j = 0 ∨ j = 1 ∨ j = 2 := by omega
    rcases this with rfl | rfl | rfl
    · rw [wa_n _ _ _ _ (by omega)]
      refine g0.trans (congrArg iI ?_)
      unfold frP
      rw [u1_n _ _ (by omega), u1_n _ _ (by omega), u1_s]
      simp
    · refine (wa_s _ _ _ _).trans ?_
      show iI 0 = _
      congr 1
      unfold frP
      rw [u1_n _ _ (by omega), u1_s]
      rfl
    · rw [wa_n _ _ _ _ (by omega)]
      refine g2.trans (congrArg iI ?_)
      unfold frP
      rw [u1_s]
      exact (if_pos b2.1).symm
  · refine c_Cells_get2 CA_4 p 8 (by omega) ?_ hx rfl
    have e1 : h.2 5 (p * 10 + 8) + 1 = iI (T (26 + 9 * p + 7) + 1) := (congrArg (· + 1) g1).trans (iI_add _ 1)
    refine c_Cells_set3 CA_4 p 8 (by omega) ?_ hx rfl
    refine c_Cells_get2 CA_4 p 9 (by omega) ?_ hx rfl
    refine c_J_max (T (26 + 9 * p + 8)) (T (26 + 9 * p + 7) + 1) ?_ ?_ e1 (by have : T (26 + 9 * p + (6 + 2)) = T (26 + 9 * p + 8) := rfl; omega) (by have : T (26 + 9 * p + (6 + 1)) = T (26 + 9 * p + 7) := rfl; omega)
    rotate_left
    · rw [wa_n _ _ _ _ (by omega)]; exact g2
    refine c_Cells_set3 CA_4 p 9 (by omega) ?_ hx rfl
    refine c_Cells_get2 CA_4 p 7 (by omega) ?_ hx rfl
    refine c_Cells_set3 CA_4 p 7 (by omega) ?_ hx rfl
    rw [decide_eq_true g] at hQ
    refine hQ _ (((Sm.wa _ _ (by decide)).t (Sm.wa _ _ (by decide))).t (Sm.wa _ _ (by decide))) (hC.cnt hn20 hp (fun _ => rfl) ?_ ?_ (fun i hi => ?_) (fun j hj => ?_) (fun i hi => frP_o (hi 0 (by omega)) (hi 1 (by omega)) (hi 2 (by omega))))
    · rw [wa_o _ _ _ _ (by decide), wa_o _ _ _ _ (by decide), wa_o _ _ _ _ (by decide)]
    · rw [wa_o _ _ _ _ (by decide), wa_o _ _ _ _ (by decide), wa_o _ _ _ _ (by decide)]
    · rw [wa_n _ _ _ _ (hi 0 (by omega)), wa_n _ _ _ _ (hi 2 (by omega)), wa_n _ _ _ _ (hi 1 (by omega))]
    · have : j = 0 ∨ j = 1 ∨ j = 2 := by omega
      rcases this with rfl | rfl | rfl
      · refine (wa_s _ _ _ _).trans ?_
        rw [wa_n _ _ _ _ (by omega), wa_n _ _ _ _ (by omega)]
        refine (congrArg (· + 1) g0).trans ((iI_add _ 1).trans (congrArg iI ?_))
        unfold frP
        rw [u1_n _ _ (by omega), u1_n _ _ (by omega), u1_s]
        rfl
      · rw [wa_n _ _ _ _ (by omega), wa_n _ _ _ _ (by omega)]
        refine (wa_s _ _ _ _).trans (e1.trans (congrArg iI ?_))
        unfold frP
        rw [u1_n _ _ (by omega), u1_s]
        rfl
      · rw [wa_n _ _ _ _ (by omega)]
        refine (wa_s _ _ _ _).trans (congrArg iI ?_)
        unfold frP
        rw [u1_s]
        rfl
theorem c_Scene_rotate_1 {n s : Nat} {o : Nat → Nat} {h : St} {Q : Option Value → St → Prop} (h3 : h.1 1 3 = iI n) (h7 : h.1 1 7 = iI s) (hn : n ≤ 20) (hs : s ≤ 19) (ho : ∀ k, k < n → h.2 7 k = iI (o k : Nat)) (hQ : ∀ h', Sm [] [7] h h' → (∀ k, k < n → h'.2 7 k = iI (o ((k + s) % n) : Nat)) → Q none h') : SC y_Scene_rotate [.ref 1] h Q := by
  refine w_call IS_ok [23] ok_Scene_rotate rfl rfl ?_
  have fin : ∀ (hc : St), Sm [] [7] h hc → (∀ k, k < n → hc.2 7 k = iI (o ((k + s % n) % n) : Nat)) → Q none hc := by
    intro hc hsm hr
    refine hQ hc hsm (fun k hk => ?_)
    rw [hr k hk, Nat.add_mod_mod]
  have loop : ∀ (m t : Nat) (hc : St) (z1 z2 : Int32), s % n ≤ t + m → t ≤ s % n → (0 < s % n → 0 < n) → Sm [] [7] h hc → (∀ k, k < n → hc.2 7 k = iI (o ((k + t) % n) : Nat)) → z1 = iI (s % n : Nat) → z2 = iI t → s % n < 20 → SR y_Scene_rotate 23 [some (.ref 1), some (.int z1), some (.int z2)] [] hc Q := by
    intro m
    induction m with
    | zero =>
      intro t hc z1 z2 hm ht h0 hsm hr e1 e2 h20
      have : t = s % n := by omega
      subst this
      refine w_loop IS_ok [23] ok_Scene_rotate ?_
      exact w_le (s % n : Nat) (s % n : Nat) (fun _ => fin hc hsm hr) (fun _ => by omega) e1 e2
    | succ m ih =>
      intro t hc z1 z2 hm ht h0 hsm hr e1 e2 h20
      refine w_loop IS_ok [23] ok_Scene_rotate ?_
      refine w_le (s % n : Nat) t (fun g => ?_) (fun g => ?_) e1 e2
      · have : t = s % n := by omega
        subst this
        exact fin hc hsm hr
      have hn0 : 0 < n := h0 (by omega)
      refine c_Scene_shiftInOrder_1 0 (n - 1) (by omega) (by omega) (fun h' hs' hr' => ?_) rfl (iI_q ((hsm.1 _ _ (by decide)).trans h3) hn0)
      refine ih (t + 1) h' _ _ (by omega) (by omega) h0 (hsm.t hs') (fun k hk => ?_) e1 (iI_1 e2) h20
      rw [hr' k (by omega)]
      unfold shf
      by_cases z1 : k = n - 1
      · rw [if_pos z1, hr 0 hn0]
        congr 3
        rw [show k + (t + 1) = t + n by omega, Nat.add_mod_right, Nat.zero_add]
      · rw [if_neg z1, if_pos (by omega), hr (k + 1) (by omega)]
        congr 4
        omega
  refine w_le n 0 (fun g => ?_) (fun g => ?_) h3 rfl
  · have : n = 0 := by omega
    subst this
    refine w_loop IS_ok [23] ok_Scene_rotate ?_
    refine w_le 0 0 (fun _ => ?_) (fun _ => by omega) rfl rfl
    exact hQ h Sm.rf (fun k hk => by omega)
  · refine ⟨fun z => ?_, ?_⟩
    · have z2 := (iI_eq (a := n) (b := 0) (by omega) (by omega)).mp (h3.symm.trans z)
      omega
    · have e := modr h7 h3 (by omega) (by omega) (by omega)
      have hlt := Nat.mod_lt s (show n > 0 by omega)
      refine loop 20 0 h _ _ (by omega) (by omega) (fun _ => by omega) Sm.rf (fun k hk => ?_) e rfl (by omega)
      rw [Nat.add_zero, Nat.mod_eq_of_lt hk]
      exact ho k hk
theorem c_Scene_bringHidden_1 {n : Nat} {o B : Nat → Nat} {h : St} {Q : Option Value → St → Prop} (hB : ∀ p, p < 20 → h.2 19 p = iI (B p : Nat) ∧ B p < 2000) (h3 : h.1 1 3 = iI n) (hn : n ≤ 20) (ho : ∀ k, k < n → h.2 7 k = iI (o k : Nat) ∧ o k < 20) (hQ : ∀ h', Sm [] [7] h h' → (∀ k, k < n → h'.2 7 k = iI (fl ((ol o n).filter (fun p => decide (0 < B p)) ++ (ol o n).filter (fun p => !decide (0 < B p))) k : Nat)) → Q none h') : SC y_Scene_bringHidden [.ref 1, .ref 15] h Q := by
  refine w_call IS_ok [4] ok_Scene_bringHidden rfl rfl ?_
  have loop : ∀ (m t : Nat) (hc : St) (z2 z3 : Int32), n ≤ t + m → t ≤ n → Sm [] [7] h hc → (∀ k, k < t → hc.2 7 k = iI (fl ((ol o t).filter (fun p => decide (0 < B p)) ++ (ol o t).filter (fun p => !decide (0 < B p))) k : Nat)) → (∀ k, t ≤ k → k < n → hc.2 7 k = iI (o k : Nat)) → z2 = iI (((ol o t).filter (fun p => decide (0 < B p))).length : Nat) → z3 = iI t → SR y_Scene_bringHidden 4 [some (.ref 1), some (.ref 15), some (.int z2), some (.int z3)] [] hc Q := by
    intro m
    induction m with
    | zero =>
      intro t hc z2 z3 hm ht hsm hr hr2 e2 e3
      have : t = n := by omega
      subst this
      refine w_loop IS_ok [4] ok_Scene_bringHidden ?_
      exact w_le t t (fun _ => hQ hc hsm hr) (fun _ => by omega) ((hsm.1 _ _ (by decide)).trans h3) e3
    | succ m ih =>
      intro t hc z2 z3 hm ht hsm hr hr2 e2 e3
      refine w_loop IS_ok [4] ok_Scene_bringHidden ?_
      refine w_le n t (fun g => ?_) (fun g => ?_) ((hsm.1 _ _ (by decide)).trans h3) e3
      · have : t = n := by omega
        subst this
        exact hQ hc hsm hr
      have htn : t < n := by omega
      refine c_Cells_get1 CA_6 t (by omega) ?_ e3
      have hot := hr2 t (Nat.le_refl _) htn
      have hB2 : ∀ p, p < 20 → hc.2 19 p = iI (B p : Nat) ∧ B p < 2000 := fun p hp => by rw [hsm.2 _ (by decide)]; exact hB p hp
      refine c_Surv_isHidden_1 hB2 (o t) (ho t htn).2 ?_ hot
      have hlen := (filt_perm (fun p => decide (0 < B p)) (ol o t)).length_eq
      rw [List.length_append, ol_len] at hlen
      have es := ol_s o t
      refine w_b (fun g2 => ?_) (fun g2 => ?_)
      · have f1 : (ol o (t + 1)).filter (fun p => decide (0 < B p)) = (ol o t).filter (fun p => decide (0 < B p)) := by rw [es, List.filter_append]; simp [g2]
        have f2 : (ol o (t + 1)).filter (fun p => !decide (0 < B p)) = (ol o t).filter (fun p => !decide (0 < B p)) ++ [o t] := by rw [es, List.filter_append]; simp [g2]
        refine ih (t + 1) hc _ _ (by omega) (by omega) hsm (fun k hk => ?_) (fun k h1 h2 => hr2 k (by omega) h2) (by rw [f1]; exact e2) (iI_1 e3)
        rw [f1, f2, ← List.append_assoc]
        by_cases z : k = t
        · subst z
          rw [hot, fl_end (by rw [List.length_append]; omega)]
        · rw [fl_app (by rw [List.length_append]; omega)]
          exact hr k (by omega)
      · have f1 : (ol o (t + 1)).filter (fun p => decide (0 < B p)) = (ol o t).filter (fun p => decide (0 < B p)) ++ [o t] := by rw [es, List.filter_append]; simp [g2]
        have f2 : (ol o (t + 1)).filter (fun p => !decide (0 < B p)) = (ol o t).filter (fun p => !decide (0 < B p)) := by rw [es, List.filter_append]; simp [g2]
        refine c_Scene_shiftInOrder_1 t ((ol o t).filter (fun p => decide (0 < B p))).length (by omega) (by omega) (fun h' hs' hr' => ?_) e3 e2
        refine ih (t + 1) h' _ _ (by omega) (by omega) (hsm.t hs') (fun k hk => ?_) (fun k h1 h2 => ?_) (by rw [f1, List.length_append]; exact iI_1 e2) (iI_1 e3)
        · rw [f1, f2, List.append_assoc, fl_mid, hr' k (by omega)]
          unfold shf
          by_cases z1 : k = ((ol o t).filter (fun p => decide (0 < B p))).length
          · rw [if_pos z1, if_neg (by omega), if_pos z1]
            exact hot
          · rw [if_neg z1, if_neg (by omega), if_neg z1]
            by_cases z2 : k < ((ol o t).filter (fun p => decide (0 < B p))).length
            · rw [if_neg (by omega), if_pos z2]
              exact hr k (by omega)
            · rw [if_pos (by omega), if_neg z2]
              exact hr (k - 1) (by omega)
        · rw [hr' k (by omega)]
          unfold shf
          rw [if_neg (by omega), if_neg (by omega), if_neg (by omega)]
          exact hr2 k (by omega) h2
  exact loop n 0 h _ _ (by omega) (by omega) Sm.rf (fun k hk => by omega) (fun k _ hk => (ho k hk).1) rfl rfl

theorem c_Scene_countHidden_24 {T : Nat → Int} {B : Nat → Nat} {x : Int32} {h : St} {Q : Option Value → St → Prop} (hC : CS 24 T h) (hn20 : (T 1).toNat ≤ 20) (hB : ∀ p, p < 20 → h.2 35 p = iI (B p : Nat) ∧ B p < 2000) (p : Nat) (hp : p < 20) (hb : ∀ j, j < 3 → 0 ≤ T (26 + 9 * p + (6 + j)) ∧ T (26 + 9 * p + (6 + j)) ≤ 20000) (hQ : ∀ h', Sm [] [28] h h' → CS 24 (frP T (decide (0 < B p)) p) h' → Q none h') (hx : x = iI p) : SC y_Scene_countHidden [.ref 24, .int x, .ref 31] h Q := by
  refine w_call IS_ok [] ok_Scene_countHidden rfl rfl ?_
  refine c_Surv_isHidden_24 hB p hp ?_ hx
  have b0 := hb 0 (by omega)
  have b1 := hb 1 (by omega)
  have b2 := hb 2 (by omega)
  have g0 := hC.2.2.2.2.2 p hp 0 (by omega)
  have g1 := hC.2.2.2.2.2 p hp 1 (by omega)
  have g2 := hC.2.2.2.2.2 p hp 2 (by omega)
  refine w_b (fun g => ?_) (fun g => ?_)
  · refine c_Cells_set3 CA_27 p 8 (by omega) ?_ hx rfl
    have hs : Sm [] [28] h (wa h 28 (p * 10 + 8) 0) := Sm.wa _ _ (by decide)
    rw [decide_eq_false g] at hQ
    refine hQ _ hs (hC.cnt hn20 hp (fun _ => rfl) (wa_o _ _ _ _ (by decide)) (wa_o _ _ _ _ (by decide)) (fun i hi => wa_n _ _ _ _ (hi 1 (by omega))) (fun j hj => ?_) (fun i hi => frP_o (hi 0 (by omega)) (hi 1 (by omega)) (hi 2 (by omega))))
    have : j = 0 ∨ j = 1 ∨ j = 2 := by omega
    rcases this with rfl | rfl | rfl
    · rw [wa_n _ _ _ _ (by omega)]
      refine g0.trans (congrArg iI ?_)
      unfold frP
      rw [u1_n _ _ (by omega), u1_n _ _ (by omega), u1_s]
      simp
    · refine (wa_s _ _ _ _).trans ?_
      show iI 0 = _
      congr 1
      unfold frP
      rw [u1_n _ _ (by omega), u1_s]
      rfl
    · rw [wa_n _ _ _ _ (by omega)]
      refine g2.trans (congrArg iI ?_)
      unfold frP
      rw [u1_s]
      exact (if_pos b2.1).symm
  · refine c_Cells_get2 CA_27 p 8 (by omega) ?_ hx rfl
    have e1 : h.2 28 (p * 10 + 8) + 1 = iI (T (26 + 9 * p + 7) + 1) := (congrArg (· + 1) g1).trans (iI_add _ 1)
    refine c_Cells_set3 CA_27 p 8 (by omega) ?_ hx rfl
    refine c_Cells_get2 CA_27 p 9 (by omega) ?_ hx rfl
    refine c_J_max (T (26 + 9 * p + 8)) (T (26 + 9 * p + 7) + 1) ?_ ?_ e1 (by have : T (26 + 9 * p + (6 + 2)) = T (26 + 9 * p + 8) := rfl; omega) (by have : T (26 + 9 * p + (6 + 1)) = T (26 + 9 * p + 7) := rfl; omega)
    rotate_left
    · rw [wa_n _ _ _ _ (by omega)]; exact g2
    refine c_Cells_set3 CA_27 p 9 (by omega) ?_ hx rfl
    refine c_Cells_get2 CA_27 p 7 (by omega) ?_ hx rfl
    refine c_Cells_set3 CA_27 p 7 (by omega) ?_ hx rfl
    rw [decide_eq_true g] at hQ
    refine hQ _ (((Sm.wa _ _ (by decide)).t (Sm.wa _ _ (by decide))).t (Sm.wa _ _ (by decide))) (hC.cnt hn20 hp (fun _ => rfl) ?_ ?_ (fun i hi => ?_) (fun j hj => ?_) (fun i hi => frP_o (hi 0 (by omega)) (hi 1 (by omega)) (hi 2 (by omega))))
    · rw [wa_o _ _ _ _ (by decide), wa_o _ _ _ _ (by decide), wa_o _ _ _ _ (by decide)]
    · rw [wa_o _ _ _ _ (by decide), wa_o _ _ _ _ (by decide), wa_o _ _ _ _ (by decide)]
    · rw [wa_n _ _ _ _ (hi 0 (by omega)), wa_n _ _ _ _ (hi 2 (by omega)), wa_n _ _ _ _ (hi 1 (by omega))]
    · have : j = 0 ∨ j = 1 ∨ j = 2 := by omega
      rcases this with rfl | rfl | rfl
      · refine (wa_s _ _ _ _).trans ?_
        rw [wa_n _ _ _ _ (by omega), wa_n _ _ _ _ (by omega)]
        refine (congrArg (· + 1) g0).trans ((iI_add _ 1).trans (congrArg iI ?_))
        unfold frP
        rw [u1_n _ _ (by omega), u1_n _ _ (by omega), u1_s]
        rfl
      · rw [wa_n _ _ _ _ (by omega), wa_n _ _ _ _ (by omega)]
        refine (wa_s _ _ _ _).trans (e1.trans (congrArg iI ?_))
        unfold frP
        rw [u1_n _ _ (by omega), u1_s]
        rfl
      · rw [wa_n _ _ _ _ (by omega)]
        refine (wa_s _ _ _ _).trans (congrArg iI ?_)
        unfold frP
        rw [u1_s]
        rfl
theorem c_Scene_rotate_24 {n s : Nat} {o : Nat → Nat} {h : St} {Q : Option Value → St → Prop} (h3 : h.1 24 3 = iI n) (h7 : h.1 24 7 = iI s) (hn : n ≤ 20) (hs : s ≤ 19) (ho : ∀ k, k < n → h.2 30 k = iI (o k : Nat)) (hQ : ∀ h', Sm [] [30] h h' → (∀ k, k < n → h'.2 30 k = iI (o ((k + s) % n) : Nat)) → Q none h') : SC y_Scene_rotate [.ref 24] h Q := by
  refine w_call IS_ok [23] ok_Scene_rotate rfl rfl ?_
  have fin : ∀ (hc : St), Sm [] [30] h hc → (∀ k, k < n → hc.2 30 k = iI (o ((k + s % n) % n) : Nat)) → Q none hc := by
    intro hc hsm hr
    refine hQ hc hsm (fun k hk => ?_)
    rw [hr k hk, Nat.add_mod_mod]
  have loop : ∀ (m t : Nat) (hc : St) (z1 z2 : Int32), s % n ≤ t + m → t ≤ s % n → (0 < s % n → 0 < n) → Sm [] [30] h hc → (∀ k, k < n → hc.2 30 k = iI (o ((k + t) % n) : Nat)) → z1 = iI (s % n : Nat) → z2 = iI t → s % n < 20 → SR y_Scene_rotate 23 [some (.ref 24), some (.int z1), some (.int z2)] [] hc Q := by
    intro m
    induction m with
    | zero =>
      intro t hc z1 z2 hm ht h0 hsm hr e1 e2 h20
      have : t = s % n := by omega
      subst this
      refine w_loop IS_ok [23] ok_Scene_rotate ?_
      exact w_le (s % n : Nat) (s % n : Nat) (fun _ => fin hc hsm hr) (fun _ => by omega) e1 e2
    | succ m ih =>
      intro t hc z1 z2 hm ht h0 hsm hr e1 e2 h20
      refine w_loop IS_ok [23] ok_Scene_rotate ?_
      refine w_le (s % n : Nat) t (fun g => ?_) (fun g => ?_) e1 e2
      · have : t = s % n := by omega
        subst this
        exact fin hc hsm hr
      have hn0 : 0 < n := h0 (by omega)
      refine c_Scene_shiftInOrder_24 0 (n - 1) (by omega) (by omega) (fun h' hs' hr' => ?_) rfl (iI_q ((hsm.1 _ _ (by decide)).trans h3) hn0)
      refine ih (t + 1) h' _ _ (by omega) (by omega) h0 (hsm.t hs') (fun k hk => ?_) e1 (iI_1 e2) h20
      rw [hr' k (by omega)]
      unfold shf
      by_cases z1 : k = n - 1
      · rw [if_pos z1, hr 0 hn0]
        congr 3
        rw [show k + (t + 1) = t + n by omega, Nat.add_mod_right, Nat.zero_add]
      · rw [if_neg z1, if_pos (by omega), hr (k + 1) (by omega)]
        congr 4
        omega
  refine w_le n 0 (fun g => ?_) (fun g => ?_) h3 rfl
  · have : n = 0 := by omega
    subst this
    refine w_loop IS_ok [23] ok_Scene_rotate ?_
    refine w_le 0 0 (fun _ => ?_) (fun _ => by omega) rfl rfl
    exact hQ h Sm.rf (fun k hk => by omega)
  · refine ⟨fun z => ?_, ?_⟩
    · have z2 := (iI_eq (a := n) (b := 0) (by omega) (by omega)).mp (h3.symm.trans z)
      omega
    · have e := modr h7 h3 (by omega) (by omega) (by omega)
      have hlt := Nat.mod_lt s (show n > 0 by omega)
      refine loop 20 0 h _ _ (by omega) (by omega) (fun _ => by omega) Sm.rf (fun k hk => ?_) e rfl (by omega)
      rw [Nat.add_zero, Nat.mod_eq_of_lt hk]
      exact ho k hk
theorem c_Scene_bringHidden_24 {n : Nat} {o B : Nat → Nat} {h : St} {Q : Option Value → St → Prop} (hB : ∀ p, p < 20 → h.2 35 p = iI (B p : Nat) ∧ B p < 2000) (h3 : h.1 24 3 = iI n) (hn : n ≤ 20) (ho : ∀ k, k < n → h.2 30 k = iI (o k : Nat) ∧ o k < 20) (hQ : ∀ h', Sm [] [30] h h' → (∀ k, k < n → h'.2 30 k = iI (fl ((ol o n).filter (fun p => decide (0 < B p)) ++ (ol o n).filter (fun p => !decide (0 < B p))) k : Nat)) → Q none h') : SC y_Scene_bringHidden [.ref 24, .ref 31] h Q := by
  refine w_call IS_ok [4] ok_Scene_bringHidden rfl rfl ?_
  have loop : ∀ (m t : Nat) (hc : St) (z2 z3 : Int32), n ≤ t + m → t ≤ n → Sm [] [30] h hc → (∀ k, k < t → hc.2 30 k = iI (fl ((ol o t).filter (fun p => decide (0 < B p)) ++ (ol o t).filter (fun p => !decide (0 < B p))) k : Nat)) → (∀ k, t ≤ k → k < n → hc.2 30 k = iI (o k : Nat)) → z2 = iI (((ol o t).filter (fun p => decide (0 < B p))).length : Nat) → z3 = iI t → SR y_Scene_bringHidden 4 [some (.ref 24), some (.ref 31), some (.int z2), some (.int z3)] [] hc Q := by
    intro m
    induction m with
    | zero =>
      intro t hc z2 z3 hm ht hsm hr hr2 e2 e3
      have : t = n := by omega
      subst this
      refine w_loop IS_ok [4] ok_Scene_bringHidden ?_
      exact w_le t t (fun _ => hQ hc hsm hr) (fun _ => by omega) ((hsm.1 _ _ (by decide)).trans h3) e3
    | succ m ih =>
      intro t hc z2 z3 hm ht hsm hr hr2 e2 e3
      refine w_loop IS_ok [4] ok_Scene_bringHidden ?_
      refine w_le n t (fun g => ?_) (fun g => ?_) ((hsm.1 _ _ (by decide)).trans h3) e3
      · have : t = n := by omega
        subst this
        exact hQ hc hsm hr
      have htn : t < n := by omega
      refine c_Cells_get1 CA_29 t (by omega) ?_ e3
      have hot := hr2 t (Nat.le_refl _) htn
      have hB2 : ∀ p, p < 20 → hc.2 35 p = iI (B p : Nat) ∧ B p < 2000 := fun p hp => by rw [hsm.2 _ (by decide)]; exact hB p hp
      refine c_Surv_isHidden_24 hB2 (o t) (ho t htn).2 ?_ hot
      have hlen := (filt_perm (fun p => decide (0 < B p)) (ol o t)).length_eq
      rw [List.length_append, ol_len] at hlen
      have es := ol_s o t
      refine w_b (fun g2 => ?_) (fun g2 => ?_)
      · have f1 : (ol o (t + 1)).filter (fun p => decide (0 < B p)) = (ol o t).filter (fun p => decide (0 < B p)) := by rw [es, List.filter_append]; simp [g2]
        have f2 : (ol o (t + 1)).filter (fun p => !decide (0 < B p)) = (ol o t).filter (fun p => !decide (0 < B p)) ++ [o t] := by rw [es, List.filter_append]; simp [g2]
        refine ih (t + 1) hc _ _ (by omega) (by omega) hsm (fun k hk => ?_) (fun k h1 h2 => hr2 k (by omega) h2) (by rw [f1]; exact e2) (iI_1 e3)
        rw [f1, f2, ← List.append_assoc]
        by_cases z : k = t
        · subst z
          rw [hot, fl_end (by rw [List.length_append]; omega)]
        · rw [fl_app (by rw [List.length_append]; omega)]
          exact hr k (by omega)
      · have f1 : (ol o (t + 1)).filter (fun p => decide (0 < B p)) = (ol o t).filter (fun p => decide (0 < B p)) ++ [o t] := by rw [es, List.filter_append]; simp [g2]
        have f2 : (ol o (t + 1)).filter (fun p => !decide (0 < B p)) = (ol o t).filter (fun p => !decide (0 < B p)) := by rw [es, List.filter_append]; simp [g2]
        refine c_Scene_shiftInOrder_24 t ((ol o t).filter (fun p => decide (0 < B p))).length (by omega) (by omega) (fun h' hs' hr' => ?_) e3 e2
        refine ih (t + 1) h' _ _ (by omega) (by omega) (hsm.t hs') (fun k hk => ?_) (fun k h1 h2 => ?_) (by rw [f1, List.length_append]; exact iI_1 e2) (iI_1 e3)
        · rw [f1, f2, List.append_assoc, fl_mid, hr' k (by omega)]
          unfold shf
          by_cases z1 : k = ((ol o t).filter (fun p => decide (0 < B p))).length
          · rw [if_pos z1, if_neg (by omega), if_pos z1]
            exact hot
          · rw [if_neg z1, if_neg (by omega), if_neg z1]
            by_cases z2 : k < ((ol o t).filter (fun p => decide (0 < B p))).length
            · rw [if_neg (by omega), if_pos z2]
              exact hr k (by omega)
            · rw [if_pos (by omega), if_neg z2]
              exact hr (k - 1) (by omega)
        · rw [hr' k (by omega)]
          unfold shf
          rw [if_neg (by omega), if_neg (by omega), if_neg (by omega)]
          exact hr2 k (by omega) h2
  exact loop n 0 h _ _ (by omega) (by omega) Sm.rf (fun k hk => by omega) (fun k _ hk => (ho k hk).1) rfl rfl
end
section
/-! the class: a frame, whole -/
theorem frC_bnd {S : Nat → Int} {hd : Nat → Bool} {b : Int} (h : ∀ p, p < 20 → ∀ j, j < 3 → 0 ≤ S (26 + 9 * p + (6 + j)) ∧ S (26 + 9 * p + (6 + j)) ≤ b) : ∀ (k : Nat), ∀ p, p < 20 → ∀ j, j < 3 → 0 ≤ frC S hd k (26 + 9 * p + (6 + j)) ∧ frC S hd k (26 + 9 * p + (6 + j)) ≤ b + k
  | 0, p, hp, j, hj => by have := h p hp j hj; show 0 ≤ S _ ∧ S _ ≤ _; omega
  | k + 1, p, hp, j, hj => by
    have ih := frC_bnd (hd := hd) h k
    have i := ih p hp j hj
    have i0 := ih p hp 0 (by omega)
    have i1 := ih p hp 1 (by omega)
    have i2 := ih p hp 2 (by omega)
    show 0 ≤ frP (frC S hd k) (hd (od S k)) (od S k) _ ∧ frP (frC S hd k) (hd (od S k)) (od S k) _ ≤ _
    by_cases z : od S k = p
    · rw [z]
      generalize frC S hd k = T at *
      have : j = 0 ∨ j = 1 ∨ j = 2 := by omega
      rcases this with rfl | rfl | rfl
      · unfold frP
        rw [u1_n _ _ (by omega), u1_n _ _ (by omega), u1_s]
        have : T (26 + 9 * p + (6 + 0)) = T (26 + 9 * p + 6) := rfl
        split <;> omega
      · unfold frP
        rw [u1_n _ _ (by omega), u1_s]
        have : T (26 + 9 * p + (6 + 1)) = T (26 + 9 * p + 7) := rfl
        split <;> omega
      · unfold frP
        rw [u1_s]
        have e7 : T (26 + 9 * p + (6 + 1)) = T (26 + 9 * p + 7) := rfl
        have e8 : T (26 + 9 * p + (6 + 2)) = T (26 + 9 * p + 8) := rfl
        split
        · omega
        · split <;> omega
    · rw [frP_o (by omega) (by omega) (by omega)]
      omega
theorem frS_c {S : Nat → Int} {i : Nat} (h5 : i ≠ 5) (h : ¬ (6 ≤ i ∧ i < 26)) : frS S i = frC S (hdd S) (S 1).toNat i := by unfold frS; rw [if_neg h5, if_neg h]
theorem WG.fr {b : Int} {S : Nat → Int} (hG : WG b S) : WG (b + 20) (frS S) := by
  obtain ⟨g0, g1, g2, g3, g4, g5, god, ginj, gy, gc⟩ := id hG
  have o : ∀ i, (i < 26 ∨ 206 ≤ i) → frC S (hdd S) (S 1).toNat i = S i := fun i hi => frC_o (fun j hj => (god j hj).2.1) hi
  have e : ∀ i, i ≠ 5 → i < 6 → frS S i = S i := fun i h1 h2 => by rw [frS_c h1 (by omega), o i (by omega)]
  have e1 := e 1 (by omega) (by omega)
  have hl := turnL_len (hdd S) (S 3) (S 4).toNat (S 1).toNat (od S)
  have eo : ∀ k, k < (S 1).toNat → frS S (6 + k) = (fl (turnL (hdd S) (S 3) (S 4).toNat (S 1).toNat (od S)) k : Int) := fun k hk => by unfold frS; rw [if_neg (by omega), if_pos (by omega), show 6 + k - 6 = k by omega]
  have eod : ∀ k, k < (S 1).toNat → od (frS S) k = fl (turnL (hdd S) (S 3) (S 4).toNat (S 1).toNat (od S)) k := fun k hk => by show (frS S (6 + k)).toNat = _; rw [eo k hk]; rfl
  refine ⟨by rw [e 0 (by omega) (by omega)]; exact g0, by rw [e1]; exact g1, by rw [e 2 (by omega) (by omega)]; exact g2, by rw [e 3 (by omega) (by omega)]; exact g3, by rw [e 4 (by omega) (by omega)]; exact g4, by show 0 ≤ S 5 + 1 ∧ S 5 + 1 ≤ _; omega, fun k hk => ?_, fun j k hj hk he => ?_, fun p hp => ?_, fun p hp j hj => ?_⟩
  · rw [e1] at hk
    obtain ⟨j, hj, hx⟩ := turnL_mem (fl_mem (l := turnL (hdd S) (S 3) (S 4).toNat (S 1).toNat (od S)) (k := k) (by omega))
    have := god j hj
    rw [eod k hk, eo k hk, ← hx, e 0 (by omega) (by omega)]
    exact ⟨rfl, this.2.1, by omega⟩
  · rw [e1] at hj hk
    rw [eod j hj, eod k hk] at he
    refine Classical.byContradiction fun z => ?_
    have nd := turnL_nd (B := hdd S) (rule := S 3) (step := (S 4).toNat) (o := od S) (fun j k hj hk hjk he => hjk (ginj j k hj hk he))
    rcases Nat.lt_or_gt_of_ne z with h1 | h1
    · exact fl_ne nd h1 (by rw [turnL_len]; exact hk) he
    · exact fl_ne nd h1 (by rw [turnL_len]; exact hj) he.symm
  · rw [frS_c (by omega) (by omega)]
    rw [frC_c (i := 1) (by omega)]
    exact gy p hp
  · rw [frS_c (by omega) (by omega)]
    have := frC_bnd (hd := hdd S) gc (S 1).toNat p hp j hj
    omega

theorem c_Surv_hiddenPuppets_1 {B : Nat → Nat} {h : St} {Q : Option Value → St → Prop} (hB : ∀ p, p < 20 → h.2 19 p = iI (B p : Nat) ∧ B p < 2000) (hQ : Q (some (.int (iI (sm (fun p => if 0 < B p then 1 else 0) 20 : Nat)))) h) : SC y_Surv_hiddenPuppets [.ref 15] h Q := by
  refine w_call IS_ok [4] ok_Surv_hiddenPuppets rfl rfl ?_
  have hle : ∀ k, sm (fun p => if 0 < B p then 1 else 0) k ≤ k := fun k => by
    have := sm_le (f := fun p => if 0 < B p then 1 else 0) (b := 1) (n := k) (fun i _ => by split <;> omega)
    omega
  have loop : ∀ (m k : Nat) (z1 z2 : Int32), 20 ≤ k + m → k ≤ 20 → z1 = iI (sm (fun p => if 0 < B p then 1 else 0) k : Nat) → z2 = iI k → SR y_Surv_hiddenPuppets 4 [some (.ref 15), some (.int z1), some (.int z2)] [] h Q := by
    intro m
    induction m with
    | zero =>
      intro k z1 z2 hm hk e1 e2
      have : k = 20 := by omega
      subst this
      refine w_loop IS_ok [4] ok_Surv_hiddenPuppets ?_
      exact w_le 20 20 (fun _ => by rw [e1]; exact hQ) (fun _ => by omega) rfl e2
    | succ m ih =>
      intro k z1 z2 hm hk e1 e2
      refine w_loop IS_ok [4] ok_Surv_hiddenPuppets ?_
      refine w_le 20 k (fun g => ?_) (fun g => ?_) rfl e2
      · have : k = 20 := by omega
        subst this
        rw [e1]; exact hQ
      refine c_Surv_isHidden_1 hB k (by omega) ?_ e2
      refine w_b (fun g2 => ?_) (fun g2 => ?_)
      · refine ih (k + 1) _ _ (by omega) (by omega) ?_ (iI_1 e2)
        rw [e1]
        show _ = iI ((sm (fun p => if 0 < B p then 1 else 0) k + if 0 < B k then 1 else 0 : Nat) : Int)
        rw [if_neg g2]; rfl
      · refine ih (k + 1) _ _ (by omega) (by omega) ?_ (iI_1 e2)
        show _ = iI ((sm (fun p => if 0 < B p then 1 else 0) k + if 0 < B k then 1 else 0 : Nat) : Int)
        rw [if_pos g2]
        exact iI_1 e1
  exact loop 20 0 _ _ (by omega) (by omega) rfl rfl
theorem c_Surv_hiddenBits_1 {B : Nat → Nat} {h : St} {Q : Option Value → St → Prop} (hB : ∀ p, p < 20 → h.2 19 p = iI (B p : Nat) ∧ B p < 2000) (hQ : ∀ w, w < 2 ^ 20 → (∀ p, p < 20 → w.testBit p = decide (0 < B p)) → Q (some (.int (nI w))) h) : SC y_Surv_hiddenBits [.ref 15] h Q := by
  refine w_call IS_ok [4] ok_Surv_hiddenBits rfl rfl ?_
  have loop : ∀ (m k w : Nat) (z1 z2 : Int32), 20 ≤ k + m → k ≤ 20 → w < 2 ^ 20 → (∀ p, p < 20 → w.testBit p = (decide (p < k) && decide (0 < B p))) → z1 = nI w → z2 = iI k → SR y_Surv_hiddenBits 4 [some (.ref 15), some (.int z1), some (.int z2)] [] h Q := by
    intro m
    induction m with
    | zero =>
      intro k w z1 z2 hm hk hw hb e1 e2
      have : k = 20 := by omega
      subst this
      refine w_loop IS_ok [4] ok_Surv_hiddenBits ?_
      exact w_le 20 20 (fun _ => by rw [e1]; exact hQ w hw (fun p hp => by rw [hb p hp]; simp [hp])) (fun _ => by omega) rfl e2
    | succ m ih =>
      intro k w z1 z2 hm hk hw hb e1 e2
      refine w_loop IS_ok [4] ok_Surv_hiddenBits ?_
      refine w_le 20 k (fun g => ?_) (fun g => ?_) rfl e2
      · have : k = 20 := by omega
        subst this
        rw [e1]; exact hQ w hw (fun p hp => by rw [hb p hp]; simp [hp])
      refine c_Surv_isHidden_1 hB k (by omega) ?_ e2
      refine w_b (fun g2 => ?_) (fun g2 => ?_)
      · refine ih (k + 1) w _ _ (by omega) (by omega) hw (fun p hp => ?_) e1 (iI_1 e2)
        rw [hb p hp]
        by_cases z : p = k
        · subst z; simp [g2]
        · simp [show (p < k + 1) = (p < k) from propext (by omega)]
      · refine ih (k + 1) (w ||| 2 ^ k) _ _ (by omega) (by omega) (bit_or_b hw (by omega)) (fun p hp => ?_) ?_ (iI_1 e2)
        · rw [bit_or_t, hb p hp]
          by_cases z : p = k
          · subst z; simp [g2]
          · simp [show (p < k + 1) = (p < k) from propext (by omega), show ¬ k = p from fun y => z y.symm]
        · rw [e1, e2]
          exact bit_or (by omega)
  exact loop 20 0 0 _ _ (by omega) (by omega) (by decide) (fun p hp => by simp) rfl rfl
set_option maxHeartbeats 2000000 in
theorem c_Scene_makeFrame_1 {b : Int} {S : Nat → Int} {x2 : Int32} {h : St} {Q : Option Value → St → Prop} (hC : CS 1 S h) (hG : WG b S) (hb : b ≤ 19000) (mf : Int) (hmf : 0 ≤ mf ∧ mf ≤ 2000000) (hF : mf ≤ S 5 → Q (some (.int (-103))) h) (hQ : S 5 < mf → ∀ h', Sm [(1, 8)] [5, 7, 17, 19] h h' → CS 1 (frS S) h' → (∀ p, p < 20 → h'.2 19 p = iI (hT S (od S) (S 1).toNat 48 p : Nat) ∧ hT S (od S) (S 1).toNat 48 p < 2000) → Q (some (.int (iI (hidN S)))) h') (hx : x2 = iI mf) : SC y_Scene_makeFrame [.ref 1, .ref 15, .int x2] h Q := by
  obtain ⟨g0, g1, g2, g3, g4, g5, god, ginj, gy, gc⟩ := id hG
  have hn1 : S 1 = ((S 1).toNat : Int) := by omega
  have hTb : ∀ p, hT S (od S) (S 1).toNat 48 p < 2000 := fun p => by have := hT_le S (od S) (S 1).toNat 48 p; omega
  have o : ∀ k i, k ≤ (S 1).toNat → (i < 26 ∨ 206 ≤ i) → frC S (hdd S) k i = S i := fun k i hk hi => frC_o (fun j hj => (god j (by omega)).2.1) hi
  refine w_call IS_ok [18] ok_Scene_makeFrame rfl rfl ?_
  refine w_lt (S 5) mf (fun g => ?_) (fun g => hF g) hC.1.2.2.2.2.2 hx
  refine c_Surv_look_1 hC hG (fun h1 hs1 hst hhd => ?_)
  -- behind the counts
  have fin : ∀ (hc : St) (L3 : Option Value), Sm [] [5, 17, 19] h hc → CS 1 (frC S (hdd S) (S 1).toNat) hc → (∀ p, p < 20 → hc.2 19 p = iI (hT S (od S) (S 1).toNat 48 p : Nat)) → SR y_Scene_makeFrame 45 [some (.ref 1), some (.ref 15), some (.int x2), L3] [] hc Q := by
    intro hc L3 hsm hCc hhc
    have hord : ∀ k, k < (S 1).toNat → hc.2 7 k = iI (od S k : Nat) ∧ od S k < 20 := fun k hk => ⟨by rw [hsm.2 _ (by decide)]; exact (hC.2.2.1 k hk).trans (congrArg iI (god k hk).1), (god k hk).2.1⟩
    have f3 : hc.1 1 3 = iI (S 1).toNat := by rw [hsm.1 _ _ (by decide)]; exact hC.1.1.trans (congrArg iI hn1)
    have f6 : hc.1 1 6 = iI (S 3) := by rw [hsm.1 _ _ (by decide)]; exact hC.1.2.2.2.1
    have f7 : hc.1 1 7 = iI (S 4).toNat := by rw [hsm.1 _ _ (by decide)]; exact hC.1.2.2.2.2.1.trans (congrArg iI (by omega))
    have at73 : ∀ (hd : St), Sm [] [7] hc hd → (∀ k, k < (S 1).toNat → hd.2 7 k = iI (fl (turnL (hdd S) (S 3) (S 4).toNat (S 1).toNat (od S)) k : Nat)) → SR y_Scene_makeFrame 73 [some (.ref 1), some (.ref 15), some (.int x2), L3] [] hd Q := by
      intro hd hsd hr
      refine w_loop IS_ok [] ok_Scene_makeFrame ?_
      have hs5 : Sm [(1, 8)] [5, 7, 17, 19] h (pg hd 1 8 (hd.1 1 8 + 1)) := ((hsm.mo (by decide) (by decide)).t (hsd.mo (by decide) (by decide))).t (Sm.pg _ (by decide))
      refine c_Surv_hiddenPuppets_1 (h := pg hd 1 8 (hd.1 1 8 + 1)) (B := fun p => hT S (od S) (S 1).toNat 48 p) (fun p hp => ⟨(congrFun (hsd.2 19 (by decide)) p).trans (hhc p hp), hTb p⟩) ?_
      have hq := hQ g (pg hd 1 8 (hd.1 1 8 + 1)) hs5 (hCc.mk2 (hsd.2 _ (by decide)) (hsd.2 _ (by decide)) ⟨?_, ?_, ?_, ?_, ?_, ?_⟩ (fun k hk => ?_) ?_ (fun i hi => frS_c (by omega) (by omega))) (fun p hp => ⟨(congrFun (hsd.2 19 (by decide)) p).trans (hhc p hp), hTb p⟩)
      · rw [show sm (fun p => if 0 < hT S (od S) (S 1).toNat 48 p then 1 else 0) 20 = hidN S from sm_congr (fun p _ => by simp [hdd])]
        exact hq
      · rw [frS_c (by omega) (by omega), pg_n _ _ _ _ (by omega), hsd.1 _ _ (by decide)]; exact hCc.1.1
      · rw [frS_c (by omega) (by omega), pg_n _ _ _ _ (by omega), hsd.1 _ _ (by decide)]; exact hCc.1.2.1
      · rw [frS_c (by omega) (by omega), pg_n _ _ _ _ (by omega), hsd.1 _ _ (by decide)]; exact hCc.1.2.2.1
      · rw [frS_c (by omega) (by omega), pg_n _ _ _ _ (by omega), hsd.1 _ _ (by decide)]; exact hCc.1.2.2.2.1
      · rw [frS_c (by omega) (by omega), pg_n _ _ _ _ (by omega), hsd.1 _ _ (by decide)]; exact hCc.1.2.2.2.2.1
      · rw [pg_s, hsd.1 _ _ (by decide), hsm.1 _ _ (by decide)]
        exact (congrArg (· + 1) hC.1.2.2.2.2.2).trans (iI_add _ 1)
      · rw [frS_c (by omega) (by omega), o _ _ (Nat.le_refl _) (by omega)] at hk
        refine (hr k hk).trans (congrArg iI ?_)
        unfold frS
        rw [if_neg (by omega), if_pos (by omega), show 6 + k - 6 = k by omega]
      · exact frS_c (by omega) (by omega)
    refine w_loop IS_ok [73] ok_Scene_makeFrame ?_
    refine w_eq (S 3) 1 (fun g6 => ?_) (fun g6 => ?_) f6 rfl
    · refine c_Scene_rotate_1 (n := (S 1).toNat) (s := (S 4).toNat) (o := od S) f3 f7 (by omega) (by omega) (fun k hk => (hord k hk).1) (fun hd hsd hr => ?_)
      refine at73 hd hsd (fun k hk => ?_)
      rw [hr k hk]
      unfold turnL
      rw [if_neg (by omega), if_pos g6, fl_ol hk]
    · refine w_eq (S 3) 2 (fun g7 => ?_) (fun g7 => ?_) f6 rfl
      · refine c_Scene_bringHidden_1 (n := (S 1).toNat) (o := od S) (B := fun p => hT S (od S) (S 1).toNat 48 p) (fun p hp => ⟨hhc p hp, hTb p⟩) f3 (by omega) hord (fun hd hsd hr => ?_)
        refine at73 hd hsd (fun k hk => ?_)
        rw [hr k hk]
        unfold turnL
        rw [if_pos g7]
        rfl
      · refine at73 hc Sm.rf (fun k hk => ?_)
        rw [(hord k hk).1]
        unfold turnL
        rw [if_neg g7, if_neg g6, fl_ol hk]
  have loop : ∀ (m k : Nat) (hc : St) (z : Int32), (S 1).toNat ≤ k + m → k ≤ (S 1).toNat → Sm [] [5, 17, 19] h hc → CS 1 (frC S (hdd S) k) hc → (∀ p, p < 20 → hc.2 19 p = iI (hT S (od S) (S 1).toNat 48 p : Nat)) → z = iI k → SR y_Scene_makeFrame 18 [some (.ref 1), some (.ref 15), some (.int x2), some (.int z)] [] hc Q := by
    intro m
    induction m with
    | zero =>
      intro k hc z hm hk hsm hCc hhc hz
      have : k = (S 1).toNat := by omega
      subst this
      refine w_loop IS_ok [18, 45] ok_Scene_makeFrame ?_
      exact w_le (S 1) (S 1).toNat (fun _ => fin hc _ hsm hCc hhc) (fun _ => by omega) ((hsm.1 _ _ (by decide)).trans hC.1.1) hz
    | succ m ih =>
      intro k hc z hm hk hsm hCc hhc hz
      refine w_loop IS_ok [18, 45] ok_Scene_makeFrame ?_
      refine w_le (S 1) k (fun g => ?_) (fun g => ?_) ((hsm.1 _ _ (by decide)).trans hC.1.1) hz
      · have : k = (S 1).toNat := by omega
        subst this
        exact fin hc _ hsm hCc hhc
      have hkn : k < (S 1).toNat := by omega
      have o2 := god k hkn
      refine c_Cells_get1 CA_6 k (by omega) ?_ hz
      have eo : hc.2 7 k = iI (od S k : Nat) := by rw [hsm.2 _ (by decide)]; exact (hC.2.2.1 k hkn).trans (congrArg iI o2.1)
      have hbd := frC_bnd (hd := hdd S) gc k (od S k) o2.2.1
      refine c_Scene_countHidden_1 hCc (by rw [o k 1 hk (by omega)]; omega) (B := fun p => hT S (od S) (S 1).toNat 48 p) (fun p hp => ⟨hhc p hp, hTb p⟩) (od S k) o2.2.1 (fun j hj => by have := hbd j hj; omega) (fun h' hs' hC' => ?_) eo
      exact ih (k + 1) h' _ (by omega) (by omega) (hsm.t (hs'.mo (by decide) (by decide))) hC' (fun p hp => by rw [hs'.2 _ (by decide)]; exact hhc p hp) (iI_1 hz)
  exact loop (S 1).toNat 0 h1 _ (by omega) (by omega) (hs1.mo (by decide) (by decide)) (hC.sm hs1 (by decide) (by decide)) hhd rfl

theorem c_Surv_hiddenPuppets_24 {B : Nat → Nat} {h : St} {Q : Option Value → St → Prop} (hB : ∀ p, p < 20 → h.2 35 p = iI (B p : Nat) ∧ B p < 2000) (hQ : Q (some (.int (iI (sm (fun p => if 0 < B p then 1 else 0) 20 : Nat)))) h) : SC y_Surv_hiddenPuppets [.ref 31] h Q := by
  refine w_call IS_ok [4] ok_Surv_hiddenPuppets rfl rfl ?_
  have hle : ∀ k, sm (fun p => if 0 < B p then 1 else 0) k ≤ k := fun k => by
    have := sm_le (f := fun p => if 0 < B p then 1 else 0) (b := 1) (n := k) (fun i _ => by split <;> omega)
    omega
  have loop : ∀ (m k : Nat) (z1 z2 : Int32), 20 ≤ k + m → k ≤ 20 → z1 = iI (sm (fun p => if 0 < B p then 1 else 0) k : Nat) → z2 = iI k → SR y_Surv_hiddenPuppets 4 [some (.ref 31), some (.int z1), some (.int z2)] [] h Q := by
    intro m
    induction m with
    | zero =>
      intro k z1 z2 hm hk e1 e2
      have : k = 20 := by omega
      subst this
      refine w_loop IS_ok [4] ok_Surv_hiddenPuppets ?_
      exact w_le 20 20 (fun _ => by rw [e1]; exact hQ) (fun _ => by omega) rfl e2
    | succ m ih =>
      intro k z1 z2 hm hk e1 e2
      refine w_loop IS_ok [4] ok_Surv_hiddenPuppets ?_
      refine w_le 20 k (fun g => ?_) (fun g => ?_) rfl e2
      · have : k = 20 := by omega
        subst this
        rw [e1]; exact hQ
      refine c_Surv_isHidden_24 hB k (by omega) ?_ e2
      refine w_b (fun g2 => ?_) (fun g2 => ?_)
      · refine ih (k + 1) _ _ (by omega) (by omega) ?_ (iI_1 e2)
        rw [e1]
        show _ = iI ((sm (fun p => if 0 < B p then 1 else 0) k + if 0 < B k then 1 else 0 : Nat) : Int)
        rw [if_neg g2]; rfl
      · refine ih (k + 1) _ _ (by omega) (by omega) ?_ (iI_1 e2)
        show _ = iI ((sm (fun p => if 0 < B p then 1 else 0) k + if 0 < B k then 1 else 0 : Nat) : Int)
        rw [if_pos g2]
        exact iI_1 e1
  exact loop 20 0 _ _ (by omega) (by omega) rfl rfl
theorem c_Surv_hiddenBits_24 {B : Nat → Nat} {h : St} {Q : Option Value → St → Prop} (hB : ∀ p, p < 20 → h.2 35 p = iI (B p : Nat) ∧ B p < 2000) (hQ : ∀ w, w < 2 ^ 20 → (∀ p, p < 20 → w.testBit p = decide (0 < B p)) → Q (some (.int (nI w))) h) : SC y_Surv_hiddenBits [.ref 31] h Q := by
  refine w_call IS_ok [4] ok_Surv_hiddenBits rfl rfl ?_
  have loop : ∀ (m k w : Nat) (z1 z2 : Int32), 20 ≤ k + m → k ≤ 20 → w < 2 ^ 20 → (∀ p, p < 20 → w.testBit p = (decide (p < k) && decide (0 < B p))) → z1 = nI w → z2 = iI k → SR y_Surv_hiddenBits 4 [some (.ref 31), some (.int z1), some (.int z2)] [] h Q := by
    intro m
    induction m with
    | zero =>
      intro k w z1 z2 hm hk hw hb e1 e2
      have : k = 20 := by omega
      subst this
      refine w_loop IS_ok [4] ok_Surv_hiddenBits ?_
      exact w_le 20 20 (fun _ => by rw [e1]; exact hQ w hw (fun p hp => by rw [hb p hp]; simp [hp])) (fun _ => by omega) rfl e2
    | succ m ih =>
      intro k w z1 z2 hm hk hw hb e1 e2
      refine w_loop IS_ok [4] ok_Surv_hiddenBits ?_
      refine w_le 20 k (fun g => ?_) (fun g => ?_) rfl e2
      · have : k = 20 := by omega
        subst this
        rw [e1]; exact hQ w hw (fun p hp => by rw [hb p hp]; simp [hp])
      refine c_Surv_isHidden_24 hB k (by omega) ?_ e2
      refine w_b (fun g2 => ?_) (fun g2 => ?_)
      · refine ih (k + 1) w _ _ (by omega) (by omega) hw (fun p hp => ?_) e1 (iI_1 e2)
        rw [hb p hp]
        by_cases z : p = k
        · subst z; simp [g2]
        · simp [show (p < k + 1) = (p < k) from propext (by omega)]
      · refine ih (k + 1) (w ||| 2 ^ k) _ _ (by omega) (by omega) (bit_or_b hw (by omega)) (fun p hp => ?_) ?_ (iI_1 e2)
        · rw [bit_or_t, hb p hp]
          by_cases z : p = k
          · subst z; simp [g2]
          · simp [show (p < k + 1) = (p < k) from propext (by omega), show ¬ k = p from fun y => z y.symm]
        · rw [e1, e2]
          exact bit_or (by omega)
  exact loop 20 0 0 _ _ (by omega) (by omega) (by decide) (fun p hp => by simp) rfl rfl
set_option maxHeartbeats 2000000 in
theorem c_Scene_makeFrame_24 {b : Int} {S : Nat → Int} {x2 : Int32} {h : St} {Q : Option Value → St → Prop} (hC : CS 24 S h) (hG : WG b S) (hb : b ≤ 19000) (mf : Int) (hmf : 0 ≤ mf ∧ mf ≤ 2000000) (hF : mf ≤ S 5 → Q (some (.int (-103))) h) (hQ : S 5 < mf → ∀ h', Sm [(24, 8)] [28, 30, 33, 35] h h' → CS 24 (frS S) h' → (∀ p, p < 20 → h'.2 35 p = iI (hT S (od S) (S 1).toNat 48 p : Nat) ∧ hT S (od S) (S 1).toNat 48 p < 2000) → Q (some (.int (iI (hidN S)))) h') (hx : x2 = iI mf) : SC y_Scene_makeFrame [.ref 24, .ref 31, .int x2] h Q := by
  obtain ⟨g0, g1, g2, g3, g4, g5, god, ginj, gy, gc⟩ := id hG
  have hn1 : S 1 = ((S 1).toNat : Int) := by omega
  have hTb : ∀ p, hT S (od S) (S 1).toNat 48 p < 2000 := fun p => by have := hT_le S (od S) (S 1).toNat 48 p; omega
  have o : ∀ k i, k ≤ (S 1).toNat → (i < 26 ∨ 206 ≤ i) → frC S (hdd S) k i = S i := fun k i hk hi => frC_o (fun j hj => (god j (by omega)).2.1) hi
  refine w_call IS_ok [18] ok_Scene_makeFrame rfl rfl ?_
  refine w_lt (S 5) mf (fun g => ?_) (fun g => hF g) hC.1.2.2.2.2.2 hx
  refine c_Surv_look_24 hC hG (fun h1 hs1 hst hhd => ?_)
  -- behind the counts
  have fin : ∀ (hc : St) (L3 : Option Value), Sm [] [28, 33, 35] h hc → CS 24 (frC S (hdd S) (S 1).toNat) hc → (∀ p, p < 20 → hc.2 35 p = iI (hT S (od S) (S 1).toNat 48 p : Nat)) → SR y_Scene_makeFrame 45 [some (.ref 24), some (.ref 31), some (.int x2), L3] [] hc Q := by
    intro hc L3 hsm hCc hhc
    have hord : ∀ k, k < (S 1).toNat → hc.2 30 k = iI (od S k : Nat) ∧ od S k < 20 := fun k hk => ⟨by rw [hsm.2 _ (by decide)]; exact (hC.2.2.1 k hk).trans (congrArg iI (god k hk).1), (god k hk).2.1⟩
    have f3 : hc.1 24 3 = iI (S 1).toNat := by rw [hsm.1 _ _ (by decide)]; exact hC.1.1.trans (congrArg iI hn1)
    have f6 : hc.1 24 6 = iI (S 3) := by rw [hsm.1 _ _ (by decide)]; exact hC.1.2.2.2.1
    have f7 : hc.1 24 7 = iI (S 4).toNat := by rw [hsm.1 _ _ (by decide)]; exact hC.1.2.2.2.2.1.trans (congrArg iI (by omega))
    have at73 : ∀ (hd : St), Sm [] [30] hc hd → (∀ k, k < (S 1).toNat → hd.2 30 k = iI (fl (turnL (hdd S) (S 3) (S 4).toNat (S 1).toNat (od S)) k : Nat)) → SR y_Scene_makeFrame 73 [some (.ref 24), some (.ref 31), some (.int x2), L3] [] hd Q := by
      intro hd hsd hr
      refine w_loop IS_ok [] ok_Scene_makeFrame ?_
      have hs5 : Sm [(24, 8)] [28, 30, 33, 35] h (pg hd 24 8 (hd.1 24 8 + 1)) := ((hsm.mo (by decide) (by decide)).t (hsd.mo (by decide) (by decide))).t (Sm.pg _ (by decide))
      refine c_Surv_hiddenPuppets_24 (h := pg hd 24 8 (hd.1 24 8 + 1)) (B := fun p => hT S (od S) (S 1).toNat 48 p) (fun p hp => ⟨(congrFun (hsd.2 35 (by decide)) p).trans (hhc p hp), hTb p⟩) ?_
      have hq := hQ g (pg hd 24 8 (hd.1 24 8 + 1)) hs5 (hCc.mk2 (hsd.2 _ (by decide)) (hsd.2 _ (by decide)) ⟨?_, ?_, ?_, ?_, ?_, ?_⟩ (fun k hk => ?_) ?_ (fun i hi => frS_c (by omega) (by omega))) (fun p hp => ⟨(congrFun (hsd.2 35 (by decide)) p).trans (hhc p hp), hTb p⟩)
      · rw [show sm (fun p => if 0 < hT S (od S) (S 1).toNat 48 p then 1 else 0) 20 = hidN S from sm_congr (fun p _ => by simp [hdd])]
        exact hq
      · rw [frS_c (by omega) (by omega), pg_n _ _ _ _ (by omega), hsd.1 _ _ (by decide)]; exact hCc.1.1
      · rw [frS_c (by omega) (by omega), pg_n _ _ _ _ (by omega), hsd.1 _ _ (by decide)]; exact hCc.1.2.1
      · rw [frS_c (by omega) (by omega), pg_n _ _ _ _ (by omega), hsd.1 _ _ (by decide)]; exact hCc.1.2.2.1
      · rw [frS_c (by omega) (by omega), pg_n _ _ _ _ (by omega), hsd.1 _ _ (by decide)]; exact hCc.1.2.2.2.1
      · rw [frS_c (by omega) (by omega), pg_n _ _ _ _ (by omega), hsd.1 _ _ (by decide)]; exact hCc.1.2.2.2.2.1
      · rw [pg_s, hsd.1 _ _ (by decide), hsm.1 _ _ (by decide)]
        exact (congrArg (· + 1) hC.1.2.2.2.2.2).trans (iI_add _ 1)
      · rw [frS_c (by omega) (by omega), o _ _ (Nat.le_refl _) (by omega)] at hk
        refine (hr k hk).trans (congrArg iI ?_)
        unfold frS
        rw [if_neg (by omega), if_pos (by omega), show 6 + k - 6 = k by omega]
      · exact frS_c (by omega) (by omega)
    refine w_loop IS_ok [73] ok_Scene_makeFrame ?_
    refine w_eq (S 3) 1 (fun g6 => ?_) (fun g6 => ?_) f6 rfl
    · refine c_Scene_rotate_24 (n := (S 1).toNat) (s := (S 4).toNat) (o := od S) f3 f7 (by omega) (by omega) (fun k hk => (hord k hk).1) (fun hd hsd hr => ?_)
      refine at73 hd hsd (fun k hk => ?_)
      rw [hr k hk]
      unfold turnL
      rw [if_neg (by omega), if_pos g6, fl_ol hk]
    · refine w_eq (S 3) 2 (fun g7 => ?_) (fun g7 => ?_) f6 rfl
      · refine c_Scene_bringHidden_24 (n := (S 1).toNat) (o := od S) (B := fun p => hT S (od S) (S 1).toNat 48 p) (fun p hp => ⟨hhc p hp, hTb p⟩) f3 (by omega) hord (fun hd hsd hr => ?_)
        refine at73 hd hsd (fun k hk => ?_)
        rw [hr k hk]
        unfold turnL
        rw [if_pos g7]
        rfl
      · refine at73 hc Sm.rf (fun k hk => ?_)
        rw [(hord k hk).1]
        unfold turnL
        rw [if_neg g7, if_neg g6, fl_ol hk]
  have loop : ∀ (m k : Nat) (hc : St) (z : Int32), (S 1).toNat ≤ k + m → k ≤ (S 1).toNat → Sm [] [28, 33, 35] h hc → CS 24 (frC S (hdd S) k) hc → (∀ p, p < 20 → hc.2 35 p = iI (hT S (od S) (S 1).toNat 48 p : Nat)) → z = iI k → SR y_Scene_makeFrame 18 [some (.ref 24), some (.ref 31), some (.int x2), some (.int z)] [] hc Q := by
    intro m
    induction m with
    | zero =>
      intro k hc z hm hk hsm hCc hhc hz
      have : k = (S 1).toNat := by omega
      subst this
      refine w_loop IS_ok [18, 45] ok_Scene_makeFrame ?_
      exact w_le (S 1) (S 1).toNat (fun _ => fin hc _ hsm hCc hhc) (fun _ => by omega) ((hsm.1 _ _ (by decide)).trans hC.1.1) hz
    | succ m ih =>
      intro k hc z hm hk hsm hCc hhc hz
      refine w_loop IS_ok [18, 45] ok_Scene_makeFrame ?_
      refine w_le (S 1) k (fun g => ?_) (fun g => ?_) ((hsm.1 _ _ (by decide)).trans hC.1.1) hz
      · have : k = (S 1).toNat := by omega
        subst this
        exact fin hc _ hsm hCc hhc
      have hkn : k < (S 1).toNat := by omega
      have o2 := god k hkn
      refine c_Cells_get1 CA_29 k (by omega) ?_ hz
      have eo : hc.2 30 k = iI (od S k : Nat) := by rw [hsm.2 _ (by decide)]; exact (hC.2.2.1 k hkn).trans (congrArg iI o2.1)
      have hbd := frC_bnd (hd := hdd S) gc k (od S k) o2.2.1
      refine c_Scene_countHidden_24 hCc (by rw [o k 1 hk (by omega)]; omega) (B := fun p => hT S (od S) (S 1).toNat 48 p) (fun p hp => ⟨hhc p hp, hTb p⟩) (od S k) o2.2.1 (fun j hj => by have := hbd j hj; omega) (fun h' hs' hC' => ?_) eo
      exact ih (k + 1) h' _ (by omega) (by omega) (hsm.t (hs'.mo (by decide) (by decide))) hC' (fun p hp => by rw [hs'.2 _ (by decide)]; exact hhc p hp) (iI_1 hz)
  exact loop (S 1).toNat 0 h1 _ (by omega) (by omega) (hs1.mo (by decide) (by decide)) (hC.sm hs1 (by decide) (by decide)) hhd rfl
end
section
/-! the class: a scene is copied -/
theorem CS.cp {a c : Nat} {S : Nat → Int} {h h' : St} (hC : CS c S h) (hn : (S 1).toNat ≤ 20) (h3 : h'.1 a 3 = h.1 c 3) (h4 : h'.1 a 4 = h.1 c 4) (h5 : h'.1 a 5 = h.1 c 5) (h6 : h'.1 a 6 = h.1 c 6) (h7 : h'.1 a 7 = h.1 c 7) (h8 : h'.1 a 8 = h.1 c 8) (r2 : ∀ j, j < 64 → h'.2 (a + 2) j = h.2 (c + 2) j) (r4 : ∀ j, j < 200 → h'.2 (a + 4) j = h.2 (c + 4) j) (r6 : ∀ j, j < 20 → h'.2 (a + 6) j = h.2 (c + 6) j) : CS a S h' := by
  obtain ⟨⟨a1, a2, a3, a4, a5, a6⟩, b, o, d, f, g⟩ := hC
  exact ⟨⟨h3.trans a1, h4.trans a2, h5.trans a3, h6.trans a4, h7.trans a5, h8.trans a6⟩, fun i hi => (r2 i hi).trans (b i hi), fun k hk => (r6 k (by omega)).trans (o k hk), fun p hp j hj => (r4 _ (by omega)).trans (d p hp j hj), fun p hp h0 => (r4 _ (by omega)).trans (f p hp h0), fun p hp j hj => (r4 _ (by omega)).trans (g p hp j hj)⟩
abbrev fl6 (a : Nat) : List (Nat × Nat) := [(a, 3), (a, 4), (a, 5), (a, 6), (a, 7), (a, 8)]
theorem c_Scene_copyFrom_8_1 {S : Nat → Int} {h : St} {Q : Option Value → St → Prop} (hC : CS 1 S h) (hn : (S 1).toNat ≤ 20) (hQ : ∀ h', Sm (fl6 8) [10, 12, 14] h h' → CS 8 S h' → Q none h') : SC y_Scene_copyFrom [.ref 8, .ref 1] h Q := by
  refine w_call IS_ok [] ok_Scene_copyFrom rfl rfl ?_
  refine c_Cells_copyFrom CA_9 CA_2 (by decide) (fun h1 s1 e1 => ?_)
  refine c_Cells_copyFrom CA_11 CA_4 (by decide) (fun h2 s2 e2 => ?_)
  refine c_Cells_copyFrom CA_13 CA_6 (by decide) (fun h3 s3 e3 => ?_)
  have f : ∀ k, h3.1 1 k = h.1 1 k := fun k => (s3.1 _ _ (by simp)).trans ((s2.1 _ _ (by simp)).trans (s1.1 _ _ (by simp)))
  refine hQ (pg (pg (pg (pg (pg (pg h3 8 3 (h3.1 1 3)) 8 4 (h3.1 1 4)) 8 5 (h3.1 1 5)) 8 6 (h3.1 1 6)) 8 7 (h3.1 1 7)) 8 8 (h3.1 1 8)) (((((((((s1.mo (by decide) (by decide)).t (s2.mo (by decide) (by decide))).t (s3.mo (by decide) (by decide))).t (Sm.pg _ (by decide))).t (Sm.pg _ (by decide))).t (Sm.pg _ (by decide))).t (Sm.pg _ (by decide))).t (Sm.pg _ (by decide))).t (Sm.pg _ (by decide))) (hC.cp hn (f 3) (f 4) (f 5) (f 6) (f 7) (f 8) (fun j hj => ?_) (fun j hj => ?_) (fun j hj => ?_))
  · show h3.2 10 j = h.2 3 j
    rw [s3.2 _ (by decide), s2.2 _ (by decide)]
    exact e1 j hj
  · show h3.2 12 j = h.2 5 j
    rw [s3.2 _ (by decide), e2 j hj, s1.2 _ (by decide)]
  · show h3.2 14 j = h.2 7 j
    rw [e3 j hj, s2.2 _ (by decide), s1.2 _ (by decide)]
theorem c_Scene_copyFrom_1_8 {S : Nat → Int} {h : St} {Q : Option Value → St → Prop} (hC : CS 8 S h) (hn : (S 1).toNat ≤ 20) (hQ : ∀ h', Sm (fl6 1) [3, 5, 7] h h' → CS 1 S h' → Q none h') : SC y_Scene_copyFrom [.ref 1, .ref 8] h Q := by
  refine w_call IS_ok [] ok_Scene_copyFrom rfl rfl ?_
  refine c_Cells_copyFrom CA_2 CA_9 (by decide) (fun h1 s1 e1 => ?_)
  refine c_Cells_copyFrom CA_4 CA_11 (by decide) (fun h2 s2 e2 => ?_)
  refine c_Cells_copyFrom CA_6 CA_13 (by decide) (fun h3 s3 e3 => ?_)
  have f : ∀ k, h3.1 8 k = h.1 8 k := fun k => (s3.1 _ _ (by simp)).trans ((s2.1 _ _ (by simp)).trans (s1.1 _ _ (by simp)))
  refine hQ (pg (pg (pg (pg (pg (pg h3 1 3 (h3.1 8 3)) 1 4 (h3.1 8 4)) 1 5 (h3.1 8 5)) 1 6 (h3.1 8 6)) 1 7 (h3.1 8 7)) 1 8 (h3.1 8 8)) (((((((((s1.mo (by decide) (by decide)).t (s2.mo (by decide) (by decide))).t (s3.mo (by decide) (by decide))).t (Sm.pg _ (by decide))).t (Sm.pg _ (by decide))).t (Sm.pg _ (by decide))).t (Sm.pg _ (by decide))).t (Sm.pg _ (by decide))).t (Sm.pg _ (by decide))) (hC.cp hn (f 3) (f 4) (f 5) (f 6) (f 7) (f 8) (fun j hj => ?_) (fun j hj => ?_) (fun j hj => ?_))
  · show h3.2 3 j = h.2 10 j
    rw [s3.2 _ (by decide), s2.2 _ (by decide)]
    exact e1 j hj
  · show h3.2 5 j = h.2 12 j
    rw [s3.2 _ (by decide), e2 j hj, s1.2 _ (by decide)]
  · show h3.2 7 j = h.2 14 j
    rw [e3 j hj, s2.2 _ (by decide), s1.2 _ (by decide)]
theorem c_Scene_copyFrom_24_1 {S : Nat → Int} {h : St} {Q : Option Value → St → Prop} (hC : CS 1 S h) (hn : (S 1).toNat ≤ 20) (hQ : ∀ h', Sm (fl6 24) [26, 28, 30] h h' → CS 24 S h' → Q none h') : SC y_Scene_copyFrom [.ref 24, .ref 1] h Q := by
  refine w_call IS_ok [] ok_Scene_copyFrom rfl rfl ?_
  refine c_Cells_copyFrom CA_25 CA_2 (by decide) (fun h1 s1 e1 => ?_)
  refine c_Cells_copyFrom CA_27 CA_4 (by decide) (fun h2 s2 e2 => ?_)
  refine c_Cells_copyFrom CA_29 CA_6 (by decide) (fun h3 s3 e3 => ?_)
  have f : ∀ k, h3.1 1 k = h.1 1 k := fun k => (s3.1 _ _ (by simp)).trans ((s2.1 _ _ (by simp)).trans (s1.1 _ _ (by simp)))
  refine hQ (pg (pg (pg (pg (pg (pg h3 24 3 (h3.1 1 3)) 24 4 (h3.1 1 4)) 24 5 (h3.1 1 5)) 24 6 (h3.1 1 6)) 24 7 (h3.1 1 7)) 24 8 (h3.1 1 8)) (((((((((s1.mo (by decide) (by decide)).t (s2.mo (by decide) (by decide))).t (s3.mo (by decide) (by decide))).t (Sm.pg _ (by decide))).t (Sm.pg _ (by decide))).t (Sm.pg _ (by decide))).t (Sm.pg _ (by decide))).t (Sm.pg _ (by decide))).t (Sm.pg _ (by decide))) (hC.cp hn (f 3) (f 4) (f 5) (f 6) (f 7) (f 8) (fun j hj => ?_) (fun j hj => ?_) (fun j hj => ?_))
  · show h3.2 26 j = h.2 3 j
    rw [s3.2 _ (by decide), s2.2 _ (by decide)]
    exact e1 j hj
  · show h3.2 28 j = h.2 5 j
    rw [s3.2 _ (by decide), e2 j hj, s1.2 _ (by decide)]
  · show h3.2 30 j = h.2 7 j
    rw [e3 j hj, s2.2 _ (by decide), s1.2 _ (by decide)]
theorem c_Scene_copyFrom_40_8 {S : Nat → Int} {h : St} {Q : Option Value → St → Prop} (hC : CS 8 S h) (hn : (S 1).toNat ≤ 20) (hQ : ∀ h', Sm (fl6 40) [42, 44, 46] h h' → CS 40 S h' → Q none h') : SC y_Scene_copyFrom [.ref 40, .ref 8] h Q := by
  refine w_call IS_ok [] ok_Scene_copyFrom rfl rfl ?_
  refine c_Cells_copyFrom CA_41 CA_9 (by decide) (fun h1 s1 e1 => ?_)
  refine c_Cells_copyFrom CA_43 CA_11 (by decide) (fun h2 s2 e2 => ?_)
  refine c_Cells_copyFrom CA_45 CA_13 (by decide) (fun h3 s3 e3 => ?_)
  have f : ∀ k, h3.1 8 k = h.1 8 k := fun k => (s3.1 _ _ (by simp)).trans ((s2.1 _ _ (by simp)).trans (s1.1 _ _ (by simp)))
  refine hQ (pg (pg (pg (pg (pg (pg h3 40 3 (h3.1 8 3)) 40 4 (h3.1 8 4)) 40 5 (h3.1 8 5)) 40 6 (h3.1 8 6)) 40 7 (h3.1 8 7)) 40 8 (h3.1 8 8)) (((((((((s1.mo (by decide) (by decide)).t (s2.mo (by decide) (by decide))).t (s3.mo (by decide) (by decide))).t (Sm.pg _ (by decide))).t (Sm.pg _ (by decide))).t (Sm.pg _ (by decide))).t (Sm.pg _ (by decide))).t (Sm.pg _ (by decide))).t (Sm.pg _ (by decide))) (hC.cp hn (f 3) (f 4) (f 5) (f 6) (f 7) (f 8) (fun j hj => ?_) (fun j hj => ?_) (fun j hj => ?_))
  · show h3.2 42 j = h.2 10 j
    rw [s3.2 _ (by decide), s2.2 _ (by decide)]
    exact e1 j hj
  · show h3.2 44 j = h.2 12 j
    rw [s3.2 _ (by decide), e2 j hj, s1.2 _ (by decide)]
  · show h3.2 46 j = h.2 14 j
    rw [e3 j hj, s2.2 _ (by decide), s1.2 _ (by decide)]
theorem c_Scene_copyFrom_47_8 {S : Nat → Int} {h : St} {Q : Option Value → St → Prop} (hC : CS 8 S h) (hn : (S 1).toNat ≤ 20) (hQ : ∀ h', Sm (fl6 47) [49, 51, 53] h h' → CS 47 S h' → Q none h') : SC y_Scene_copyFrom [.ref 47, .ref 8] h Q := by
  refine w_call IS_ok [] ok_Scene_copyFrom rfl rfl ?_
  refine c_Cells_copyFrom CA_48 CA_9 (by decide) (fun h1 s1 e1 => ?_)
  refine c_Cells_copyFrom CA_50 CA_11 (by decide) (fun h2 s2 e2 => ?_)
  refine c_Cells_copyFrom CA_52 CA_13 (by decide) (fun h3 s3 e3 => ?_)
  have f : ∀ k, h3.1 8 k = h.1 8 k := fun k => (s3.1 _ _ (by simp)).trans ((s2.1 _ _ (by simp)).trans (s1.1 _ _ (by simp)))
  refine hQ (pg (pg (pg (pg (pg (pg h3 47 3 (h3.1 8 3)) 47 4 (h3.1 8 4)) 47 5 (h3.1 8 5)) 47 6 (h3.1 8 6)) 47 7 (h3.1 8 7)) 47 8 (h3.1 8 8)) (((((((((s1.mo (by decide) (by decide)).t (s2.mo (by decide) (by decide))).t (s3.mo (by decide) (by decide))).t (Sm.pg _ (by decide))).t (Sm.pg _ (by decide))).t (Sm.pg _ (by decide))).t (Sm.pg _ (by decide))).t (Sm.pg _ (by decide))).t (Sm.pg _ (by decide))) (hC.cp hn (f 3) (f 4) (f 5) (f 6) (f 7) (f 8) (fun j hj => ?_) (fun j hj => ?_) (fun j hj => ?_))
  · show h3.2 49 j = h.2 10 j
    rw [s3.2 _ (by decide), s2.2 _ (by decide)]
    exact e1 j hj
  · show h3.2 51 j = h.2 12 j
    rw [s3.2 _ (by decide), e2 j hj, s1.2 _ (by decide)]
  · show h3.2 53 j = h.2 14 j
    rw [e3 j hj, s2.2 _ (by decide), s1.2 _ (by decide)]
theorem c_Scene_copyFrom_54_8 {S : Nat → Int} {h : St} {Q : Option Value → St → Prop} (hC : CS 8 S h) (hn : (S 1).toNat ≤ 20) (hQ : ∀ h', Sm (fl6 54) [56, 58, 60] h h' → CS 54 S h' → Q none h') : SC y_Scene_copyFrom [.ref 54, .ref 8] h Q := by
  refine w_call IS_ok [] ok_Scene_copyFrom rfl rfl ?_
  refine c_Cells_copyFrom CA_55 CA_9 (by decide) (fun h1 s1 e1 => ?_)
  refine c_Cells_copyFrom CA_57 CA_11 (by decide) (fun h2 s2 e2 => ?_)
  refine c_Cells_copyFrom CA_59 CA_13 (by decide) (fun h3 s3 e3 => ?_)
  have f : ∀ k, h3.1 8 k = h.1 8 k := fun k => (s3.1 _ _ (by simp)).trans ((s2.1 _ _ (by simp)).trans (s1.1 _ _ (by simp)))
  refine hQ (pg (pg (pg (pg (pg (pg h3 54 3 (h3.1 8 3)) 54 4 (h3.1 8 4)) 54 5 (h3.1 8 5)) 54 6 (h3.1 8 6)) 54 7 (h3.1 8 7)) 54 8 (h3.1 8 8)) (((((((((s1.mo (by decide) (by decide)).t (s2.mo (by decide) (by decide))).t (s3.mo (by decide) (by decide))).t (Sm.pg _ (by decide))).t (Sm.pg _ (by decide))).t (Sm.pg _ (by decide))).t (Sm.pg _ (by decide))).t (Sm.pg _ (by decide))).t (Sm.pg _ (by decide))) (hC.cp hn (f 3) (f 4) (f 5) (f 6) (f 7) (f 8) (fun j hj => ?_) (fun j hj => ?_) (fun j hj => ?_))
  · show h3.2 56 j = h.2 10 j
    rw [s3.2 _ (by decide), s2.2 _ (by decide)]
    exact e1 j hj
  · show h3.2 58 j = h.2 12 j
    rw [s3.2 _ (by decide), e2 j hj, s1.2 _ (by decide)]
  · show h3.2 60 j = h.2 14 j
    rw [e3 j hj, s2.2 _ (by decide), s1.2 _ (by decide)]
theorem c_Scene_copyFrom_61_8 {S : Nat → Int} {h : St} {Q : Option Value → St → Prop} (hC : CS 8 S h) (hn : (S 1).toNat ≤ 20) (hQ : ∀ h', Sm (fl6 61) [63, 65, 67] h h' → CS 61 S h' → Q none h') : SC y_Scene_copyFrom [.ref 61, .ref 8] h Q := by
  refine w_call IS_ok [] ok_Scene_copyFrom rfl rfl ?_
  refine c_Cells_copyFrom CA_62 CA_9 (by decide) (fun h1 s1 e1 => ?_)
  refine c_Cells_copyFrom CA_64 CA_11 (by decide) (fun h2 s2 e2 => ?_)
  refine c_Cells_copyFrom CA_66 CA_13 (by decide) (fun h3 s3 e3 => ?_)
  have f : ∀ k, h3.1 8 k = h.1 8 k := fun k => (s3.1 _ _ (by simp)).trans ((s2.1 _ _ (by simp)).trans (s1.1 _ _ (by simp)))
  refine hQ (pg (pg (pg (pg (pg (pg h3 61 3 (h3.1 8 3)) 61 4 (h3.1 8 4)) 61 5 (h3.1 8 5)) 61 6 (h3.1 8 6)) 61 7 (h3.1 8 7)) 61 8 (h3.1 8 8)) (((((((((s1.mo (by decide) (by decide)).t (s2.mo (by decide) (by decide))).t (s3.mo (by decide) (by decide))).t (Sm.pg _ (by decide))).t (Sm.pg _ (by decide))).t (Sm.pg _ (by decide))).t (Sm.pg _ (by decide))).t (Sm.pg _ (by decide))).t (Sm.pg _ (by decide))) (hC.cp hn (f 3) (f 4) (f 5) (f 6) (f 7) (f 8) (fun j hj => ?_) (fun j hj => ?_) (fun j hj => ?_))
  · show h3.2 63 j = h.2 10 j
    rw [s3.2 _ (by decide), s2.2 _ (by decide)]
    exact e1 j hj
  · show h3.2 65 j = h.2 12 j
    rw [s3.2 _ (by decide), e2 j hj, s1.2 _ (by decide)]
  · show h3.2 67 j = h.2 14 j
    rw [e3 j hj, s2.2 _ (by decide), s1.2 _ (by decide)]
theorem c_Scene_copyFrom_68_8 {S : Nat → Int} {h : St} {Q : Option Value → St → Prop} (hC : CS 8 S h) (hn : (S 1).toNat ≤ 20) (hQ : ∀ h', Sm (fl6 68) [70, 72, 74] h h' → CS 68 S h' → Q none h') : SC y_Scene_copyFrom [.ref 68, .ref 8] h Q := by
  refine w_call IS_ok [] ok_Scene_copyFrom rfl rfl ?_
  refine c_Cells_copyFrom CA_69 CA_9 (by decide) (fun h1 s1 e1 => ?_)
  refine c_Cells_copyFrom CA_71 CA_11 (by decide) (fun h2 s2 e2 => ?_)
  refine c_Cells_copyFrom CA_73 CA_13 (by decide) (fun h3 s3 e3 => ?_)
  have f : ∀ k, h3.1 8 k = h.1 8 k := fun k => (s3.1 _ _ (by simp)).trans ((s2.1 _ _ (by simp)).trans (s1.1 _ _ (by simp)))
  refine hQ (pg (pg (pg (pg (pg (pg h3 68 3 (h3.1 8 3)) 68 4 (h3.1 8 4)) 68 5 (h3.1 8 5)) 68 6 (h3.1 8 6)) 68 7 (h3.1 8 7)) 68 8 (h3.1 8 8)) (((((((((s1.mo (by decide) (by decide)).t (s2.mo (by decide) (by decide))).t (s3.mo (by decide) (by decide))).t (Sm.pg _ (by decide))).t (Sm.pg _ (by decide))).t (Sm.pg _ (by decide))).t (Sm.pg _ (by decide))).t (Sm.pg _ (by decide))).t (Sm.pg _ (by decide))) (hC.cp hn (f 3) (f 4) (f 5) (f 6) (f 7) (f 8) (fun j hj => ?_) (fun j hj => ?_) (fun j hj => ?_))
  · show h3.2 70 j = h.2 10 j
    rw [s3.2 _ (by decide), s2.2 _ (by decide)]
    exact e1 j hj
  · show h3.2 72 j = h.2 12 j
    rw [s3.2 _ (by decide), e2 j hj, s1.2 _ (by decide)]
  · show h3.2 74 j = h.2 14 j
    rw [e3 j hj, s2.2 _ (by decide), s1.2 _ (by decide)]
theorem c_Scene_copyFrom_1_40 {S : Nat → Int} {h : St} {Q : Option Value → St → Prop} (hC : CS 40 S h) (hn : (S 1).toNat ≤ 20) (hQ : ∀ h', Sm (fl6 1) [3, 5, 7] h h' → CS 1 S h' → Q none h') : SC y_Scene_copyFrom [.ref 1, .ref 40] h Q := by
  refine w_call IS_ok [] ok_Scene_copyFrom rfl rfl ?_
  refine c_Cells_copyFrom CA_2 CA_41 (by decide) (fun h1 s1 e1 => ?_)
  refine c_Cells_copyFrom CA_4 CA_43 (by decide) (fun h2 s2 e2 => ?_)
  refine c_Cells_copyFrom CA_6 CA_45 (by decide) (fun h3 s3 e3 => ?_)
  have f : ∀ k, h3.1 40 k = h.1 40 k := fun k => (s3.1 _ _ (by simp)).trans ((s2.1 _ _ (by simp)).trans (s1.1 _ _ (by simp)))
  refine hQ (pg (pg (pg (pg (pg (pg h3 1 3 (h3.1 40 3)) 1 4 (h3.1 40 4)) 1 5 (h3.1 40 5)) 1 6 (h3.1 40 6)) 1 7 (h3.1 40 7)) 1 8 (h3.1 40 8)) (((((((((s1.mo (by decide) (by decide)).t (s2.mo (by decide) (by decide))).t (s3.mo (by decide) (by decide))).t (Sm.pg _ (by decide))).t (Sm.pg _ (by decide))).t (Sm.pg _ (by decide))).t (Sm.pg _ (by decide))).t (Sm.pg _ (by decide))).t (Sm.pg _ (by decide))) (hC.cp hn (f 3) (f 4) (f 5) (f 6) (f 7) (f 8) (fun j hj => ?_) (fun j hj => ?_) (fun j hj => ?_))
  · show h3.2 3 j = h.2 42 j
    rw [s3.2 _ (by decide), s2.2 _ (by decide)]
    exact e1 j hj
  · show h3.2 5 j = h.2 44 j
    rw [s3.2 _ (by decide), e2 j hj, s1.2 _ (by decide)]
  · show h3.2 7 j = h.2 46 j
    rw [e3 j hj, s2.2 _ (by decide), s1.2 _ (by decide)]
theorem c_Scene_copyFrom_1_47 {S : Nat → Int} {h : St} {Q : Option Value → St → Prop} (hC : CS 47 S h) (hn : (S 1).toNat ≤ 20) (hQ : ∀ h', Sm (fl6 1) [3, 5, 7] h h' → CS 1 S h' → Q none h') : SC y_Scene_copyFrom [.ref 1, .ref 47] h Q := by
  refine w_call IS_ok [] ok_Scene_copyFrom rfl rfl ?_
  refine c_Cells_copyFrom CA_2 CA_48 (by decide) (fun h1 s1 e1 => ?_)
  refine c_Cells_copyFrom CA_4 CA_50 (by decide) (fun h2 s2 e2 => ?_)
  refine c_Cells_copyFrom CA_6 CA_52 (by decide) (fun h3 s3 e3 => ?_)
  have f : ∀ k, h3.1 47 k = h.1 47 k := fun k => (s3.1 _ _ (by simp)).trans ((s2.1 _ _ (by simp)).trans (s1.1 _ _ (by simp)))
  refine hQ (pg (pg (pg (pg (pg (pg h3 1 3 (h3.1 47 3)) 1 4 (h3.1 47 4)) 1 5 (h3.1 47 5)) 1 6 (h3.1 47 6)) 1 7 (h3.1 47 7)) 1 8 (h3.1 47 8)) (((((((((s1.mo (by decide) (by decide)).t (s2.mo (by decide) (by decide))).t (s3.mo (by decide) (by decide))).t (Sm.pg _ (by decide))).t (Sm.pg _ (by decide))).t (Sm.pg _ (by decide))).t (Sm.pg _ (by decide))).t (Sm.pg _ (by decide))).t (Sm.pg _ (by decide))) (hC.cp hn (f 3) (f 4) (f 5) (f 6) (f 7) (f 8) (fun j hj => ?_) (fun j hj => ?_) (fun j hj => ?_))
  · show h3.2 3 j = h.2 49 j
    rw [s3.2 _ (by decide), s2.2 _ (by decide)]
    exact e1 j hj
  · show h3.2 5 j = h.2 51 j
    rw [s3.2 _ (by decide), e2 j hj, s1.2 _ (by decide)]
  · show h3.2 7 j = h.2 53 j
    rw [e3 j hj, s2.2 _ (by decide), s1.2 _ (by decide)]
theorem c_Scene_copyFrom_1_54 {S : Nat → Int} {h : St} {Q : Option Value → St → Prop} (hC : CS 54 S h) (hn : (S 1).toNat ≤ 20) (hQ : ∀ h', Sm (fl6 1) [3, 5, 7] h h' → CS 1 S h' → Q none h') : SC y_Scene_copyFrom [.ref 1, .ref 54] h Q := by
  refine w_call IS_ok [] ok_Scene_copyFrom rfl rfl ?_
  refine c_Cells_copyFrom CA_2 CA_55 (by decide) (fun h1 s1 e1 => ?_)
  refine c_Cells_copyFrom CA_4 CA_57 (by decide) (fun h2 s2 e2 => ?_)
  refine c_Cells_copyFrom CA_6 CA_59 (by decide) (fun h3 s3 e3 => ?_)
  have f : ∀ k, h3.1 54 k = h.1 54 k := fun k => (s3.1 _ _ (by simp)).trans ((s2.1 _ _ (by simp)).trans (s1.1 _ _ (by simp)))
  refine hQ (pg (pg (pg (pg (pg (pg h3 1 3 (h3.1 54 3)) 1 4 (h3.1 54 4)) 1 5 (h3.1 54 5)) 1 6 (h3.1 54 6)) 1 7 (h3.1 54 7)) 1 8 (h3.1 54 8)) (((((((((s1.mo (by decide) (by decide)).t (s2.mo (by decide) (by decide))).t (s3.mo (by decide) (by decide))).t (Sm.pg _ (by decide))).t (Sm.pg _ (by decide))).t (Sm.pg _ (by decide))).t (Sm.pg _ (by decide))).t (Sm.pg _ (by decide))).t (Sm.pg _ (by decide))) (hC.cp hn (f 3) (f 4) (f 5) (f 6) (f 7) (f 8) (fun j hj => ?_) (fun j hj => ?_) (fun j hj => ?_))
  · show h3.2 3 j = h.2 56 j
    rw [s3.2 _ (by decide), s2.2 _ (by decide)]
    exact e1 j hj
  · show h3.2 5 j = h.2 58 j
    rw [s3.2 _ (by decide), e2 j hj, s1.2 _ (by decide)]
  · show h3.2 7 j = h.2 60 j
    rw [e3 j hj, s2.2 _ (by decide), s1.2 _ (by decide)]
theorem c_Scene_copyFrom_1_61 {S : Nat → Int} {h : St} {Q : Option Value → St → Prop} (hC : CS 61 S h) (hn : (S 1).toNat ≤ 20) (hQ : ∀ h', Sm (fl6 1) [3, 5, 7] h h' → CS 1 S h' → Q none h') : SC y_Scene_copyFrom [.ref 1, .ref 61] h Q := by
  refine w_call IS_ok [] ok_Scene_copyFrom rfl rfl ?_
  refine c_Cells_copyFrom CA_2 CA_62 (by decide) (fun h1 s1 e1 => ?_)
  refine c_Cells_copyFrom CA_4 CA_64 (by decide) (fun h2 s2 e2 => ?_)
  refine c_Cells_copyFrom CA_6 CA_66 (by decide) (fun h3 s3 e3 => ?_)
  have f : ∀ k, h3.1 61 k = h.1 61 k := fun k => (s3.1 _ _ (by simp)).trans ((s2.1 _ _ (by simp)).trans (s1.1 _ _ (by simp)))
  refine hQ (pg (pg (pg (pg (pg (pg h3 1 3 (h3.1 61 3)) 1 4 (h3.1 61 4)) 1 5 (h3.1 61 5)) 1 6 (h3.1 61 6)) 1 7 (h3.1 61 7)) 1 8 (h3.1 61 8)) (((((((((s1.mo (by decide) (by decide)).t (s2.mo (by decide) (by decide))).t (s3.mo (by decide) (by decide))).t (Sm.pg _ (by decide))).t (Sm.pg _ (by decide))).t (Sm.pg _ (by decide))).t (Sm.pg _ (by decide))).t (Sm.pg _ (by decide))).t (Sm.pg _ (by decide))) (hC.cp hn (f 3) (f 4) (f 5) (f 6) (f 7) (f 8) (fun j hj => ?_) (fun j hj => ?_) (fun j hj => ?_))
  · show h3.2 3 j = h.2 63 j
    rw [s3.2 _ (by decide), s2.2 _ (by decide)]
    exact e1 j hj
  · show h3.2 5 j = h.2 65 j
    rw [s3.2 _ (by decide), e2 j hj, s1.2 _ (by decide)]
  · show h3.2 7 j = h.2 67 j
    rw [e3 j hj, s2.2 _ (by decide), s1.2 _ (by decide)]
theorem c_Scene_copyFrom_1_68 {S : Nat → Int} {h : St} {Q : Option Value → St → Prop} (hC : CS 68 S h) (hn : (S 1).toNat ≤ 20) (hQ : ∀ h', Sm (fl6 1) [3, 5, 7] h h' → CS 1 S h' → Q none h') : SC y_Scene_copyFrom [.ref 1, .ref 68] h Q := by
  refine w_call IS_ok [] ok_Scene_copyFrom rfl rfl ?_
  refine c_Cells_copyFrom CA_2 CA_69 (by decide) (fun h1 s1 e1 => ?_)
  refine c_Cells_copyFrom CA_4 CA_71 (by decide) (fun h2 s2 e2 => ?_)
  refine c_Cells_copyFrom CA_6 CA_73 (by decide) (fun h3 s3 e3 => ?_)
  have f : ∀ k, h3.1 68 k = h.1 68 k := fun k => (s3.1 _ _ (by simp)).trans ((s2.1 _ _ (by simp)).trans (s1.1 _ _ (by simp)))
  refine hQ (pg (pg (pg (pg (pg (pg h3 1 3 (h3.1 68 3)) 1 4 (h3.1 68 4)) 1 5 (h3.1 68 5)) 1 6 (h3.1 68 6)) 1 7 (h3.1 68 7)) 1 8 (h3.1 68 8)) (((((((((s1.mo (by decide) (by decide)).t (s2.mo (by decide) (by decide))).t (s3.mo (by decide) (by decide))).t (Sm.pg _ (by decide))).t (Sm.pg _ (by decide))).t (Sm.pg _ (by decide))).t (Sm.pg _ (by decide))).t (Sm.pg _ (by decide))).t (Sm.pg _ (by decide))) (hC.cp hn (f 3) (f 4) (f 5) (f 6) (f 7) (f 8) (fun j hj => ?_) (fun j hj => ?_) (fun j hj => ?_))
  · show h3.2 3 j = h.2 70 j
    rw [s3.2 _ (by decide), s2.2 _ (by decide)]
    exact e1 j hj
  · show h3.2 5 j = h.2 72 j
    rw [s3.2 _ (by decide), e2 j hj, s1.2 _ (by decide)]
  · show h3.2 7 j = h.2 74 j
    rw [e3 j hj, s2.2 _ (by decide), s1.2 _ (by decide)]
end
section
/-! the class: what a scene answers, and its actions -/
theorem c_P_within {x l m : Int32} {h : St} {Q : Option Value → St → Prop} (a b c : Int) (hQ : Q (some (.int (bI (b ≤ a ∧ a ≤ c)))) h) (hx : x = iI a) (hl : l = iI b) (hm : m = iI c) (ra : rg a := by omega) (rb : rg b := by omega) (rc : rg c := by omega) : SC y_P_within [.int x, .int l, .int m] h Q := by
  refine w_call IS_ok [] ok_P_within rfl rfl ?_
  refine w_lt a b (fun g => ?_) (fun g => ?_) hx hl ra rb
  · rw [bI_f (by omega)] at hQ; exact ⟨Or.inl rfl, hQ⟩
  · refine w_lt c a (fun g2 => ?_) (fun g2 => ?_) hm hx rc ra
    · rw [bI_f (by omega)] at hQ; exact ⟨Or.inl rfl, hQ⟩
    · rw [bI_t (by omega)] at hQ; exact ⟨Or.inr rfl, hQ⟩
theorem thr_at {S : Nat → Int} (hW : WF S) {k : Nat} (hk : k < (S 1).toNat) : thr S (S (6 + k)) := by
  have := pos_is hW hk rfl
  show pos S (S (6 + k)) (S 1).toNat ≠ -109
  omega
theorem thr_no {S : Nat → Int} {p : Int} (h : ∀ j, j < (S 1).toNat → S (6 + j) ≠ p) : ¬ thr S p := fun z => z (pos_no.mpr h)
theorem thr_pos {S : Nat → Int} {p : Int} (h : thr S p) : (pos S p (S 1).toNat).toNat < (S 1).toNat ∧ pos S p (S 1).toNat = ((pos S p (S 1).toNat).toNat : Int) ∧ S (6 + (pos S p (S 1).toNat).toNat) = p := by
  rcases pos_b S p (S 1).toNat with h1 | ⟨h1, h2⟩
  · exact absurd h1 h
  · have := pos_at (S := S) (p := p) (n := (S 1).toNat) (k := (pos S p (S 1).toNat).toNat) (by omega)
    exact ⟨by omega, by omega, this.2⟩
theorem c_Scene_position {S : Nat → Int} {x : Int32} {h : St} {Q : Option Value → St → Prop} (hC : CS 1 S h) (hW : WF S) (p : Int) (hQ : Q (some (.int (iI (if thr S p then pos S p (S 1).toNat else -1)))) h) (hx : x = iI p) (rp : rg p) : SC y_Scene_position [.ref 1, .int x] h Q := by
  refine w_call IS_ok [2] ok_Scene_position rfl rfl ?_
  have hn := hW.n
  have fin : (∀ j, j < (S 1).toNat → S (6 + j) ≠ p) → Q (some (.int (-1))) h := by
    intro ha
    rw [if_neg (thr_no ha)] at hQ
    exact hQ
  have loop : ∀ (m k : Nat) (z : Int32), (S 1).toNat ≤ k + m → k ≤ (S 1).toNat → (∀ j, j < k → S (6 + j) ≠ p) → z = iI k → SR y_Scene_position 2 [some (.ref 1), some (.int x), some (.int z)] [] h Q := by
    intro m
    induction m with
    | zero =>
      intro k z hm hk ha hz
      refine w_loop IS_ok [2] ok_Scene_position ?_
      exact w_le (S 1) k (fun _ => fin (fun j hj => ha j (by omega))) (fun _ => by omega) hC.1.1 hz
    | succ m ih =>
      intro k z hm hk ha hz
      refine w_loop IS_ok [2] ok_Scene_position ?_
      refine w_le (S 1) k (fun _ => fin (fun j hj => ha j (by omega))) (fun g => ?_) hC.1.1 hz
      have hod := hW.od (k := k) (by omega)
      refine c_Cells_get1 CA_6 k (by omega) ?_ hz
      refine w_eq (S (6 + k)) p (fun g2 => ?_) (fun g2 => ?_) (hC.2.2.1 k (by omega)) hx
      · have e := pos_is hW (show k < (S 1).toNat by omega) g2
        rw [if_pos (by show pos S p (S 1).toNat ≠ -109; omega), e, ← hz] at hQ
        exact hQ
      · refine ih (k + 1) _ (by omega) (by omega) (fun j hj => ?_) (iI_1 hz)
        by_cases z1 : j = k
        · subst z1; exact g2
        · exact ha j (by omega)
  exact loop (S 1).toNat 0 _ (by omega) (by omega) (fun j hj => by omega) rfl
theorem c_Scene_exists {S : Nat → Int} {x : Int32} {h : St} {Q : Option Value → St → Prop} (hC : CS 1 S h) (hW : WF S) (p : Int) (hQ : Q (some (.int (bI (thr S p)))) h) (hx : x = iI p) (rp : rg p) : SC y_Scene_exists [.ref 1, .int x] h Q := by
  refine w_call IS_ok [] ok_Scene_exists rfl rfl ?_
  have hn := hW.n
  have hb := pos_b S p (S 1).toNat
  refine c_Scene_position hC hW p ?_ hx rp
  refine w_lt (if thr S p then pos S p (S 1).toNat else -1) 0 (fun g => ?_) (fun g => ?_) rfl rfl (by split <;> omega)
  · have : ¬ thr S p := fun z => by rw [if_pos z] at g; have := thr_pos z; omega
    rw [bI_f this] at hQ
    exact ⟨Or.inl rfl, hQ⟩
  · have : thr S p := Classical.byContradiction fun z => by rw [if_neg z] at g; omega
    rw [bI_t this] at hQ
    exact ⟨Or.inr rfl, hQ⟩
theorem c_Scene_hero {S : Nat → Int} {h : St} {Q : Option Value → St → Prop} (hC : CS 1 S h) (hW : WF S) (hQ : ∀ r, HerR S (S 1).toNat r → Q (some (.int (iI r))) h) : SC y_Scene_hero [.ref 1] h Q := by
  refine w_call IS_ok [2] ok_Scene_hero rfl rfl ?_
  have hn := hW.n
  have fin : ∀ k : Nat, S 0 ≤ k → (∀ j : Nat, j < k → ¬ thr S j) → Q (some (.int (-109))) h := by
    intro k hk ha
    refine hQ (-109) (Or.inl ⟨?_, rfl⟩)
    refine Classical.byContradiction fun z => ?_
    have hod := hW.od (k := 0) (by omega)
    have := thr_at hW (show 0 < (S 1).toNat by omega)
    rw [hod.1] at this
    exact ha _ (by omega) this
  have loop : ∀ (m k : Nat) (z : Int32), (S 0).toNat ≤ k + m → k ≤ (S 0).toNat → (∀ j : Nat, j < k → ¬ thr S j) → z = iI k → SR y_Scene_hero 2 [some (.ref 1), some (.int z)] [] h Q := by
    intro m
    induction m with
    | zero =>
      intro k z hm hk ha hz
      refine w_loop IS_ok [2] ok_Scene_hero ?_
      exact w_le (S 0) k (fun g => fin k g ha) (fun _ => by omega) hC.1.2.1 hz
    | succ m ih =>
      intro k z hm hk ha hz
      refine w_loop IS_ok [2] ok_Scene_hero ?_
      refine w_le (S 0) k (fun g => fin k g ha) (fun g => ?_) hC.1.2.1 hz
      refine c_Scene_exists hC hW k ?_ hz (by omega)
      refine w_b (fun g2 => ?_) (fun g2 => ?_)
      · refine ih (k + 1) _ (by omega) (by omega) (fun j hj => ?_) (iI_1 hz)
        by_cases z1 : j = k
        · subst z1; exact g2
        · exact ha j (by omega)
      · rw [hz]
        have hp := thr_pos g2
        refine hQ k (Or.inr ⟨_, hp.1, hp.2.2.symm, fun j hj => ?_⟩)
        have hod := hW.od hj
        refine Classical.byContradiction fun z1 => ?_
        have := thr_at hW hj
        rw [hod.1] at this
        exact ha _ (by omega) this
  exact loop (S 0).toNat 0 _ (by omega) (by omega) (fun j hj => by omega) rfl
theorem cntI {a b : Int} (ha : 0 ≤ a) : ∀ n : Nat, ((sm (fun y => if a ≤ (y : Int) ∧ (y : Int) ≤ b then 1 else 0) n : Nat) : Int) = if (if b + 1 ≤ n then b + 1 else (n : Int)) - a ≤ 0 then 0 else (if b + 1 ≤ n then b + 1 else (n : Int)) - a
  | 0 => by
    show (0 : Int) = _
    split <;> split <;> omega
  | n + 1 => by
    have ih := cntI (b := b) ha n
    show ((sm _ n + (if a ≤ (n : Int) ∧ (n : Int) ≤ b then 1 else 0) : Nat) : Int) = _
    rw [Int.natCast_add, ih]
    by_cases z : a ≤ (n : Int) ∧ (n : Int) ≤ b
    · rw [if_pos z]
      repeat' split
      all_goals omega
    · rw [if_neg z]
      repeat' split
      all_goals omega
theorem lns_fl {S : Nat → Int} {p : Nat} (hy : -15 ≤ S (26 + 9 * p + 1) ∧ S (26 + 9 * p + 1) ≤ 47) : (lns S p 48 : Int) = if 0 ≤ lst S p - fst S p + 1 then lst S p - fst S p + 1 else 0 := by
  have hf := fst_b hy
  have hl := lst_b hy
  have e : lns S p 48 = sm (fun y => if fst S p ≤ (y : Int) ∧ (y : Int) ≤ lst S p then 1 else 0) 48 := sm_congr (fun y hy => by
    by_cases z : stn S p y
    · rw [if_pos z, if_pos ((stn_fl hy).mp z)]
    · rw [if_neg z, if_neg (fun w => z ((stn_fl hy).mpr w))])
  rw [e, cntI hf.1]
  repeat' split
  all_goals omega
theorem c_Scene_linesOf {S : Nat → Int} {x : Int32} {h : St} {Q : Option Value → St → Prop} (hC : CS 1 S h) (p : Nat) (hp : p < 20) (hp0 : (p : Int) < S 0) (hy : -15 ≤ S (26 + 9 * p + 1) ∧ S (26 + 9 * p + 1) ≤ 47) (hQ : Q (some (.int (iI (lns S p 48 : Nat)))) h) (hx : x = iI p) : SC y_Scene_linesOf [.ref 1, .int x] h Q := by
  refine w_call IS_ok [] ok_Scene_linesOf rfl rfl ?_
  have hf := fst_b hy
  have hl := lst_b hy
  refine c_Scene_lastLine_1 hC p hp hp0 hy ?_ hx
  refine c_Scene_firstLine_1 hC p hp hy ?_ hx
  refine c_J_max (lst S p - fst S p + 1) 0 ?_ ?_ rfl
  · rw [lns_fl hy] at hQ
    exact hQ
  · exact (congrArg (· + 1) (iI_sub _ _)).trans (iI_add _ 1)
theorem c_Scene_standsOn {S : Nat → Int} {x y : Int32} {h : St} {Q : Option Value → St → Prop} (hC : CS 1 S h) (p l : Nat) (hp : p < 20) (hp0 : (p : Int) < S 0) (hy : -15 ≤ S (26 + 9 * p + 1) ∧ S (26 + 9 * p + 1) ≤ 47) (hl : l < 48) (hQ : Q (some (.int (bI (stn S p l)))) h) (hx : x = iI p) (h2 : y = iI l) : SC y_Scene_standsOn [.ref 1, .int x, .int y] h Q := by
  refine w_call IS_ok [] ok_Scene_standsOn rfl rfl ?_
  have hf := fst_b hy
  have hl2 := lst_b hy
  refine c_Scene_firstLine_1 hC p hp hy ?_ hx
  refine c_Scene_lastLine_1 hC p hp hp0 hy ?_ hx
  refine c_P_within l (fst S p) (lst S p) ?_ h2 rfl rfl
  refine ⟨bI_01 _, ?_⟩
  rw [bI_iff (stn_fl hl)] at hQ
  exact hQ
theorem c_Scene_isPlace {x y : Int32} {h : St} {Q : Option Value → St → Prop} (a b : Int) (hQ : Q (some (.int (bI ((-15 ≤ a ∧ a ≤ 63) ∧ (-15 ≤ b ∧ b ≤ 47))))) h) (hx : x = iI a) (hy : y = iI b) (ra : rg a) (rb : rg b) : SC y_Scene_isPlace [.int x, .int y] h Q := by
  refine w_call IS_ok [] ok_Scene_isPlace rfl rfl ?_
  refine c_P_within a (-15) 63 ?_ hx rfl rfl ra
  refine w_b (fun h1 => ?_) (fun h1 => ?_)
  · exact ⟨Or.inl rfl, by rwa [bI_f (by omega)] at hQ⟩
  · refine c_P_within b (-15) 47 ?_ hy rfl rfl rb
    refine w_b (fun h2 => ?_) (fun h2 => ?_)
    · exact ⟨Or.inl rfl, by rwa [bI_f (by omega)] at hQ⟩
    · exact ⟨Or.inr rfl, by rwa [bI_t (by omega)] at hQ⟩
theorem CS.pic {S : Nat → Int} {h : St} (hC : CS 1 S h) (hn : (S 1).toNat ≤ 20) (a b : Nat) (hab : a * 8 + b < 64) (v : Int) : CS 1 (u1 S (206 + 8 * a + b) v) (wa h 3 (a * 8 + b) (iI v)) := by
  obtain ⟨⟨a1, a2, a3, a4, a5, a6⟩, q, c, d, f, g⟩ := hC
  have e : ∀ i, i < 206 → u1 S (206 + 8 * a + b) v i = S i := fun i hi => u1_n _ _ (by omega)
  refine ⟨⟨by rw [e 1 (by omega)]; exact a1, by rw [e 0 (by omega)]; exact a2, by rw [e 2 (by omega)]; exact a3, by rw [e 3 (by omega)]; exact a4, by rw [e 4 (by omega)]; exact a5, by rw [e 5 (by omega)]; exact a6⟩, fun i hi => ?_, fun k hk => ?_, fun p hp j hj => ?_, fun p hp h0 => ?_, fun p hp j hj => ?_⟩
  · by_cases z : i = a * 8 + b
    · rw [z, show 206 + (a * 8 + b) = 206 + 8 * a + b by omega, u1_s]
      exact wa_s _ _ _ _
    · rw [u1_n _ _ (by omega)]
      exact (wa_n h 3 _ _ z).trans (q i hi)
  · rw [e 1 (by omega)] at hk
    rw [e _ (by omega)]
    exact (congrFun (wa_o h 3 _ _ (by decide)) k).trans (c k hk)
  · rw [e _ (by omega)]
    exact (congrFun (wa_o h 3 _ _ (by decide)) _).trans (d p hp j hj)
  · rw [e 0 (by omega)] at h0
    have := f p hp h0
    unfold hgh at this ⊢
    rw [e _ (by omega)]
    exact (congrFun (wa_o h 3 _ _ (by decide)) _).trans this
  · rw [e _ (by omega)]
    exact (congrFun (wa_o h 3 _ _ (by decide)) _).trans (g p hp j hj)
theorem CS.pup {S : Nat → Int} {h : St} (hC : CS 1 S h) (hn : (S 1).toNat ≤ 20) (p : Nat) (hp : p < 20) (j : Nat) (hj : j < 6) (hj2 : j ≠ 2) (v : Int) : CS 1 (u1 S (26 + 9 * p + j) v) (wa h 5 (p * 10 + j) (iI v)) := by
  obtain ⟨⟨a1, a2, a3, a4, a5, a6⟩, q, c, d, f, g⟩ := hC
  have e : ∀ i, i < 26 → u1 S (26 + 9 * p + j) v i = S i := fun i hi => u1_n _ _ (by omega)
  refine ⟨⟨by rw [e 1 (by omega)]; exact a1, by rw [e 0 (by omega)]; exact a2, by rw [e 2 (by omega)]; exact a3, by rw [e 3 (by omega)]; exact a4, by rw [e 4 (by omega)]; exact a5, by rw [e 5 (by omega)]; exact a6⟩, fun i hi => ?_, fun k hk => ?_, fun p' hp' j' hj' => ?_, fun p' hp' h0 => ?_, fun p' hp' j' hj' => ?_⟩
  · rw [u1_n _ _ (by omega)]
    exact (congrFun (wa_o h 5 _ _ (by decide)) i).trans (q i hi)
  · rw [e 1 (by omega)] at hk
    rw [e _ (by omega)]
    exact (congrFun (wa_o h 5 _ _ (by decide)) k).trans (c k hk)
  · by_cases z : p' = p ∧ j' = j
    · rw [z.1, z.2, u1_s]
      exact wa_s _ _ _ _
    · rw [u1_n _ _ (by omega)]
      exact (wa_n h 5 _ _ (by omega)).trans (d p' hp' j' hj')
  · rw [e 0 (by omega)] at h0
    have := f p' hp' h0
    unfold hgh at this ⊢
    rw [u1_n _ _ (by omega)]
    exact (wa_n h 5 _ _ (by omega)).trans this
  · rw [u1_n _ _ (by omega)]
    exact (wa_n h 5 _ _ (by omega)).trans (g p' hp' j' hj')
theorem c_Scene_redraw {S : Nat → Int} {x1 x2 x3 : Int32} {h : St} {Q : Option Value → St → Prop} (hC : CS 1 S h) (hn : (S 1).toNat ≤ 20) (a b c : Int) (hQ0 : ¬ ((0 ≤ a ∧ a ≤ 7) ∧ (0 ≤ b ∧ b ≤ 7) ∧ (0 ≤ c ∧ c ≤ 255)) → Q (some (.int (-101))) h) (hQ1 : ((0 ≤ a ∧ a ≤ 7) ∧ (0 ≤ b ∧ b ≤ 7) ∧ (0 ≤ c ∧ c ≤ 255)) → ∀ h', Sm [] [3] h h' → CS 1 (u1 S (206 + 8 * a.toNat + b.toNat) c) h' → Q (some (.int (iI (S (206 + 8 * a.toNat + b.toNat))))) h') (h1 : x1 = iI a) (h2 : x2 = iI b) (h3 : x3 = iI c) (ra : rg a) (rb : rg b) (rc : rg c) : SC y_Scene_redraw [.ref 1, .int x1, .int x2, .int x3] h Q := by
  refine w_call IS_ok [] ok_Scene_redraw rfl rfl ?_
  refine c_P_within a 0 7 ?_ h1 rfl rfl ra
  refine w_b (fun g1 => hQ0 (fun z => g1 z.1)) (fun g1 => ?_)
  refine c_P_within b 0 7 ?_ h2 rfl rfl rb
  refine w_b (fun g2 => hQ0 (fun z => g2 z.2.1)) (fun g2 => ?_)
  refine c_P_within c 0 255 ?_ h3 rfl rfl rc
  refine w_b (fun g3 => hQ0 (fun z => g3 z.2.2)) (fun g3 => ?_)
  have e1 : x1 = iI (a.toNat : Int) := h1.trans (congrArg iI (by omega))
  have e2 : x2 = iI (b.toNat : Int) := h2.trans (congrArg iI (by omega))
  refine c_Cells_get2 CA_2 a.toNat b.toNat (by omega) ?_ e1 e2
  refine c_Cells_set3 CA_2 a.toNat b.toNat (by omega) ?_ e1 e2
  have ev : h.2 3 (a.toNat * 8 + b.toNat) = iI (S (206 + 8 * a.toNat + b.toNat)) := (hC.2.1 (a.toNat * 8 + b.toNat) (by omega)).trans (by rw [show 206 + (a.toNat * 8 + b.toNat) = 206 + 8 * a.toNat + b.toNat by omega])
  have := hQ1 ⟨g1, g2, g3⟩ (wa h 3 (a.toNat * 8 + b.toNat) (iI c)) (Sm.wa _ _ (by decide)) (hC.pic hn _ _ (by omega) c)
  rw [← ev, ← h3] at this
  exact this
theorem c_Scene_relocate {S : Nat → Int} {x1 x2 x3 : Int32} {h : St} {Q : Option Value → St → Prop} (hC : CS 1 S h) (hW : WF S) (p x y : Int) (hQ0 : ¬ (thr S p ∧ (-15 ≤ x ∧ x ≤ 63) ∧ (-15 ≤ y ∧ y ≤ 47)) → Q (some (.int (-101))) h) (hQ1 : (thr S p ∧ (-15 ≤ x ∧ x ≤ 63) ∧ (-15 ≤ y ∧ y ≤ 47)) → ∀ h', Sm [] [5] h h' → CS 1 (mvS S p.toNat x y) h' → Q (some (.int (iI (lns (mvS S p.toNat x y) p.toNat 48 : Nat)))) h') (h1 : x1 = iI p) (h2 : x2 = iI x) (h3 : x3 = iI y) (rp : rg p) (rx : rg x) (ry : rg y) : SC y_Scene_relocate [.ref 1, .int x1, .int x2, .int x3] h Q := by
  refine w_call IS_ok [] ok_Scene_relocate rfl rfl ?_
  have hn := hW.n
  refine c_Scene_exists hC hW p ?_ h1 rp
  refine w_b (fun g1 => hQ0 (fun z => g1 z.1)) (fun g1 => ?_)
  refine c_Scene_isPlace x y ?_ h2 h3 rx ry
  refine w_b (fun g2 => hQ0 (fun z => g2 z.2)) (fun g2 => ?_)
  have hb := thr_b hW g1
  have e1 : x1 = iI (p.toNat : Int) := h1.trans (congrArg iI (by omega))
  refine c_Cells_set3 CA_4 p.toNat 0 (by omega) ?_ e1 rfl
  refine c_Cells_set3 CA_4 p.toNat 1 (by omega) ?_ e1 rfl
  have hC2 : CS 1 (mvS S p.toNat x y) (wa (wa h 5 (p.toNat * 10 + 0) x2) 5 (p.toNat * 10 + 1) x3) := by
    rw [h2, h3]
    exact (hC.pup hn.2.1 p.toNat (by omega) 0 (by omega) (by omega) x).pup (by rw [u1_n _ _ (by omega)]; exact hn.2.1) p.toNat (by omega) 1 (by omega) (by omega) y
  have hW2 := hW.mv (p := p.toNat) (by omega) g2.1 g2.2
  have e0 : mvS S p.toNat x y 0 = S 0 := mvS_n (by omega) (by omega)
  refine c_Scene_linesOf hC2 p.toNat (by omega) (by rw [e0]; omega) (hW2.wp _ (by omega)).2.1 ?_ e1
  exact hQ1 ⟨g1, g2⟩ _ ((Sm.wa _ _ (by decide)).t (Sm.wa _ _ (by decide))) hC2
theorem c_Scene_flip {S : Nat → Int} {x1 x2 : Int32} {h : St} {Q : Option Value → St → Prop} (hC : CS 1 S h) (hW : WF S) (p f : Int) (hQ0 : ¬ (thr S p ∧ (0 ≤ f ∧ f ≤ 3)) → Q (some (.int (-101))) h) (hQ1 : (thr S p ∧ (0 ≤ f ∧ f ≤ 3)) → ∀ h', Sm [] [5] h h' → CS 1 (u1 S (26 + 9 * p.toNat + 5) f) h' → Q (some (.int (iI (S (26 + 9 * p.toNat + 5))))) h') (h1 : x1 = iI p) (h2 : x2 = iI f) (rp : rg p) (rf : rg f) : SC y_Scene_flip [.ref 1, .int x1, .int x2] h Q := by
  refine w_call IS_ok [] ok_Scene_flip rfl rfl ?_
  have hn := hW.n
  refine c_Scene_exists hC hW p ?_ h1 rp
  refine w_b (fun g1 => hQ0 (fun z => g1 z.1)) (fun g1 => ?_)
  refine c_P_within f 0 3 ?_ h2 rfl rfl rf
  refine w_b (fun g2 => hQ0 (fun z => g2 z.2)) (fun g2 => ?_)
  have hb := thr_b hW g1
  have e1 : x1 = iI (p.toNat : Int) := h1.trans (congrArg iI (by omega))
  refine c_Cells_get2 CA_4 p.toNat 5 (by omega) ?_ e1 rfl
  refine c_Cells_set3 CA_4 p.toNat 5 (by omega) ?_ e1 rfl
  have ev : h.2 5 (p.toNat * 10 + 5) = iI (S (26 + 9 * p.toNat + 5)) := hC.2.2.2.1 p.toNat (by omega) 5 (by omega)
  have := hQ1 ⟨g1, g2⟩ (wa h 5 (p.toNat * 10 + 5) (iI f)) (Sm.wa _ _ (by decide)) (hC.pup hn.2.1 p.toNat (by omega) 5 (by omega) (by omega) f)
  rw [← ev, ← h2] at this
  exact this
theorem CS.ord {S : Nat → Int} {n : Nat} {o : Nat → Nat} {h h' : St} (hC : CS 1 S h) (h3 : h'.1 1 3 = iI n) (hf : ∀ k, k ≠ 3 → h'.1 1 k = h.1 1 k) (r3 : h'.2 3 = h.2 3) (r5 : h'.2 5 = h.2 5) (hn : n ≤ 20) (ho : ∀ k, k < n → h'.2 7 k = iI (o k : Nat)) : CS 1 (ordS S n o) h' := by
  have e : ∀ i, i ≠ 1 → ¬ (6 ≤ i ∧ i < 26) → ordS S n o i = S i := fun i h1 h2 => by unfold ordS; rw [if_neg h1, if_neg h2]
  refine hC.mk2 r3 r5 ⟨h3, ?_, ?_, ?_, ?_, ?_⟩ (fun k hk => ?_) (e 0 (by omega) (by omega)) (fun i hi => e i (by omega) (by omega))
  · rw [e 0 (by omega) (by omega), hf 4 (by omega)]; exact hC.1.2.1
  · rw [e 2 (by omega) (by omega), hf 5 (by omega)]; exact hC.1.2.2.1
  · rw [e 3 (by omega) (by omega), hf 6 (by omega)]; exact hC.1.2.2.2.1
  · rw [e 4 (by omega) (by omega), hf 7 (by omega)]; exact hC.1.2.2.2.2.1
  · rw [e 5 (by omega) (by omega), hf 8 (by omega)]; exact hC.1.2.2.2.2.2
  · have hk : k < n := hk
    refine (ho k hk).trans (congrArg iI ?_)
    unfold ordS
    rw [if_neg (by omega), if_pos (by omega), show 6 + k - 6 = k by omega]
theorem c_Scene_putAt {S : Nat → Int} {x1 x2 : Int32} {h : St} {Q : Option Value → St → Prop} (hC : CS 1 S h) (hW : WF S) (p : Int) (t : Nat) (ht : t < 20) (hQ0 : ¬ thr S p → Q (some (.int (-101))) h) (hQ1 : thr S p → ∀ h', Sm [] [7] h h' → (∀ k, k < 20 → h'.2 7 k = shf (h.2 7) (pos S p (S 1).toNat).toNat t k) → Q (some (.int (iI (pos S p (S 1).toNat)))) h') (h1 : x1 = iI p) (h2 : 0 < (S 1).toNat → x2 = iI t) (rp : rg p) : SC y_Scene_putAt [.ref 1, .int x1, .int x2] h Q := by
  refine w_call IS_ok [] ok_Scene_putAt rfl rfl ?_
  have hn := hW.n
  have hb := pos_b S p (S 1).toNat
  refine c_Scene_position hC hW p ?_ h1 rp
  refine w_le 0 (if thr S p then pos S p (S 1).toNat else -1) (fun g => ?_) (fun g => ?_) rfl rfl (by omega) (by split <;> omega)
  · have ht1 : thr S p := Classical.byContradiction fun z => by rw [if_neg z] at g; omega
    have hp := thr_pos ht1
    rw [if_pos ht1]
    exact c_Scene_shiftInOrder_1 (pos S p (S 1).toNat).toNat t (by omega) ht (fun h' hs hr => hQ1 ht1 h' hs hr) (congrArg iI hp.2.1) (h2 (by omega))
  · have : ¬ thr S p := fun z => by rw [if_pos z] at g; have := thr_pos z; omega
    exact hQ0 this
theorem od_row {S : Nat → Int} {h : St} (hC : CS 1 S h) (hW : WF S) {k : Nat} (hk : k < (S 1).toNat) : h.2 7 k = iI (od S k : Nat) := (hC.2.2.1 k hk).trans (congrArg iI (hW.od hk).1)
theorem c_Scene_putFirst {S : Nat → Int} {x1 : Int32} {h : St} {Q : Option Value → St → Prop} (hC : CS 1 S h) (hW : WF S) (p : Int) (hQ0 : ¬ thr S p → Q (some (.int (-101))) h) (hQ1 : thr S p → ∀ h', Sm [] [7] h h' → CS 1 (ordS S (S 1).toNat (lftO (od S) (pos S p (S 1).toNat).toNat)) h' → Q (some (.int (iI (pos S p (S 1).toNat)))) h') (h1 : x1 = iI p) (rp : rg p) : SC y_Scene_putFirst [.ref 1, .int x1] h Q := by
  refine w_call IS_ok [] ok_Scene_putFirst rfl rfl ?_
  have hn := hW.n
  refine c_Scene_putAt hC hW p 0 (by omega) hQ0 (fun ht h' hs hr => ?_) h1 (fun _ => rfl) rp
  have hp := thr_pos ht
  refine hQ1 ht h' hs (hC.ord (by rw [hs.1 _ _ (by decide)]; exact hC.1.1.trans (congrArg iI hn.1)) (fun k _ => hs.1 _ _ (by simp)) (hs.2 _ (by decide)) (hs.2 _ (by decide)) hn.2.1 (fun k hk => ?_))
  rw [hr k (by omega)]
  unfold shf lftO
  by_cases z : k = 0
  · rw [if_pos z, if_pos z]; exact od_row hC hW hp.1
  · rw [if_neg z, if_neg z, if_neg (by omega)]
    by_cases z2 : k ≤ (pos S p (S 1).toNat).toNat
    · rw [if_pos (by omega), if_pos z2]; exact od_row hC hW (by omega)
    · rw [if_neg (by omega), if_neg z2]; exact od_row hC hW hk
theorem c_Scene_putLast {S : Nat → Int} {x1 : Int32} {h : St} {Q : Option Value → St → Prop} (hC : CS 1 S h) (hW : WF S) (p : Int) (hQ0 : ¬ thr S p → Q (some (.int (-101))) h) (hQ1 : thr S p → ∀ h', Sm [] [7] h h' → CS 1 (ordS S (S 1).toNat (lowO (od S) (pos S p (S 1).toNat).toNat (S 1).toNat)) h' → Q (some (.int (iI (pos S p (S 1).toNat)))) h') (h1 : x1 = iI p) (rp : rg p) : SC y_Scene_putLast [.ref 1, .int x1] h Q := by
  refine w_call IS_ok [] ok_Scene_putLast rfl rfl ?_
  have hn := hW.n
  have f3 : h.1 1 3 = iI (S 1).toNat := hC.1.1.trans (congrArg iI hn.1)
  refine c_Scene_putAt hC hW p ((S 1).toNat - 1) (by omega) hQ0 (fun ht h' hs hr => ?_) h1 (fun z => iI_q f3 z) rp
  have hp := thr_pos ht
  refine hQ1 ht h' hs (hC.ord (by rw [hs.1 _ _ (by decide)]; exact f3) (fun k _ => hs.1 _ _ (by simp)) (hs.2 _ (by decide)) (hs.2 _ (by decide)) hn.2.1 (fun k hk => ?_))
  rw [hr k (by omega)]
  unfold shf lowO
  by_cases z : k = (S 1).toNat - 1
  · rw [if_pos z]
    by_cases z3 : k < (pos S p (S 1).toNat).toNat
    · omega
    · rw [if_neg z3, if_neg (by omega)]; exact od_row hC hW hp.1
  · rw [if_neg z]
    by_cases z3 : k < (pos S p (S 1).toNat).toNat
    · rw [if_pos z3, if_neg (by omega), if_neg (by omega)]; exact od_row hC hW hk
    · rw [if_neg z3, if_pos (by omega), if_pos (by omega)]; exact od_row hC hW (by omega)
theorem c_Scene_dismiss {S : Nat → Int} {x1 : Int32} {h : St} {Q : Option Value → St → Prop} (hC : CS 1 S h) (hW : WF S) (p : Int) (hQ0 : ¬ thr S p → Q (some (.int (-101))) h) (hQ1 : thr S p → ∀ h', Sm [(1, 3)] [7] h h' → CS 1 (ordS S ((S 1).toNat - 1) (outO (od S) (pos S p (S 1).toNat).toNat)) h' → Q (some (.int (iI (pos S p (S 1).toNat)))) h') (h1 : x1 = iI p) (rp : rg p) : SC y_Scene_dismiss [.ref 1, .int x1] h Q := by
  refine w_call IS_ok [] ok_Scene_dismiss rfl rfl ?_
  have hn := hW.n
  refine c_Scene_putLast hC hW p (fun hz => ?_) (fun ht h' hs hC' => ?_) h1 rp
  · exact hQ0 hz
  have hp := thr_pos ht
  have f3 : h'.1 1 3 = iI (S 1).toNat := by rw [hs.1 _ _ (by decide)]; exact hC.1.1.trans (congrArg iI hn.1)
  refine w_lt (pos S p (S 1).toNat) 0 (fun g => by omega) (fun g => ?_) rfl rfl
  refine hQ1 ht (pg h' 1 3 (h'.1 1 3 - 1)) ((hs.mo (by decide) (by decide)).t (Sm.pg _ (by decide))) (hC.ord ?_ (fun k hk => ?_) (hs.2 3 (by decide)) (hs.2 5 (by decide)) (by omega) (fun k hk => ?_))
  · rw [pg_s]; exact iI_q f3 (by omega)
  · rw [pg_n _ _ _ _ hk]; exact hs.1 _ _ (by simp)
  · refine (hC'.2.2.1 k (by show k < _; have : ((ordS S (S 1).toNat (lowO (od S) (pos S p (S 1).toNat).toNat (S 1).toNat)) 1).toNat = (S 1).toNat := rfl; omega)).trans (congrArg iI ?_)
    unfold ordS
    rw [if_neg (by omega), if_pos (by omega), show 6 + k - 6 = k by omega]
    unfold lowO outO
    by_cases z3 : k < (pos S p (S 1).toNat).toNat
    · rw [if_pos z3, if_pos z3]
    · rw [if_neg z3, if_neg z3, if_pos (by omega)]
end
section
/-! the class: more actions of a scene -/
theorem CS.fld {S S' : Nat → Int} {h h' : St} (hC : CS 1 S h) (r3 : h'.2 3 = h.2 3) (r5 : h'.2 5 = h.2 5) (r7 : h'.2 7 = h.2 7) (hf : h'.1 1 3 = iI (S' 1) ∧ h'.1 1 4 = iI (S' 0) ∧ h'.1 1 5 = iI (S' 2) ∧ h'.1 1 6 = iI (S' 3) ∧ h'.1 1 7 = iI (S' 4) ∧ h'.1 1 8 = iI (S' 5)) (h0 : S' 0 = S 0) (h1 : S' 1 = S 1) (hs : ∀ i, 6 ≤ i → S' i = S i) : CS 1 S' h' := by
  refine hC.mk2 r3 r5 hf (fun k hk => ?_) h0 (fun i hi => hs i (by omega))
  rw [h1] at hk
  rw [hs _ (by omega)]
  exact (congrFun r7 k).trans (hC.2.2.1 k hk)
theorem c_Scene_changeLimit {S : Nat → Int} {x1 : Int32} {h : St} {Q : Option Value → St → Prop} (hC : CS 1 S h) (l : Int) (hQ0 : ¬ (1 ≤ l ∧ l ≤ 8) → Q (some (.int (-101))) h) (hQ1 : (1 ≤ l ∧ l ≤ 8) → ∀ h', Sm [(1, 5)] [] h h' → CS 1 (u1 S 2 l) h' → Q (some (.int (iI (S 2)))) h') (h1 : x1 = iI l) (rl : rg l) : SC y_Scene_changeLimit [.ref 1, .int x1] h Q := by
  refine w_call IS_ok [] ok_Scene_changeLimit rfl rfl ?_
  refine c_P_within l 1 8 ?_ h1 rfl rfl rl
  refine w_b (fun g1 => hQ0 g1) (fun g1 => ?_)
  have := hQ1 g1 (pg h 1 5 x1) (Sm.pg _ (by decide)) (hC.fld rfl rfl rfl ⟨hC.1.1, hC.1.2.1, h1, hC.1.2.2.2.1, hC.1.2.2.2.2.1, hC.1.2.2.2.2.2⟩ rfl rfl (fun i hi => u1_n _ _ (by omega)))
  rw [← hC.1.2.2.1] at this
  exact this
theorem c_Scene_changeRule {S : Nat → Int} {x1 x2 : Int32} {h : St} {Q : Option Value → St → Prop} (hC : CS 1 S h) (a b : Int) (hQ0 : ¬ ((0 ≤ a ∧ a ≤ 2) ∧ (1 ≤ b ∧ b ≤ 19)) → Q (some (.int (-101))) h) (hQ1 : ((0 ≤ a ∧ a ≤ 2) ∧ (1 ≤ b ∧ b ≤ 19)) → ∀ h', Sm [(1, 6), (1, 7)] [] h h' → CS 1 (u1 (u1 S 3 a) 4 b) h' → Q (some (.int (iI (S 3)))) h') (h1 : x1 = iI a) (h2 : x2 = iI b) (ra : rg a) (rb : rg b) : SC y_Scene_changeRule [.ref 1, .int x1, .int x2] h Q := by
  refine w_call IS_ok [] ok_Scene_changeRule rfl rfl ?_
  refine c_P_within a 0 2 ?_ h1 rfl rfl ra
  refine w_b (fun g1 => hQ0 (fun z => g1 z.1)) (fun g1 => ?_)
  refine c_P_within b 1 19 ?_ h2 rfl rfl rb
  refine w_b (fun g2 => hQ0 (fun z => g2 z.2)) (fun g2 => ?_)
  have := hQ1 ⟨g1, g2⟩ (pg (pg h 1 6 x1) 1 7 x2) ((Sm.pg _ (by decide)).t (Sm.pg _ (by decide))) (hC.fld rfl rfl rfl ⟨hC.1.1, hC.1.2.1, hC.1.2.2.1, h1, h2, hC.1.2.2.2.2.2⟩ rfl rfl (fun i hi => (u1_n _ _ (by omega)).trans (u1_n _ _ (by omega))))
  rw [← hC.1.2.2.2.1] at this
  exact this
theorem cmS_26 {S : Nat → Int} {x y t g c : Int} {i : Nat} (hn : (S 1).toNat < 20) (hi : 26 ≤ i) (h0 : ∀ j, j < 5 → i ≠ 26 + 9 * (S 0).toNat + j) : cmS S x y t g c i = S i := by
  unfold cmS
  rw [u1_n _ _ (h0 4 (by omega)), u1_n _ _ (h0 3 (by omega)), u1_n _ _ (h0 2 (by omega)), u1_n _ _ (h0 1 (by omega)), u1_n _ _ (show i ≠ 26 + 9 * (S 0).toNat from h0 0 (by omega)), u1_n _ _ (by omega), u1_n _ _ (by omega), u1_n _ _ (by omega)]
theorem cmS_lo {S : Nat → Int} {x y t g c : Int} {i : Nat} (hi : i < 26) : cmS S x y t g c i = u1 (u1 (u1 S 0 (S 0 + 1)) (6 + (S 1).toNat) (S 0)) 1 (S 1 + 1) i := by
  unfold cmS
  rw [u1_n _ _ (by omega), u1_n _ _ (by omega), u1_n _ _ (by omega), u1_n _ _ (by omega), u1_n _ _ (by omega)]
theorem cmS_p {S : Nat → Int} {x y t g c : Int} : cmS S x y t g c (26 + 9 * (S 0).toNat + 0) = x ∧ cmS S x y t g c (26 + 9 * (S 0).toNat + 1) = y ∧ cmS S x y t g c (26 + 9 * (S 0).toNat + 2) = t ∧ cmS S x y t g c (26 + 9 * (S 0).toNat + 3) = g ∧ cmS S x y t g c (26 + 9 * (S 0).toNat + 4) = c := by
  unfold cmS
  refine ⟨?_, ?_, ?_, ?_, ?_⟩
  · rw [u1_n _ _ (by omega), u1_n _ _ (by omega), u1_n _ _ (by omega), u1_n _ _ (by omega)]; exact u1_s _ _ _
  · rw [u1_n _ _ (by omega), u1_n _ _ (by omega), u1_n _ _ (by omega), u1_s]
  · rw [u1_n _ _ (by omega), u1_n _ _ (by omega), u1_s]
  · rw [u1_n _ _ (by omega), u1_s]
  · rw [u1_s]
set_option maxHeartbeats 4000000 in
theorem c_Scene_admit {S : Nat → Int} {x1 x2 x3 x4 x5 : Int32} {h : St} {Q : Option Value → St → Prop} (hC : CS 1 S h) (hW : WF S) (x y t g c : Int)
    (hQ0 : ¬ (((-15 ≤ x ∧ x ≤ 63) ∧ (-15 ≤ y ∧ y ≤ 47)) ∧ (0 ≤ t ∧ t ≤ 1) ∧ (0 ≤ g ∧ g ≤ 7) ∧ (1 ≤ c ∧ c ≤ 9)) → Q (some (.int (-101))) h)
    (hQ1 : (((-15 ≤ x ∧ x ≤ 63) ∧ (-15 ≤ y ∧ y ≤ 47)) ∧ (0 ≤ t ∧ t ≤ 1) ∧ (0 ≤ g ∧ g ≤ 7) ∧ (1 ≤ c ∧ c ≤ 9)) → S 0 = 20 → Q (some (.int (-103))) h)
    (hQ2 : (((-15 ≤ x ∧ x ≤ 63) ∧ (-15 ≤ y ∧ y ≤ 47)) ∧ (0 ≤ t ∧ t ≤ 1) ∧ (0 ≤ g ∧ g ≤ 7) ∧ (1 ≤ c ∧ c ≤ 9)) → S 0 ≠ 20 → ∀ h', Sm [(1, 3), (1, 4)] [5, 7] h h' → CS 1 (cmS S x y t g c) h' → Q (some (.int (iI (S 0)))) h')
    (h1 : x1 = iI x) (h2 : x2 = iI y) (h3 : x3 = iI t) (h4 : x4 = iI g) (h5 : x5 = iI c) (rx : rg x) (ry : rg y) (rt : rg t) (rgg : rg g) (rc : rg c) : SC y_Scene_admit [.ref 1, .int x1, .int x2, .int x3, .int x4, .int x5] h Q := by
  refine w_call IS_ok [146] ok_Scene_admit rfl rfl ?_
  have hn := hW.n
  refine c_Scene_isPlace x y ?_ h1 h2 rx ry
  refine w_b (fun g1 => hQ0 (fun z => g1 z.1)) (fun g1 => ?_)
  refine c_P_within t 0 1 ?_ h3 rfl rfl rt
  refine w_b (fun g2 => hQ0 (fun z => g2 z.2.1)) (fun g2 => ?_)
  refine c_P_within g 0 7 ?_ h4 rfl rfl rgg
  refine w_b (fun g3 => hQ0 (fun z => g3 z.2.2.1)) (fun g3 => ?_)
  refine c_P_within c 1 9 ?_ h5 rfl rfl rc
  refine w_b (fun g4 => hQ0 (fun z => g4 z.2.2.2)) (fun g4 => ?_)
  have f3 : h.1 1 3 = iI (S 1).toNat := hC.1.1.trans (congrArg iI hn.1)
  have f4 : h.1 1 4 = iI (S 0).toNat := hC.1.2.1.trans (congrArg iI (by omega))
  refine w_lt (S 0) 20 (fun g5 => ?_) (fun g5 => hQ1 ⟨g1, g2, g3, g4⟩ (by omega)) hC.1.2.1 rfl
  generalize hp : (S 0).toNat = p at *
  have hp20 : p < 20 := by omega
  have hS0 : S 0 = p := by omega
  generalize hm : (S 1).toNat = n at *
  have hn20 : n < 20 := by omega
  refine c_Cells_set2 CA_6 n hn20 ?_ f3
  refine c_Cells_set3 CA_4 p 0 (by omega) ?_ f4 rfl
  refine c_Cells_set3 CA_4 p 1 (by omega) ?_ f4 rfl
  refine c_Cells_set3 CA_4 p 2 (by omega) ?_ f4 rfl
  have at146 : ∀ hv : Int32, hv = iI (if t = 1 then 16 else 8) → SR y_Scene_admit 146 [some (.ref 1), some (.int x1), some (.int x2), some (.int x3), some (.int x4), some (.int x5), some (.int (h.1 1 4))] [.int hv, .int 6, .int (h.1 1 4), .ref 4] (wa (wa (wa (pg (wa (pg h 1 4 (h.1 1 4 + 1)) 7 n (h.1 1 4)) 1 3 (h.1 1 3 + 1)) 5 (p * 10 + 0) x1) 5 (p * 10 + 1) x2) 5 (p * 10 + 2) x3) Q := by
    intro hv ehv
    refine w_loop IS_ok [] ok_Scene_admit ?_
    refine c_Cells_set3 CA_4 p 6 (by omega) ?_ f4 rfl
    refine c_Cells_set3 CA_4 p 3 (by omega) ?_ f4 rfl
    refine c_Cells_set3 CA_4 p 4 (by omega) ?_ f4 rfl
    have hq := hQ2 ⟨g1, g2, g3, g4⟩ (by omega) (wa (wa (wa (wa (wa (wa (pg (wa (pg h 1 4 (h.1 1 4 + 1)) 7 n (h.1 1 4)) 1 3 (h.1 1 3 + 1)) 5 (p * 10 + 0) x1) 5 (p * 10 + 1) x2) 5 (p * 10 + 2) x3) 5 (p * 10 + 6) hv) 5 (p * 10 + 3) x4) 5 (p * 10 + 4) x5)
      (((((((((Sm.pg _ (by decide)).t (Sm.wa _ _ (by decide))).t (Sm.pg _ (by decide))).t (Sm.wa _ _ (by decide))).t (Sm.wa _ _ (by decide))).t (Sm.wa _ _ (by decide))).t (Sm.wa _ _ (by decide))).t (Sm.wa _ _ (by decide))).t (Sm.wa _ _ (by decide))) ?_
    · rw [← hC.1.2.1] at hq
      exact hq
    obtain ⟨⟨a1, a2, a3, a4, a5, a6⟩, q, o, d, f, gg⟩ := id hC
    have row : ∀ i, (∀ j, j < 7 → j ≠ 5 → i ≠ p * 10 + j) → (wa (wa (wa (wa (wa (wa (pg (wa (pg h 1 4 (h.1 1 4 + 1)) 7 n (h.1 1 4)) 1 3 (h.1 1 3 + 1)) 5 (p * 10 + 0) x1) 5 (p * 10 + 1) x2) 5 (p * 10 + 2) x3) 5 (p * 10 + 6) hv) 5 (p * 10 + 3) x4) 5 (p * 10 + 4) x5).2 5 i = h.2 5 i := by
      intro i hi
      rw [wa_n _ _ _ _ (hi 4 (by omega) (by omega)), wa_n _ _ _ _ (hi 3 (by omega) (by omega)), wa_n _ _ _ _ (hi 6 (by omega) (by omega)), wa_n _ _ _ _ (hi 2 (by omega) (by omega)), wa_n _ _ _ _ (hi 1 (by omega) (by omega)), wa_n _ _ _ _ (hi 0 (by omega) (by omega))]
      rfl
    have rowp : ∀ j, j < 5 → (wa (wa (wa (wa (wa (wa (pg (wa (pg h 1 4 (h.1 1 4 + 1)) 7 n (h.1 1 4)) 1 3 (h.1 1 3 + 1)) 5 (p * 10 + 0) x1) 5 (p * 10 + 1) x2) 5 (p * 10 + 2) x3) 5 (p * 10 + 6) hv) 5 (p * 10 + 3) x4) 5 (p * 10 + 4) x5).2 5 (p * 10 + j) = iI (cmS S x y t g c (26 + 9 * p + j)) := by
      intro j hj
      have hcp := cmS_p (S := S) (x := x) (y := y) (t := t) (g := g) (c := c)
      rw [hp] at hcp
      have : j = 0 ∨ j = 1 ∨ j = 2 ∨ j = 3 ∨ j = 4 := by omega
      rcases this with rfl | rfl | rfl | rfl | rfl
      · rw [hcp.1, wa_n _ _ _ _ (by omega), wa_n _ _ _ _ (by omega), wa_n _ _ _ _ (by omega), wa_n _ _ _ _ (by omega), wa_n _ _ _ _ (by omega), wa_s]; exact h1
      · rw [hcp.2.1, wa_n _ _ _ _ (by omega), wa_n _ _ _ _ (by omega), wa_n _ _ _ _ (by omega), wa_n _ _ _ _ (by omega), wa_s]; exact h2
      · rw [hcp.2.2.1, wa_n _ _ _ _ (by omega), wa_n _ _ _ _ (by omega), wa_n _ _ _ _ (by omega), wa_s]; exact h3
      · rw [hcp.2.2.2.1, wa_n _ _ _ _ (by omega), wa_s]; exact h4
      · rw [hcp.2.2.2.2, wa_s]; exact h5
    have c26 : ∀ i, 26 ≤ i → (∀ j, j < 5 → i ≠ 26 + 9 * p + j) → cmS S x y t g c i = S i := fun i hi hj => cmS_26 (by omega) hi (by rw [hp]; exact hj)
    have c0 : cmS S x y t g c 0 = S 0 + 1 := by rw [cmS_lo (by omega), u1_n _ _ (by omega), u1_n _ _ (by omega), u1_s]
    have c1 : cmS S x y t g c 1 = S 1 + 1 := by rw [cmS_lo (by omega), u1_s]
    have clo : ∀ i, i < 26 → i ≠ 0 → i ≠ 1 → i ≠ 6 + n → cmS S x y t g c i = S i := fun i h1 h2 h3 h4 => by rw [cmS_lo h1, hm, u1_n _ _ h3, u1_n _ _ h4, u1_n _ _ h2]
    have c6 : cmS S x y t g c (6 + n) = S 0 := by rw [cmS_lo (by omega), hm, u1_n _ _ (by omega), u1_s]
    refine ⟨⟨?_, ?_, by rw [clo 2 (by omega) (by omega) (by omega) (by omega)]; exact a3, by rw [clo 3 (by omega) (by omega) (by omega) (by omega)]; exact a4, by rw [clo 4 (by omega) (by omega) (by omega) (by omega)]; exact a5, by rw [clo 5 (by omega) (by omega) (by omega) (by omega)]; exact a6⟩, fun i hi => ?_, fun k hk => ?_, fun p' hp' j hj => ?_, fun p' hp' h0 => ?_, fun p' hp' j hj => ?_⟩
    · rw [c1]; exact (congrArg (· + 1) a1).trans (iI_add _ 1)
    · rw [c0]; exact (congrArg (· + 1) a2).trans (iI_add _ 1)
    · rw [c26 _ (by omega) (fun j hj => by omega)]; exact q i hi
    · rw [c1] at hk
      by_cases z : k = n
      · subst z
        rw [c6]
        exact (wa_s (pg h 1 4 (h.1 1 4 + 1)) 7 k (h.1 1 4)).trans hC.1.2.1
      · rw [clo _ (by omega) (by omega) (by omega) (by omega)]
        exact (wa_n (pg h 1 4 (h.1 1 4 + 1)) 7 n (h.1 1 4) z).trans (o k (by omega))
    · by_cases z : p' = p
      · subst z
        by_cases z2 : j < 5
        · exact rowp j z2
        · have : j = 5 := by omega
          subst this
          rw [c26 _ (by omega) (fun j hj => by omega)]
          exact (row _ (fun j h1 h2 => by omega)).trans (d p' hp' 5 (by omega))
      · rw [c26 _ (by omega) (fun j hj => by omega)]
        exact (row _ (fun j h1 h2 => by omega)).trans (d p' hp' j hj)
    · by_cases z : p' = p
      · subst z
        have hcp := (cmS_p (S := S) (x := x) (y := y) (t := t) (g := g) (c := c)).2.2.1
        rw [hp] at hcp
        unfold hgh
        rw [hcp, ← ehv]
        show (wa (wa (wa _ 5 (p' * 10 + 6) hv) 5 (p' * 10 + 3) x4) 5 (p' * 10 + 4) x5).2 5 (p' * 10 + 6) = hv
        rw [wa_n _ _ _ _ (by omega), wa_n _ _ _ _ (by omega), wa_s]
      · rw [c0] at h0
        have := f p' hp' (by omega)
        unfold hgh at this ⊢
        rw [c26 _ (by omega) (fun j hj => by omega)]
        exact (row _ (fun j h1 h2 => by omega)).trans this
    · rw [c26 _ (by omega) (fun j hj => by omega)]
      exact (row _ (fun j h1 h2 => by omega)).trans (gg p' hp' j hj)
  refine w_eq t 1 (fun g6 => ?_) (fun g6 => ?_) h3 rfl
  · exact at146 16 (by rw [if_pos g6]; rfl)
  · exact at146 8 (by rw [if_neg g6]; rfl)
end
section
/-! the class: its history -/
/-- objects from lo on, below hi, alone have changed -/
def Fr (lo hi : Nat) (h h' : St) : Prop := (∀ o, o < lo ∨ hi ≤ o → h'.1 o = h.1 o) ∧ ∀ o, o < lo ∨ hi ≤ o → h'.2 o = h.2 o
theorem Fr.rf {lo hi : Nat} {h : St} : Fr lo hi h h := ⟨fun _ _ => rfl, fun _ _ => rfl⟩
theorem Fr.t {lo hi : Nat} {h h1 h2 : St} (a : Fr lo hi h h1) (b : Fr lo hi h1 h2) : Fr lo hi h h2 := ⟨fun o ho => (b.1 o ho).trans (a.1 o ho), fun o ho => (b.2 o ho).trans (a.2 o ho)⟩
theorem Fr.w {lo hi lo' hi' : Nat} {h h1 : St} (a : Fr lo hi h h1) (hl : lo' ≤ lo) (hh : hi ≤ hi') : Fr lo' hi' h h1 := ⟨fun o ho => a.1 o (by omega), fun o ho => a.2 o (by omega)⟩
theorem Sm.fr {X : List (Nat × Nat)} {Y : List Nat} {h h' : St} (a : Sm X Y h h') {lo hi : Nat} (hx : ∀ q ∈ X, lo ≤ q.1 ∧ q.1 < hi) (hy : ∀ q ∈ Y, lo ≤ q ∧ q < hi) : Fr lo hi h h' :=
  ⟨fun o ho => funext fun k => a.1 o k (fun z => by have := hx _ z; dsimp only at this; omega), fun o ho => a.2 o (fun z => by have := hy _ z; omega)⟩
theorem CS.fr {a lo hi : Nat} {S : Nat → Int} {h h' : St} (hC : CS a S h) (f : Fr lo hi h h') (hd : a + 6 < lo ∨ hi ≤ a) : CS a S h' := by
  unfold CS
  rw [f.1 a (by omega), f.2 (a + 2) (by omega), f.2 (a + 4) (by omega), f.2 (a + 6) (by omega)]
  exact hC
/-- the slot that is q before the newest -/
def slt (w q : Nat) : Nat := (w + 5 - q) % 5
def CH (n : Nat) (H : Nat → Nat → Int) (h : St) : Prop := ∃ w, w < 5 ∧ h.1 38 1 = iI (w : Nat) ∧ h.1 38 2 = iI (n : Nat) ∧ ∀ j, j < n → CS (40 + 7 * slt w (n - 1 - j)) (H j) h
theorem CH.fr {n lo hi : Nat} {H : Nat → Nat → Int} {h h' : St} (hC : CH n H h) (f : Fr lo hi h h') (hd : hi ≤ 38 ∨ 75 ≤ lo) : CH n H h' := by
  obtain ⟨w, hw, h1, h2, h3⟩ := hC
  refine ⟨w, hw, by rw [f.1 38 (by omega)]; exact h1, by rw [f.1 38 (by omega)]; exact h2, fun j hj => (h3 j hj).fr f ?_⟩
  have := Nat.mod_lt (w + 5 - (n - 1 - j)) (show 5 > 0 by omega)
  unfold slt
  omega
theorem c_Hist_newestSlot {w : Nat} (hw : w < 5) {h : St} {Q : Option Value → St → Prop} (h1 : h.1 38 1 = iI (w : Nat)) (hQ : Q (some (.ref (40 + 7 * w))) h) : SC y_Hist_newestSlot [.ref 38] h Q := by
  refine w_call IS_ok [] ok_Hist_newestSlot rfl rfl ?_
  have : w = 0 ∨ w = 1 ∨ w = 2 ∨ w = 3 ∨ w = 4 := by omega
  rcases this with rfl | rfl | rfl | rfl | rfl
  · refine w_lt 0 0 (fun _ => by omega) (fun _ => ?_) h1 rfl
    refine w_le 5 0 (fun _ => by omega) (fun _ => ?_) rfl h1
    exact ⟨0, h1, hQ⟩
  · refine w_lt 1 0 (fun _ => by omega) (fun _ => ?_) h1 rfl
    refine w_le 5 1 (fun _ => by omega) (fun _ => ?_) rfl h1
    exact ⟨1, h1, hQ⟩
  · refine w_lt 2 0 (fun _ => by omega) (fun _ => ?_) h1 rfl
    refine w_le 5 2 (fun _ => by omega) (fun _ => ?_) rfl h1
    exact ⟨2, h1, hQ⟩
  · refine w_lt 3 0 (fun _ => by omega) (fun _ => ?_) h1 rfl
    refine w_le 5 3 (fun _ => by omega) (fun _ => ?_) rfl h1
    exact ⟨3, h1, hQ⟩
  · refine w_lt 4 0 (fun _ => by omega) (fun _ => ?_) h1 rfl
    refine w_le 5 4 (fun _ => by omega) (fun _ => ?_) rfl h1
    exact ⟨4, h1, hQ⟩
theorem fr_slot {w : Nat} (hw : w < 5) {h h' : St} (a : Sm (fl6 (40 + 7 * w)) [40 + 7 * w + 2, 40 + 7 * w + 4, 40 + 7 * w + 6] h h') : Fr (40 + 7 * w) (40 + 7 * w + 7) h h' :=
  a.fr (fun q hq => by simp only [fl6, List.mem_cons, List.not_mem_nil, or_false] at hq; rcases hq with rfl | rfl | rfl | rfl | rfl | rfl <;> dsimp only <;> omega) (fun q hq => by simp only [List.mem_cons, List.not_mem_nil, or_false] at hq; omega)
theorem c_slot_set {w : Nat} (hw : w < 5) {S : Nat → Int} {h : St} {Q : Option Value → St → Prop} (hC : CS 8 S h) (hn : (S 1).toNat ≤ 20) (hQ : ∀ h', Fr (40 + 7 * w) (40 + 7 * w + 7) h h' → CS (40 + 7 * w) S h' → Q none h') : SC y_Scene_copyFrom [.ref (40 + 7 * w), .ref 8] h Q := by
  have : w = 0 ∨ w = 1 ∨ w = 2 ∨ w = 3 ∨ w = 4 := by omega
  rcases this with rfl | rfl | rfl | rfl | rfl
  · exact c_Scene_copyFrom_40_8 hC hn (fun h' s c => hQ h' (fr_slot hw s) c)
  · exact c_Scene_copyFrom_47_8 hC hn (fun h' s c => hQ h' (fr_slot hw s) c)
  · exact c_Scene_copyFrom_54_8 hC hn (fun h' s c => hQ h' (fr_slot hw s) c)
  · exact c_Scene_copyFrom_61_8 hC hn (fun h' s c => hQ h' (fr_slot hw s) c)
  · exact c_Scene_copyFrom_68_8 hC hn (fun h' s c => hQ h' (fr_slot hw s) c)
theorem c_slot_get {w : Nat} (hw : w < 5) {S : Nat → Int} {h : St} {Q : Option Value → St → Prop} (hC : CS (40 + 7 * w) S h) (hn : (S 1).toNat ≤ 20) (hQ : ∀ h', Sm (fl6 1) [3, 5, 7] h h' → CS 1 S h' → Q none h') : SC y_Scene_copyFrom [.ref 1, .ref (40 + 7 * w)] h Q := by
  have : w = 0 ∨ w = 1 ∨ w = 2 ∨ w = 3 ∨ w = 4 := by omega
  rcases this with rfl | rfl | rfl | rfl | rfl
  · exact c_Scene_copyFrom_1_40 hC hn hQ
  · exact c_Scene_copyFrom_1_47 hC hn hQ
  · exact c_Scene_copyFrom_1_54 hC hn hQ
  · exact c_Scene_copyFrom_1_61 hC hn hQ
  · exact c_Scene_copyFrom_1_68 hC hn hQ
theorem c_Hist_record {S : Nat → Int} {n : Nat} {H : Nat → Nat → Int} {h : St} {Q : Option Value → St → Prop} (hC : CS 8 S h) (hs : (S 1).toNat ≤ 20) (hH : CH n H h) (hn : n ≤ 5) (hQ : ∀ h', Fr 38 75 h h' → CH (psN n) (psH n H S) h' → Q none h') : SC y_Hist_record [.ref 38, .ref 8] h Q := by
  refine w_call IS_ok [] ok_Hist_record rfl rfl ?_
  obtain ⟨w, hw, h1, h2, h3⟩ := hH
  refine ⟨by decide, ?_⟩
  refine c_J_min (n + 1 : Nat) 5 ?_ (iI_1 h2) rfl
  have e1 : (h.1 38 1 + 1) - (h.1 38 1 + 1) / 5 * 5 = iI (((w + 1) % 5 : Nat) : Int) := modr (iI_1 h1) rfl (by omega) (by decide) (by decide)
  have f1 : Fr 38 75 h (pg (pg h 38 1 ((h.1 38 1 + 1) - (h.1 38 1 + 1) / 5 * 5)) 38 2 (iI (if ((n + 1 : Nat) : Int) ≤ 5 then ((n + 1 : Nat) : Int) else 5))) := (Sm.fr (X := [(38, 1), (38, 2)]) (Y := []) ((Sm.pg _ (by decide)).t (Sm.pg _ (by decide))) (by decide) (by decide))
  have hw5 := Nat.mod_lt (w + 1) (show 5 > 0 by omega)
  refine c_Hist_newestSlot (w := (w + 1) % 5) (h := pg (pg h 38 1 ((h.1 38 1 + 1) - (h.1 38 1 + 1) / 5 * 5)) 38 2 (iI (if ((n + 1 : Nat) : Int) ≤ 5 then ((n + 1 : Nat) : Int) else 5))) hw5 (by rw [pg_n _ _ _ _ (by omega), pg_s]; exact e1) ?_
  have fin : ∀ h', Fr (40 + 7 * ((w + 1) % 5)) (40 + 7 * ((w + 1) % 5) + 7) (pg (pg h 38 1 ((h.1 38 1 + 1) - (h.1 38 1 + 1) / 5 * 5)) 38 2 (iI (if ((n + 1 : Nat) : Int) ≤ 5 then ((n + 1 : Nat) : Int) else 5))) h' → CS (40 + 7 * ((w + 1) % 5)) S h' → Q none h' := ?_
  · have hC8 := hC.fr f1 (by omega)
    clear f1 e1
    generalize (w + 1) % 5 = v at *
    have : v = 0 ∨ v = 1 ∨ v = 2 ∨ v = 3 ∨ v = 4 := by omega
    rcases this with rfl | rfl | rfl | rfl | rfl
    · exact c_slot_set hw5 hC8 hs fin
    · exact c_slot_set hw5 hC8 hs fin
    · exact c_slot_set hw5 hC8 hs fin
    · exact c_slot_set hw5 hC8 hs fin
    · exact c_slot_set hw5 hC8 hs fin
  intro h' f2 hC2
  have f3 : Fr 38 75 h h' := f1.t (f2.w (by omega) (by omega))
  have k1 : h'.1 38 1 = iI (((w + 1) % 5 : Nat) : Int) := by rw [f2.1 38 (by omega), pg_n _ _ _ _ (by omega), pg_s]; exact e1
  have k2 : h'.1 38 2 = iI (if ((n + 1 : Nat) : Int) ≤ 5 then ((n + 1 : Nat) : Int) else 5) := by rw [f2.1 38 (by omega), pg_s]
  have old : ∀ i, i < 5 → i ≠ (w + 1) % 5 → ∀ X, CS (40 + 7 * i) X h → CS (40 + 7 * i) X h' := fun i hi hne X hX => by
    have s1 : Sm [(38, 1), (38, 2)] [] h (pg (pg h 38 1 ((h.1 38 1 + 1) - (h.1 38 1 + 1) / 5 * 5)) 38 2 (iI (if ((n + 1 : Nat) : Int) ≤ 5 then ((n + 1 : Nat) : Int) else 5))) := (Sm.pg _ (by decide)).t (Sm.pg _ (by decide))
    exact (hX.sm s1 (fun q hq => by simp only [List.mem_cons, List.not_mem_nil, or_false] at hq; rcases hq with rfl | rfl <;> dsimp only <;> omega) (fun q hq => by cases hq)).fr f2 (by omega)
  refine hQ h' f3 ⟨(w + 1) % 5, hw5, k1, ?_, fun j hj => ?_⟩
  · rw [k2]
    unfold psN
    by_cases z : n = 5
    · rw [if_pos z, if_neg (by omega)]; rfl
    · rw [if_neg z, if_pos (by omega)]
  · unfold psN at hj ⊢
    unfold psH
    by_cases z : n = 5
    · rw [if_pos z] at hj
      rw [if_pos z, if_pos z]
      by_cases z2 : j < 4
      · rw [if_pos z2]
        have := h3 (j + 1) (by omega)
        have e : slt ((w + 1) % 5) (5 - 1 - j) = slt w (n - 1 - (j + 1)) := by unfold slt; omega
        rw [e]
        refine old _ (by unfold slt; omega) (by unfold slt; omega) _ this
      · rw [if_neg z2]
        have e : slt ((w + 1) % 5) (5 - 1 - j) = (w + 1) % 5 := by unfold slt; omega
        rw [e]
        exact hC2
    · rw [if_neg z] at hj
      rw [if_neg z, if_neg z]
      by_cases z2 : j < n
      · rw [if_pos z2]
        have := h3 j z2
        have e : slt ((w + 1) % 5) (n + 1 - 1 - j) = slt w (n - 1 - j) := by unfold slt; omega
        rw [e]
        refine old _ (by unfold slt; omega) (by unfold slt; omega) _ this
      · rw [if_neg z2]
        have e : slt ((w + 1) % 5) (n + 1 - 1 - j) = (w + 1) % 5 := by unfold slt; omega
        rw [e]
        exact hC2
theorem c_Hist_restore {n : Nat} {H : Nat → Nat → Int} {h : St} {Q : Option Value → St → Prop} (hH : CH n H h) (hn : n ≤ 5) (h0 : 0 < n) (hs : (H (n - 1) 1).toNat ≤ 20) (hQ : ∀ h', Sm [(1, 3), (1, 4), (1, 5), (1, 6), (1, 7), (1, 8), (38, 1), (38, 2)] [3, 5, 7] h h' → CS 1 (H (n - 1)) h' → CH (n - 1) H h' → Q none h') : SC y_Hist_restore [.ref 38, .ref 1] h Q := by
  refine w_call IS_ok [14] ok_Hist_restore rfl rfl ?_
  obtain ⟨w, hw, h1, h2, h3⟩ := hH
  refine c_Hist_newestSlot hw h1 ?_
  have hl := h3 (n - 1) (by omega)
  rw [show slt w (n - 1 - (n - 1)) = w by unfold slt; omega] at hl
  have at14 : ∀ h', Sm (fl6 1) [3, 5, 7] h h' → CS 1 (H (n - 1)) h' → SR y_Hist_restore 14 [some (.ref 38), some (.ref 1), some (.ref (40 + 7 * w))] [] h' Q := ?_
  · clear h1 h2 h3
    have : w = 0 ∨ w = 1 ∨ w = 2 ∨ w = 3 ∨ w = 4 := by omega
    rcases this with rfl | rfl | rfl | rfl | rfl
    · exact c_slot_get hw hl hs at14
    · exact c_slot_get hw hl hs at14
    · exact c_slot_get hw hl hs at14
    · exact c_slot_get hw hl hs at14
    · exact c_slot_get hw hl hs at14
  intro h' s1 hC1
  refine w_loop IS_ok [] ok_Hist_restore ?_
  have g1 : h'.1 38 1 = iI (w : Nat) := by rw [s1.1 _ _ (by decide)]; exact h1
  have g2 : h'.1 38 2 = iI (n : Nat) := by rw [s1.1 _ _ (by decide)]; exact h2
  have e0 : h'.1 38 1 + 5 - 1 = iI ((w + 4 : Nat) : Int) := by
    rw [g1]
    refine (congrArg (· - 1) (iI_add _ 5)).trans ((iI_sub _ 1).trans (congrArg iI (by omega)))
  have e1 : (h'.1 38 1 + 5 - 1) - (h'.1 38 1 + 5 - 1) / 5 * 5 = iI (((w + 4) % 5 : Nat) : Int) := modr e0 rfl (by omega) (by decide) (by decide)
  refine ⟨by decide, ?_⟩
  have s2 : Sm [(38, 1), (38, 2)] [] h' (pg (pg h' 38 1 ((h'.1 38 1 + 5 - 1) - (h'.1 38 1 + 5 - 1) / 5 * 5)) 38 2 (h'.1 38 2 - 1)) := (Sm.pg _ (by decide)).t (Sm.pg _ (by decide))
  refine hQ (pg (pg h' 38 1 ((h'.1 38 1 + 5 - 1) - (h'.1 38 1 + 5 - 1) / 5 * 5)) 38 2 (h'.1 38 2 - 1)) ((s1.mo (by decide) (by decide)).t (s2.mo (by decide) (by decide))) (hC1.sm s2 (by decide) (by decide)) ⟨(w + 4) % 5, Nat.mod_lt _ (by omega), ?_, ?_, fun j hj => ?_⟩
  · rw [pg_n _ _ _ _ (by omega), pg_s]; exact e1
  · rw [pg_s]; exact iI_q g2 h0
  · have := h3 j (by omega)
    have e : slt ((w + 4) % 5) (n - 1 - 1 - j) = slt w (n - 1 - j) := by unfold slt; omega
    rw [e]
    have f1 : Fr 1 8 h h' := s1.fr (by decide) (by decide)
    have f2 : Fr 38 39 h' (pg (pg h' 38 1 ((h'.1 38 1 + 5 - 1) - (h'.1 38 1 + 5 - 1) / 5 * 5)) 38 2 (h'.1 38 2 - 1)) := s2.fr (by decide) (by decide)
    exact (this.fr f1 (by omega)).fr f2 (by omega)
theorem c_P_recorded {S : Nat → Int} {n : Nat} {H : Nat → Nat → Int} {x : Int32} {h : St} {Q : Option Value → St → Prop} (hC : CS 8 S h) (hs : (S 1).toNat ≤ 20) (hH : CH n H h) (hn : n ≤ 5) (a : Int) (hQ0 : a < 0 → Q (some (.int (iI a))) h) (hQ1 : 0 ≤ a → ∀ h', Fr 38 75 h h' → CH (psN n) (psH n H S) h' → Q (some (.int (iI a))) h') (hx : x = iI a) (ra : rg a) : SC y_P_recorded [.ref 0, .int x] h Q := by
  refine w_call IS_ok [] ok_P_recorded rfl rfl ?_
  refine w_lt a 0 (fun g => ?_) (fun g => ?_) hx rfl ra
  · rw [hx]; exact hQ0 g
  · refine c_Hist_record hC hs hH hn (fun h' f hC' => ?_)
    have := hQ1 g h' f hC'
    rw [← hx] at this
    exact this
end
section
/-! the class: its state, and the calls that change the scene -/
def CT (N : Nat) (T : Nat → Nat) (h : St) : Prop := h.1 76 1 = iI (N : Nat) ∧ ∀ i, i < N → h.2 78 i = iI (T i : Nat)
def CF (f : Nat) (G : Nat → Int) (h : St) : Prop := h.1 89 0 = iI (f : Nat) ∧ (f = 1 → ∀ j, j < 5 → h.1 89 (1 + j) = iI (G j))
def CI (S : Nat → Int) (n : Nat) (H : Nat → Nat → Int) (N : Nat) (T : Nat → Nat) (f : Nat) (G : Nat → Int) (h : St) : Prop := CS 1 S h ∧ CH n H h ∧ CT N T h ∧ CF f G h
theorem CT.fr {N lo hi : Nat} {T : Nat → Nat} {h h' : St} (hC : CT N T h) (f : Fr lo hi h h') (hd : hi ≤ 76 ∨ 78 < lo) : CT N T h' := ⟨by rw [f.1 76 (by omega)]; exact hC.1, fun i hi => by rw [f.2 78 (by omega)]; exact hC.2 i hi⟩
theorem CF.fr {g lo hi : Nat} {G : Nat → Int} {h h' : St} (hC : CF g G h) (f : Fr lo hi h h') (hd : hi ≤ 89 ∨ 89 < lo) : CF g G h' := ⟨by rw [f.1 89 (by omega)]; exact hC.1, fun z j hj => by rw [f.1 89 (by omega)]; exact hC.2 z j hj⟩
theorem CI.eqv {S S' : Nat → Int} {n : Nat} {H : Nat → Nat → Int} {N : Nat} {T : Nat → Nat} {f : Nat} {G : Nat → Int} {h : St} (hI : CI S n H N T f G h) (e : Eqv S S') (hn : (S 1).toNat ≤ 20) : CI S' n H N T f G h := ⟨hI.1.eqv e hn, hI.2⟩
def Sc (h h' : St) : Prop := ∀ o, (8 ≤ o ∧ o < 15) ∨ 38 ≤ o → h'.1 o = h.1 o ∧ h'.2 o = h.2 o
theorem Sm.sc {X : List (Nat × Nat)} {Y : List Nat} {h h' : St} (a : Sm X Y h h') (hx : ∀ q ∈ X, q.1 < 8 ∨ (15 ≤ q.1 ∧ q.1 < 38)) (hy : ∀ q ∈ Y, q < 8 ∨ (15 ≤ q ∧ q < 38)) : Sc h h' :=
  fun o ho => ⟨funext fun k => a.1 o k (fun z => by have := hx _ z; dsimp only at this; omega), a.2 o (fun z => by have := hy _ z; omega)⟩
section
variable {S S' : Nat → Int} {n : Nat} {H : Nat → Nat → Int} {N : Nat} {T : Nat → Nat} {f : Nat} {G : Nat → Int} {h h1 h2 : St} {Q : Option Value → St → Prop}
theorem CI.bf (hI : CI S n H N T f G h) (f1 : Fr 8 15 h h1) : CI S n H N T f G h1 := ⟨hI.1.fr f1 (by omega), hI.2.1.fr f1 (by omega), hI.2.2.1.fr f1 (by omega), hI.2.2.2.fr f1 (by omega)⟩
theorem CI.sc (hI : CI S n H N T f G h1) (s : Sc h1 h2) (c1 : CS 1 S' h2) : CI S' n H N T f G h2 := by
  obtain ⟨-, ⟨w, hw, a1, a2, a3⟩, b, c⟩ := hI
  refine ⟨c1, ⟨w, hw, by rw [(s 38 (by omega)).1]; exact a1, by rw [(s 38 (by omega)).1]; exact a2, fun j hj => ?_⟩, ⟨by rw [(s 76 (by omega)).1]; exact b.1, fun i hi => by rw [(s 78 (by omega)).2]; exact b.2 i hi⟩, ⟨by rw [(s 89 (by omega)).1]; exact c.1, fun z j hj => by rw [(s 89 (by omega)).1]; exact c.2 z j hj⟩⟩
  have := a3 j hj
  unfold CS at this ⊢
  rw [(s _ (by omega)).1, (s _ (by omega)).2, (s _ (by omega)).2, (s _ (by omega)).2]
  exact this
theorem c_rec {x : Int32} (hI : CI S n H N T f G h) (hs : (S 1).toNat ≤ 20) (hn : n ≤ 5) (f1 : Fr 8 15 h h1) (c8 : CS 8 S h1) (s2 : Sc h1 h2) (c1 : CS 1 S' h2) (f2 : Fr 0 90 h1 h2) (a : Int) (ha : 0 ≤ a) (ra : rg a) (hQ : ∀ h', Fr 0 90 h h' → CI S' (psN n) (psH n H S) N T f G h' → Q (some (.int (iI a))) h') (hx : x = iI a) : SC y_P_recorded [.ref 0, .int x] h2 Q := by
  have i2 := (hI.bf f1).sc s2 c1
  have c82 : CS 8 S h2 := by
    unfold CS at c8 ⊢
    rw [(s2 8 (by omega)).1, (s2 (8 + 2) (by omega)).2, (s2 (8 + 4) (by omega)).2, (s2 (8 + 6) (by omega)).2]
    exact c8
  refine c_P_recorded c82 hs i2.2.1 hn a (fun z => by omega) (fun _ h3 f3 cH => ?_) hx ra
  exact hQ h3 ((f1.w (by omega) (by omega)).t (f2.t (f3.w (by omega) (by omega)))) ⟨i2.1.fr f3 (by omega), cH, i2.2.2.1.fr f3 (by omega), i2.2.2.2.fr f3 (by omega)⟩
theorem c_rec0 {x : Int32} (hI : CI S n H N T f G h) (hs : (S 1).toNat ≤ 20) (hn : n ≤ 5) (f1 : Fr 8 15 h h1) (c8 : CS 8 S h1) (a : Int) (ha : a < 0) (ra : rg a) (hQ : ∀ h', Fr 0 90 h h' → CI S n H N T f G h' → Q (some (.int (iI a))) h') (hx : x = iI a) : SC y_P_recorded [.ref 0, .int x] h1 Q :=
  c_P_recorded c8 hs (hI.bf f1).2.1 hn a (fun _ => hQ h1 (f1.w (by omega) (by omega)) (hI.bf f1)) (fun z => by omega) hx ra
theorem fr81 (s1 : Sm (fl6 8) [10, 12, 14] h h1) : Fr 8 15 h h1 := s1.fr (by decide) (by decide)
theorem c_P_setRow {x1 x2 x3 : Int32} (hI : CI S n H N T f G h) (hW : WF S) (hn : n ≤ 5) (a b c : Int) (hQ0 : ¬ ((0 ≤ a ∧ a ≤ 7) ∧ (0 ≤ b ∧ b ≤ 7) ∧ (0 ≤ c ∧ c ≤ 255)) → ∀ h', Fr 0 90 h h' → CI S n H N T f G h' → Q (some (.int (iI (-101)))) h')
    (hQ1 : ((0 ≤ a ∧ a ≤ 7) ∧ (0 ≤ b ∧ b ≤ 7) ∧ (0 ≤ c ∧ c ≤ 255)) → ∀ h', Fr 0 90 h h' → CI (u1 S (206 + 8 * a.toNat + b.toNat) c) (psN n) (psH n H S) N T f G h' → Q (some (.int (iI (S (206 + 8 * a.toNat + b.toNat))))) h') (h1 : x1 = iI a) (h2 : x2 = iI b) (h3 : x3 = iI c) (ra : rg a) (rb : rg b) (rc : rg c) : SC y_P_setRow [.ref 0, .int x1, .int x2, .int x3] h Q := by
  have hs := hW.n.2.1
  refine w_call IS_ok [] ok_P_setRow rfl rfl ?_
  refine c_Scene_copyFrom_8_1 hI.1 hs (fun hb s1 c8 => ?_)
  refine c_Scene_redraw (hI.bf (fr81 s1)).1 hs a b c (fun g => ?_) (fun g hc s2 c1 => ?_) h1 h2 h3 ra rb rc
  · exact c_rec0 hI hs hn (fr81 s1) c8 (-101) (by omega) (by omega) (hQ0 g) rfl
  · have hp := hW.pic (i := 8 * a.toNat + b.toNat) (by omega)
    rw [show 206 + (8 * a.toNat + b.toNat) = 206 + 8 * a.toNat + b.toNat by omega] at hp
    exact c_rec hI hs hn (fr81 s1) c8 (s2.sc (by decide) (by decide)) c1 (s2.fr (by decide) (by decide)) _ hp.1 (by omega) (hQ1 g) rfl
theorem c_P_come {x1 x2 x3 x4 x5 : Int32} (hI : CI S n H N T f G h) (hW : WF S) (hn : n ≤ 5) (x y t g c : Int)
    (hQ0 : ¬ (((-15 ≤ x ∧ x ≤ 63) ∧ (-15 ≤ y ∧ y ≤ 47)) ∧ (0 ≤ t ∧ t ≤ 1) ∧ (0 ≤ g ∧ g ≤ 7) ∧ (1 ≤ c ∧ c ≤ 9)) → ∀ h', Fr 0 90 h h' → CI S n H N T f G h' → Q (some (.int (iI (-101)))) h')
    (hQ1 : (((-15 ≤ x ∧ x ≤ 63) ∧ (-15 ≤ y ∧ y ≤ 47)) ∧ (0 ≤ t ∧ t ≤ 1) ∧ (0 ≤ g ∧ g ≤ 7) ∧ (1 ≤ c ∧ c ≤ 9)) → S 0 = 20 → ∀ h', Fr 0 90 h h' → CI S n H N T f G h' → Q (some (.int (iI (-103)))) h')
    (hQ2 : (((-15 ≤ x ∧ x ≤ 63) ∧ (-15 ≤ y ∧ y ≤ 47)) ∧ (0 ≤ t ∧ t ≤ 1) ∧ (0 ≤ g ∧ g ≤ 7) ∧ (1 ≤ c ∧ c ≤ 9)) → S 0 ≠ 20 → ∀ h', Fr 0 90 h h' → CI (cmS S x y t g c) (psN n) (psH n H S) N T f G h' → Q (some (.int (iI (S 0)))) h')
    (h1 : x1 = iI x) (h2 : x2 = iI y) (h3 : x3 = iI t) (h4 : x4 = iI g) (h5 : x5 = iI c) (rx : rg x) (ry : rg y) (rt : rg t) (rgg : rg g) (rc : rg c) : SC y_P_come [.ref 0, .int x1, .int x2, .int x3, .int x4, .int x5] h Q := by
  have hs := hW.n
  refine w_call IS_ok [] ok_P_come rfl rfl ?_
  refine c_Scene_copyFrom_8_1 hI.1 hs.2.1 (fun hb s1 c8 => ?_)
  refine c_Scene_admit (hI.bf (fr81 s1)).1 hW x y t g c (fun g => ?_) (fun g g2 => ?_) (fun g g2 hc s2 c1 => ?_) h1 h2 h3 h4 h5 rx ry rt rgg rc
  · exact c_rec0 hI hs.2.1 hn (fr81 s1) c8 (-101) (by omega) (by omega) (hQ0 g) rfl
  · exact c_rec0 hI hs.2.1 hn (fr81 s1) c8 (-103) (by omega) (by omega) (hQ1 g g2) rfl
  · exact c_rec hI hs.2.1 hn (fr81 s1) c8 (s2.sc (by decide) (by decide)) c1 (s2.fr (by decide) (by decide)) _ hs.2.2.1 (by omega) (hQ2 g g2) rfl
theorem c_P_leave {x1 : Int32} (hI : CI S n H N T f G h) (hW : WF S) (hn : n ≤ 5) (p : Int) (hQ0 : ¬ thr S p → ∀ h', Fr 0 90 h h' → CI S n H N T f G h' → Q (some (.int (iI (-101)))) h')
    (hQ1 : thr S p → ∀ h', Fr 0 90 h h' → CI (ordS S ((S 1).toNat - 1) (outO (od S) (pos S p (S 1).toNat).toNat)) (psN n) (psH n H S) N T f G h' → Q (some (.int (iI (pos S p (S 1).toNat)))) h') (h1 : x1 = iI p) (rp : rg p) : SC y_P_leave [.ref 0, .int x1] h Q := by
  have hs := hW.n
  refine w_call IS_ok [] ok_P_leave rfl rfl ?_
  refine c_Scene_copyFrom_8_1 hI.1 hs.2.1 (fun hb s1 c8 => ?_)
  refine c_Scene_dismiss (hI.bf (fr81 s1)).1 hW p (fun g => ?_) (fun g hc s2 c1 => ?_) h1 rp
  · exact c_rec0 hI hs.2.1 hn (fr81 s1) c8 (-101) (by omega) (by omega) (hQ0 g) rfl
  · have hp := thr_pos g
    exact c_rec hI hs.2.1 hn (fr81 s1) c8 (s2.sc (by decide) (by decide)) c1 (s2.fr (by decide) (by decide)) _ (by omega) (by omega) (hQ1 g) rfl
theorem c_P_move {x1 x2 x3 : Int32} (hI : CI S n H N T f G h) (hW : WF S) (hn : n ≤ 5) (p x y : Int) (hQ0 : ¬ (thr S p ∧ (-15 ≤ x ∧ x ≤ 63) ∧ (-15 ≤ y ∧ y ≤ 47)) → ∀ h', Fr 0 90 h h' → CI S n H N T f G h' → Q (some (.int (iI (-101)))) h')
    (hQ1 : (thr S p ∧ (-15 ≤ x ∧ x ≤ 63) ∧ (-15 ≤ y ∧ y ≤ 47)) → ∀ h', Fr 0 90 h h' → CI (mvS S p.toNat x y) (psN n) (psH n H S) N T f G h' → Q (some (.int (iI (lns (mvS S p.toNat x y) p.toNat 48 : Nat)))) h') (h1 : x1 = iI p) (h2 : x2 = iI x) (h3 : x3 = iI y) (rp : rg p) (rx : rg x) (ry : rg y) : SC y_P_move [.ref 0, .int x1, .int x2, .int x3] h Q := by
  have hs := hW.n
  refine w_call IS_ok [] ok_P_move rfl rfl ?_
  refine c_Scene_copyFrom_8_1 hI.1 hs.2.1 (fun hb s1 c8 => ?_)
  refine c_Scene_relocate (hI.bf (fr81 s1)).1 hW p x y (fun g => ?_) (fun g hc s2 c1 => ?_) h1 h2 h3 rp rx ry
  · exact c_rec0 hI hs.2.1 hn (fr81 s1) c8 (-101) (by omega) (by omega) (hQ0 g) rfl
  · have hl := lns_le (mvS S p.toNat x y) p.toNat 48
    exact c_rec hI hs.2.1 hn (fr81 s1) c8 (s2.sc (by decide) (by decide)) c1 (s2.fr (by decide) (by decide)) _ (by omega) (by omega) (hQ1 g) rfl
theorem c_P_turn {x1 x2 : Int32} (hI : CI S n H N T f G h) (hW : WF S) (hn : n ≤ 5) (p l : Int) (hQ0 : ¬ (thr S p ∧ (0 ≤ l ∧ l ≤ 3)) → ∀ h', Fr 0 90 h h' → CI S n H N T f G h' → Q (some (.int (iI (-101)))) h')
    (hQ1 : (thr S p ∧ (0 ≤ l ∧ l ≤ 3)) → ∀ h', Fr 0 90 h h' → CI (u1 S (26 + 9 * p.toNat + 5) l) (psN n) (psH n H S) N T f G h' → Q (some (.int (iI (S (26 + 9 * p.toNat + 5))))) h') (h1 : x1 = iI p) (h2 : x2 = iI l) (rp : rg p) (rl : rg l) : SC y_P_turn [.ref 0, .int x1, .int x2] h Q := by
  have hs := hW.n
  refine w_call IS_ok [] ok_P_turn rfl rfl ?_
  refine c_Scene_copyFrom_8_1 hI.1 hs.2.1 (fun hb s1 c8 => ?_)
  refine c_Scene_flip (hI.bf (fr81 s1)).1 hW p l (fun g => ?_) (fun g hc s2 c1 => ?_) h1 h2 rp rl
  · exact c_rec0 hI hs.2.1 hn (fr81 s1) c8 (-101) (by omega) (by omega) (hQ0 g) rfl
  · have hb := thr_b hW g.1
    have hw := (hW.wp p.toNat (by omega)).2.2.2.2.2.1
    exact c_rec hI hs.2.1 hn (fr81 s1) c8 (s2.sc (by decide) (by decide)) c1 (s2.fr (by decide) (by decide)) _ hw.1 (by omega) (hQ1 g) rfl
theorem c_P_lift {x1 : Int32} (hI : CI S n H N T f G h) (hW : WF S) (hn : n ≤ 5) (p : Int) (hQ0 : ¬ thr S p → ∀ h', Fr 0 90 h h' → CI S n H N T f G h' → Q (some (.int (iI (-101)))) h')
    (hQ1 : thr S p → ∀ h', Fr 0 90 h h' → CI (ordS S (S 1).toNat (lftO (od S) (pos S p (S 1).toNat).toNat)) (psN n) (psH n H S) N T f G h' → Q (some (.int (iI (pos S p (S 1).toNat)))) h') (h1 : x1 = iI p) (rp : rg p) : SC y_P_lift [.ref 0, .int x1] h Q := by
  have hs := hW.n
  refine w_call IS_ok [] ok_P_lift rfl rfl ?_
  refine c_Scene_copyFrom_8_1 hI.1 hs.2.1 (fun hb s1 c8 => ?_)
  refine c_Scene_putFirst (hI.bf (fr81 s1)).1 hW p (fun g => ?_) (fun g hc s2 c1 => ?_) h1 rp
  · exact c_rec0 hI hs.2.1 hn (fr81 s1) c8 (-101) (by omega) (by omega) (hQ0 g) rfl
  · have hp := thr_pos g
    exact c_rec hI hs.2.1 hn (fr81 s1) c8 (s2.sc (by decide) (by decide)) c1 (s2.fr (by decide) (by decide)) _ (by omega) (by omega) (hQ1 g) rfl
theorem c_P_lower {x1 : Int32} (hI : CI S n H N T f G h) (hW : WF S) (hn : n ≤ 5) (p : Int) (hQ0 : ¬ thr S p → ∀ h', Fr 0 90 h h' → CI S n H N T f G h' → Q (some (.int (iI (-101)))) h')
    (hQ1 : thr S p → ∀ h', Fr 0 90 h h' → CI (ordS S (S 1).toNat (lowO (od S) (pos S p (S 1).toNat).toNat (S 1).toNat)) (psN n) (psH n H S) N T f G h' → Q (some (.int (iI (pos S p (S 1).toNat)))) h') (h1 : x1 = iI p) (rp : rg p) : SC y_P_lower [.ref 0, .int x1] h Q := by
  have hs := hW.n
  refine w_call IS_ok [] ok_P_lower rfl rfl ?_
  refine c_Scene_copyFrom_8_1 hI.1 hs.2.1 (fun hb s1 c8 => ?_)
  refine c_Scene_putLast (hI.bf (fr81 s1)).1 hW p (fun g => ?_) (fun g hc s2 c1 => ?_) h1 rp
  · exact c_rec0 hI hs.2.1 hn (fr81 s1) c8 (-101) (by omega) (by omega) (hQ0 g) rfl
  · have hp := thr_pos g
    exact c_rec hI hs.2.1 hn (fr81 s1) c8 (s2.sc (by decide) (by decide)) c1 (s2.fr (by decide) (by decide)) _ (by omega) (by omega) (hQ1 g) rfl
theorem c_P_setLimit {x1 : Int32} (hI : CI S n H N T f G h) (hW : WF S) (hn : n ≤ 5) (l : Int) (hQ0 : ¬ (1 ≤ l ∧ l ≤ 8) → ∀ h', Fr 0 90 h h' → CI S n H N T f G h' → Q (some (.int (iI (-101)))) h')
    (hQ1 : (1 ≤ l ∧ l ≤ 8) → ∀ h', Fr 0 90 h h' → CI (u1 S 2 l) (psN n) (psH n H S) N T f G h' → Q (some (.int (iI (S 2)))) h') (h1 : x1 = iI l) (rl : rg l) : SC y_P_setLimit [.ref 0, .int x1] h Q := by
  have hs := hW.n
  refine w_call IS_ok [] ok_P_setLimit rfl rfl ?_
  refine c_Scene_copyFrom_8_1 hI.1 hs.2.1 (fun hb s1 c8 => ?_)
  refine c_Scene_changeLimit (hI.bf (fr81 s1)).1 l (fun g => ?_) (fun g hc s2 c1 => ?_) h1 rl
  · exact c_rec0 hI hs.2.1 hn (fr81 s1) c8 (-101) (by omega) (by omega) (hQ0 g) rfl
  · have hl := hW.lim
    exact c_rec hI hs.2.1 hn (fr81 s1) c8 (s2.sc (by decide) (by decide)) c1 (s2.fr (by decide) (by decide)) _ (by omega) (by omega) (hQ1 g) rfl
theorem c_P_setRule {x1 x2 : Int32} (hI : CI S n H N T f G h) (hW : WF S) (hn : n ≤ 5) (a b : Int) (hQ0 : ¬ ((0 ≤ a ∧ a ≤ 2) ∧ (1 ≤ b ∧ b ≤ 19)) → ∀ h', Fr 0 90 h h' → CI S n H N T f G h' → Q (some (.int (iI (-101)))) h')
    (hQ1 : ((0 ≤ a ∧ a ≤ 2) ∧ (1 ≤ b ∧ b ≤ 19)) → ∀ h', Fr 0 90 h h' → CI (u1 (u1 S 3 a) 4 b) (psN n) (psH n H S) N T f G h' → Q (some (.int (iI (S 3)))) h') (h1 : x1 = iI a) (h2 : x2 = iI b) (ra : rg a) (rb : rg b) : SC y_P_setRule [.ref 0, .int x1, .int x2] h Q := by
  have hs := hW.n
  have h3 := hW.2.2.2.1
  refine w_call IS_ok [] ok_P_setRule rfl rfl ?_
  refine c_Scene_copyFrom_8_1 hI.1 hs.2.1 (fun hb s1 c8 => ?_)
  refine c_Scene_changeRule (hI.bf (fr81 s1)).1 a b (fun g => ?_) (fun g hc s2 c1 => ?_) h1 h2 ra rb
  · exact c_rec0 hI hs.2.1 hn (fr81 s1) c8 (-101) (by omega) (by omega) (hQ0 g) rfl
  · exact c_rec hI hs.2.1 hn (fr81 s1) c8 (s2.sc (by decide) (by decide)) c1 (s2.fr (by decide) (by decide)) _ (by omega) (by omega) (hQ1 g) rfl
theorem c_P_frame (hI : CI S n H N T f G h) (hW : WF S) (hn : n ≤ 5) (hQ0 : S 5 = 9999 → ∀ h', Fr 0 90 h h' → CI S n H N T f G h' → Q (some (.int (iI (-103)))) h')
    (hQ1 : S 5 ≠ 9999 → ∀ h', Fr 0 90 h h' → CI (frS S) (psN n) (psH n H S) N T f G h' → Q (some (.int (iI (hidN S : Nat)))) h') : SC y_P_frame [.ref 0] h Q := by
  have hs := hW.n
  have h5 := hW.2.2.2.2.2.1
  refine w_call IS_ok [] ok_P_frame rfl rfl ?_
  refine c_Scene_copyFrom_8_1 hI.1 hs.2.1 (fun hb s1 c8 => ?_)
  refine c_Scene_makeFrame_1 (hI.bf (fr81 s1)).1 hW.wg (by omega) 9999 (by omega) (fun g => ?_) (fun g hc s2 c1 _ => ?_) rfl
  · exact c_rec0 hI hs.2.1 hn (fr81 s1) c8 (-103) (by omega) (by omega) (hQ0 (by omega)) rfl
  · have hl := hidN_le S
    exact c_rec hI hs.2.1 hn (fr81 s1) c8 (s2.sc (by decide) (by decide)) c1 (s2.fr (by decide) (by decide)) _ (by omega) (by omega) (hQ1 (by omega)) rfl
theorem CH.sz (hH : CH n H h) : h.1 38 2 = iI (n : Nat) := by obtain ⟨w, -, -, h2, -⟩ := hH; exact h2
theorem c_P_undo (hI : CI S n H N T f G h) (hn : n ≤ 5) (hs : 0 < n → (H (n - 1) 1).toNat ≤ 20) (hQ0 : n = 0 → Q (some (.int (iI (-102)))) h)
    (hQ1 : 0 < n → ∀ h', Fr 0 90 h h' → CI (H (n - 1)) (n - 1) H N T f G h' → Q (some (.int (iI (n - 1 : Nat)))) h') : SC y_P_undo [.ref 0] h Q := by
  refine w_call IS_ok [] ok_P_undo rfl rfl ?_
  refine w_eq n 0 (fun g => hQ0 (by omega)) (fun g => ?_) hI.2.1.sz rfl
  refine c_Hist_restore hI.2.1 hn (by omega) (hs (by omega)) (fun h' s1 c1 cH => ?_)
  have f1 : Fr 1 39 h h' := s1.fr (by decide) (by decide)
  have := hQ1 (by omega) h' (f1.w (by omega) (by omega)) ⟨c1, cH, hI.2.2.1.fr f1 (by omega), hI.2.2.2.fr f1 (by omega)⟩
  rw [← cH.sz] at this
  exact this
theorem c_P_failure {x1 : Int32} (hI : CI S n H N T f G h) (hf : f ≤ 1) (w : Int) (hQ : ∀ r, FaiR f G w r → Q (some (.int (iI r))) h) (h1 : x1 = iI w) (rw' : rg w) : SC y_P_failure [.ref 0, .int x1] h Q := by
  refine w_call IS_ok [] ok_P_failure rfl rfl ?_
  refine c_P_within w 0 4 ?_ h1 rfl rfl rw'
  refine w_b (fun g => hQ (-101) (Or.inl ⟨g, rfl⟩)) (fun g => ?_)
  refine w_call IS_ok [] ok_Fail_part rfl rfl ?_
  obtain ⟨c1, c2⟩ := hI.2.2.2
  refine w_eq f 0 (fun g2 => hQ (-109) (Or.inr ⟨g, Or.inl ⟨by omega, rfl⟩⟩)) (fun g2 => ?_) c1 rfl
  have f1 : f = 1 := by omega
  have c2 := c2 f1
  have hq : ∀ j : Nat, w = j → Q (some (.int (iI (G j)))) h := fun j hj => hQ _ (Or.inr ⟨g, Or.inr ⟨f1, by rw [hj]; rfl⟩⟩)
  have : w = 0 ∨ w = 1 ∨ w = 2 ∨ w = 3 ∨ w = 4 := by omega
  rcases this with rfl | rfl | rfl | rfl | rfl
  · subst h1; have := hq 0 rfl; rw [← c2 0 (by omega)] at this; exact this
  · subst h1; have := hq 1 rfl; rw [← c2 1 (by omega)] at this; exact this
  · subst h1; have := hq 2 rfl; rw [← c2 2 (by omega)] at this; exact this
  · subst h1; have := hq 3 rfl; rw [← c2 3 (by omega)] at this; exact this
  · subst h1; have := hq 4 rfl; rw [← c2 4 (by omega)] at this; exact this
end
end
section
/-! longs by natural numbers; how many bits a long has -/
def l6 (n : Nat) : Int64 := Int64.ofNat n
theorem l6_inj {a b : Int64} (h : a.toBitVec = b.toBitVec) : a = b := Int64.toBitVec_inj.mp h
theorem l6_tb (n : Nat) : (l6 n).toBitVec = BitVec.ofNat 64 n := rfl
theorem l6_and (a b : Nat) : l6 a &&& l6 b = l6 (a &&& b) := by
  refine l6_inj (BitVec.eq_of_getLsbD_eq fun i hi => ?_)
  rw [Int64.toBitVec_and, BitVec.getLsbD_and, l6_tb, l6_tb, l6_tb, BitVec.getLsbD_ofNat, BitVec.getLsbD_ofNat, BitVec.getLsbD_ofNat, Nat.testBit_and]
  simp [hi]
theorem l6_or (a b : Nat) : l6 a ||| l6 b = l6 (a ||| b) := by
  refine l6_inj (BitVec.eq_of_getLsbD_eq fun i hi => ?_)
  rw [Int64.toBitVec_or, BitVec.getLsbD_or, l6_tb, l6_tb, l6_tb, BitVec.getLsbD_ofNat, BitVec.getLsbD_ofNat, BitVec.getLsbD_ofNat, Nat.testBit_or]
  simp [hi]
theorem l6_add (a b : Nat) : l6 a + l6 b = l6 (a + b) := (Int64.ofNat_add a b).symm
theorem l6_sub {a b : Nat} (h : b ≤ a) : l6 a - l6 b = l6 (a - b) := (Int64.ofNat_sub a b h).symm
theorem l6_k : ∀ k, k < 64 → ((iI (k : Nat)).toInt64 &&& 63) = l6 k := by decide +kernel
theorem l6_ku : ∀ k, k < 64 → ((iI (k : Nat)).toInt64.toUInt64 &&& Int64.toUInt64 63) = UInt64.ofNat k := by decide +kernel
theorem l6_ks : ∀ k, k < 64 → ((BitVec.ofNat 64 k).smod 64).toNat = k := by decide +kernel
theorem l6_shl (n : Nat) {k : Nat} (hk : k < 64) : l6 n <<< ((iI (k : Nat)).toInt64 &&& 63) = l6 (n * 2 ^ k) := by
  rw [l6_k k hk]
  refine l6_inj (BitVec.eq_of_toNat_eq ?_)
  rw [Int64.toBitVec_shiftLeft, l6_tb, l6_tb, l6_tb, BitVec.shiftLeft_eq', BitVec.toNat_shiftLeft]
  have := l6_ks k hk
  rw [show ((BitVec.ofNat 64 k).smod 64).toNat = k from this, Nat.shiftLeft_eq, BitVec.toNat_ofNat, BitVec.toNat_ofNat, Nat.mod_mul_mod]
theorem l6_shr {n k : Nat} (hn : n < 2 ^ 64) (hk : k < 64) : ((l6 n).toUInt64 >>> ((iI (k : Nat)).toInt64.toUInt64 &&& Int64.toUInt64 63)).toInt64 = l6 (n / 2 ^ k) := by
  rw [l6_ku k hk]
  refine l6_inj (BitVec.eq_of_toNat_eq ?_)
  show ((l6 n).toUInt64 >>> UInt64.ofNat k).toNat = (BitVec.ofNat 64 (n / 2 ^ k)).toNat
  have h1 : (UInt64.ofNat k).toNat = k := by
    show (BitVec.ofNat 64 k).toNat = k
    rw [BitVec.toNat_ofNat, Nat.mod_eq_of_lt (by omega)]
  have h2 : (l6 n).toUInt64.toNat = n := by
    show (BitVec.ofNat 64 n).toNat = n
    rw [BitVec.toNat_ofNat, Nat.mod_eq_of_lt hn]
  rw [UInt64.toNat_shiftRight, h1, h2, Nat.mod_eq_of_lt hk, Nat.shiftRight_eq_div_pow, BitVec.toNat_ofNat, Nat.mod_eq_of_lt (Nat.lt_of_le_of_lt (Nat.div_le_self _ _) hn)]
theorem l6_32 (r : Nat) : (l6 r).toInt32 &&& 127 = iI (r % 128 : Nat) := by
  have e : (l6 r).toInt32.toBitVec.toNat = r % 2 ^ 32 := by
    show ((BitVec.ofNat 64 r).signExtend 32).toNat = _
    rw [BitVec.signExtend_eq_setWidth_of_le _ (by decide), BitVec.toNat_setWidth, BitVec.toNat_ofNat, Nat.mod_mod_of_dvd _ (by decide)]
  have := pk_and (l6 r).toInt32 (m := 127) 7 (by decide)
  rw [this, e]
  show nI (r % 2 ^ 32 % 128) = nI (r % 128)
  rw [Nat.mod_mod_of_dvd _ (show 128 ∣ 2 ^ 32 by decide)]
/-- a mask and a shift, byte by byte -/
theorem and_by {hi lo M m s : Nat} (hl : lo < 256) (hs : s ≤ 8) (hm : m < 2 ^ (8 - s)) : (hi * 256 + lo) / 2 ^ s &&& (M * 256 + m) = (hi / 2 ^ s &&& M) * 256 + (lo / 2 ^ s &&& m) := by
  have e2 : m < 2 ^ 8 := Nat.lt_of_lt_of_le hm (Nat.pow_le_pow_right (by decide) (by omega))
  refine Nat.eq_of_testBit_eq fun i => ?_
  have h1 := fun a j => Nat.testBit_two_pow_mul_add a (b := lo) (i := 8) hl j
  have h2 := fun a j => Nat.testBit_two_pow_mul_add a (b := m) (i := 8) e2 j
  have h3 : (lo / 2 ^ s &&& m) < 2 ^ 8 := Nat.lt_of_le_of_lt Nat.and_le_right e2
  have h4 := fun a j => Nat.testBit_two_pow_mul_add a (b := lo / 2 ^ s &&& m) (i := 8) h3 j
  rw [show hi * 256 = 2 ^ 8 * hi by omega, show M * 256 = 2 ^ 8 * M by omega, show (hi / 2 ^ s &&& M) * 256 = 2 ^ 8 * (hi / 2 ^ s &&& M) by omega]
  rw [Nat.testBit_and, Nat.testBit_div_two_pow, h1, h2, h4]
  by_cases z : i < 8
  · rw [if_pos z, if_pos z, Nat.testBit_and, Nat.testBit_div_two_pow]
    by_cases z2 : i + s < 8
    · rw [if_pos z2]
    · rw [if_neg z2]
      have : m.testBit i = false := Nat.testBit_lt_two_pow (Nat.lt_of_lt_of_le hm (Nat.pow_le_pow_right (by decide) (by omega)))
      rw [this]
      simp
  · rw [if_neg (by omega), if_neg z, if_neg z, Nat.testBit_and, Nat.testBit_div_two_pow, show i + s - 8 = i - 8 + s by omega]
def c1 (M x : Nat) : Nat := x - (x / 2 &&& M)
def c2 (M x : Nat) : Nat := (x &&& M) + (x / 4 &&& M)
def c3 (M x : Nat) : Nat := x + x / 16 &&& M
theorem c1_by {hi lo M : Nat} (hl : lo < 256) : c1 (M * 256 + 85) (hi * 256 + lo) = c1 M hi * 256 + c1 85 lo := by
  have e := and_by (hi := hi) (lo := lo) (M := M) (m := 85) (s := 1) hl (by decide) (by decide)
  have l1 : hi / 2 &&& M ≤ hi := Nat.le_trans Nat.and_le_left (Nat.div_le_self _ _)
  have l2 : lo / 2 &&& 85 ≤ lo := Nat.le_trans Nat.and_le_left (Nat.div_le_self _ _)
  unfold c1
  rw [show (2 : Nat) = 2 ^ 1 from rfl, e]
  simp only [Nat.pow_one]
  omega
theorem c2_by {hi lo M : Nat} (hl : lo < 256) : c2 (M * 256 + 51) (hi * 256 + lo) = c2 M hi * 256 + c2 51 lo := by
  have e := and_by (hi := hi) (lo := lo) (M := M) (m := 51) (s := 2) hl (by decide) (by decide)
  have e0 := and_by (hi := hi) (lo := lo) (M := M) (m := 51) (s := 0) hl (by decide) (by decide)
  rw [Nat.pow_zero, Nat.div_one, Nat.div_one, Nat.div_one] at e0
  unfold c2
  rw [show (4 : Nat) = 2 ^ 2 from rfl, e, e0]
  omega
theorem c3_by {hi lo M : Nat} (hl : lo < 256) (h1 : lo % 16 ≤ 4) (h2 : lo / 16 ≤ 4) (h3 : hi % 16 ≤ 4) : c3 (M * 256 + 15) (hi * 256 + lo) = c3 M hi * 256 + (lo % 16 + lo / 16) := by
  have e0 := and_by (hi := hi + hi / 16) (lo := lo + lo / 16 + hi % 16 * 16) (M := M) (m := 15) (s := 0) (by omega) (by decide) (by decide)
  rw [Nat.pow_zero, Nat.div_one, Nat.div_one, Nat.div_one] at e0
  unfold c3
  rw [show hi * 256 + lo + (hi * 256 + lo) / 16 = (hi + hi / 16) * 256 + (lo + lo / 16 + hi % 16 * 16) by omega, e0, show (lo + lo / 16 + hi % 16 * 16) &&& 15 = (lo + lo / 16 + hi % 16 * 16) % 16 from Nat.and_two_pow_sub_one_eq_mod _ 4]
  omega
def pc8 (b : Nat) : Nat := sm (fun i => if b.testBit i then 1 else 0) 8
theorem pc_b : ∀ b, b < 256 → (c2 51 (c1 85 b)) < 256 ∧ (c2 51 (c1 85 b)) % 16 ≤ 4 ∧ (c2 51 (c1 85 b)) / 16 ≤ 4 ∧ (c2 51 (c1 85 b)) % 16 + (c2 51 (c1 85 b)) / 16 = pc8 b ∧ c1 85 b < 256 := by decide +kernel
/-- the masks of k bytes; what k bytes count -/
def mk (m : Nat) : Nat → Nat
  | 0 => 0
  | k + 1 => mk m k * 256 + m
def pcs : Nat → Nat → Nat
  | 0, _ => 0
  | k + 1, x => pcs k (x / 256) * 256 + pc8 (x % 256)
theorem c123 : ∀ (k x : Nat), x < 256 ^ k → c3 (mk 15 k) (c2 (mk 51 k) (c1 (mk 85 k) x)) = pcs k x ∧ c2 (mk 51 k) (c1 (mk 85 k) x) % 16 ≤ 4
  | 0, x, h => by
    have : x = 0 := by omega
    subst this
    exact ⟨rfl, by decide⟩
  | k + 1, x, h => by
    have hk : x / 256 < 256 ^ k := by
      rw [Nat.pow_succ] at h
      exact Nat.div_lt_of_lt_mul (by rw [Nat.mul_comm]; exact h)
    obtain ⟨ih, ih2⟩ := c123 k (x / 256) hk
    obtain ⟨b1, b2, b3, b4, b5⟩ := pc_b (x % 256) (Nat.mod_lt _ (by decide))
    have ex : x = x / 256 * 256 + x % 256 := by omega
    have e1 : c1 (mk 85 (k + 1)) x = c1 (mk 85 k) (x / 256) * 256 + c1 85 (x % 256) := by
      conv => lhs; rw [ex]
      exact c1_by (Nat.mod_lt _ (by decide))
    have e2 : c2 (mk 51 (k + 1)) (c1 (mk 85 (k + 1)) x) = c2 (mk 51 k) (c1 (mk 85 k) (x / 256)) * 256 + c2 51 (c1 85 (x % 256)) := by
      rw [e1]
      exact c2_by b5
    refine ⟨?_, by rw [e2]; omega⟩
    rw [e2]
    show c3 (mk 15 k * 256 + 15) _ = _
    rw [c3_by b1 b2 b3 ih2, ih, b4]
    rfl
theorem sm_cat (f : Nat → Nat) (a : Nat) : ∀ b, sm f (a + b) = sm f a + sm (fun i => f (a + i)) b
  | 0 => rfl
  | b + 1 => by
    show sm f (a + b) + f (a + b) = sm f a + (sm (fun i => f (a + i)) b + f (a + b))
    rw [sm_cat f a b]
    omega
theorem pc8_le (b : Nat) : pc8 b ≤ 8 := sm_le (b := 1) (fun i _ => by split <;> omega)
theorem pc8_hi {x k : Nat} : sm (fun i => if x.testBit i then 1 else 0) (8 + k) = pc8 (x % 256) + sm (fun i => if (x / 256).testBit i then 1 else 0) k := by
  rw [sm_cat]
  congr 1
  · refine sm_congr (fun i hi => ?_)
    rw [show x % 256 = x % 2 ^ 8 from rfl, Nat.testBit_mod_two_pow]
    simp [hi]
  · refine sm_congr (fun i hi => ?_)
    rw [show x / 256 = x / 2 ^ 8 from rfl, Nat.testBit_div_two_pow, Nat.add_comm 8 i]
/-- how many bits are set -/
def bts (x : Nat) : Nat := sm (fun i => if x.testBit i then 1 else 0) 64
theorem pcs_8 (x : Nat) : ∃ a b c d e f g h : Nat, a ≤ 8 ∧ b ≤ 8 ∧ c ≤ 8 ∧ d ≤ 8 ∧ e ≤ 8 ∧ f ≤ 8 ∧ g ≤ 8 ∧ h ≤ 8 ∧ pcs 8 x = ((((((h * 256 + g) * 256 + f) * 256 + e) * 256 + d) * 256 + c) * 256 + b) * 256 + a ∧ bts x = a + b + c + d + e + f + g + h := by
  refine ⟨_, _, _, _, _, _, _, _, pc8_le (x % 256), pc8_le (x / 256 % 256), pc8_le (x / 256 / 256 % 256), pc8_le (x / 256 / 256 / 256 % 256), pc8_le (x / 256 / 256 / 256 / 256 % 256), pc8_le (x / 256 / 256 / 256 / 256 / 256 % 256), pc8_le (x / 256 / 256 / 256 / 256 / 256 / 256 % 256), pc8_le (x / 256 / 256 / 256 / 256 / 256 / 256 / 256 % 256), ?_, ?_⟩
  · simp only [pcs]
    omega
  · unfold bts
    rw [show 64 = 8 + (8 + (8 + (8 + (8 + (8 + (8 + (8 + 0))))))) from rfl, pc8_hi, pc8_hi, pc8_hi, pc8_hi, pc8_hi, pc8_hi, pc8_hi, pc8_hi]
    show _ + (_ + (_ + (_ + (_ + (_ + (_ + (_ + 0))))))) = _
    omega
theorem dv {a B : Nat} (m : Nat) (h : a < B) : (a + B * m) / B = m := by rw [Nat.add_mul_div_left _ _ (by omega), Nat.div_eq_of_lt h, Nat.zero_add]
theorem md {D E W M : Nat} (h : D + E < 128) : (D + 256 * W + (E + 256 * M)) % 128 = D + E := by omega
theorem bts_r {x y : Nat} (h : y = pcs 8 x) : (y + y / 2 ^ 8 + (y + y / 2 ^ 8) / 2 ^ 16 + (y + y / 2 ^ 8 + (y + y / 2 ^ 8) / 2 ^ 16) / 2 ^ 32) % 128 = bts x ∧ y + y / 2 ^ 8 + (y + y / 2 ^ 8) / 2 ^ 16 < 2 ^ 64 ∧ y + y / 2 ^ 8 < 2 ^ 64 ∧ y < 2 ^ 63 := by
  obtain ⟨a, b, c, d, e, f, g, k, h1, h2, h3, h4, h5, h6, h7, h8, h9, h10⟩ := pcs_8 x
  have hy : y = a + 256 * (b + 256 * (c + 256 * (d + 256 * (e + 256 * (f + 256 * (g + 256 * k)))))) := by
    rw [h, h9]
    clear h1 h2 h3 h4 h5 h6 h7 h8 h9 h10 h
    omega
  rw [h10]
  clear h10 h9 h
  have e1 : y / 2 ^ 8 = b + 256 * (c + 256 * (d + 256 * (e + 256 * (f + 256 * (g + 256 * k))))) := by rw [hy]; exact dv _ (by omega)
  have e2 : y + y / 2 ^ 8 = (a + b) + 256 * ((b + c) + 256 * ((c + d) + 256 * ((d + e) + 256 * ((e + f) + 256 * ((f + g) + 256 * ((g + k) + 256 * k)))))) := by
    rw [e1, hy]
    clear h1 h2 h3 h4 h5 h6 h7 h8 e1 hy
    omega
  have hy63 : y < 2 ^ 63 := by rw [show (2 : Nat) ^ 63 = 9223372036854775808 from rfl]; clear e1 e2; omega
  clear e1 hy
  generalize y + y / 2 ^ 8 = z at *
  have e3 : z / 2 ^ 16 = (c + d) + 256 * ((d + e) + 256 * ((e + f) + 256 * ((f + g) + 256 * ((g + k) + 256 * k)))) := by
    have : z = ((a + b) + 256 * (b + c)) + 2 ^ 16 * ((c + d) + 256 * ((d + e) + 256 * ((e + f) + 256 * ((f + g) + 256 * ((g + k) + 256 * k))))) := by
      rw [e2, show (2 : Nat) ^ 16 = 65536 from rfl]
      clear h1 h2 h3 h4 h5 h6 h7 h8 e2 hy63
      omega
    rw [this]
    exact dv _ (by omega)
  have e4 : z + z / 2 ^ 16 = (a + b + c + d) + 256 * ((b + c + d + e) + 256 * ((c + d + e + f) + 256 * ((d + e + f + g) + 256 * ((e + f + g + k) + 256 * ((f + g + k) + 256 * ((g + k) + 256 * k)))))) := by
    rw [e3, e2]
    clear h1 h2 h3 h4 h5 h6 h7 h8 e2 e3 hy63
    omega
  have hz : z < 2 ^ 64 := by rw [show (2 : Nat) ^ 64 = 18446744073709551616 from rfl]; clear e3 e4 hy63; omega
  clear e3 e2
  generalize z + z / 2 ^ 16 = w at *
  have hw : w < 2 ^ 64 := by rw [show (2 : Nat) ^ 64 = 18446744073709551616 from rfl]; clear hz hy63; omega
  have e5 : w / 2 ^ 32 = (e + f + g + k) + 256 * ((f + g + k) + 256 * ((g + k) + 256 * k)) := by
    have : w = ((a + b + c + d) + 256 * ((b + c + d + e) + 256 * ((c + d + e + f) + 256 * (d + e + f + g)))) + 2 ^ 32 * ((e + f + g + k) + 256 * ((f + g + k) + 256 * ((g + k) + 256 * k))) := by
      rw [e4, show (2 : Nat) ^ 32 = 4294967296 from rfl]
      clear h1 h2 h3 h4 h5 h6 h7 h8 e4 hw hz hy63
      omega
    rw [this]
    exact dv _ (by clear this e4 hw hz hy63; omega)
  refine ⟨?_, hw, hz, hy63⟩
  rw [e5, e4, md (by clear e4 e5 hw hz hy63; omega)]
  omega
end
section
/-! how many bits a long has: the method -/
theorem pf_97 : plainFor (mNm 97) = true := by decide +kernel
theorem mk_85 : mk 85 8 = 6148914691236517205 := by decide
theorem mk_51 : mk 51 8 = 3689348814741910323 := by decide
theorem mk_15 : mk 15 8 = 1085102592571150095 := by decide
theorem sr_l0 {y pc : Nat} {v w : Int64} {L : List (Option Value)} {st : List Value} {h : St} {Q : Option Value → St → Prop} (e : v = w) (k : SR y pc (some (.long w) :: L) st h Q) : SR y pc (some (.long v) :: L) st h Q := by subst e; exact k
theorem c_J_bitCount {v : Int64} {h : St} {Q : Option Value → St → Prop} (n : Nat) (hn : n < 2 ^ 64) (hQ : Q (some (.int (iI (bts n : Nat)))) h) (hv : v = l6 n) : SC y_J_bitCount [.long v] h Q := by
  refine w_callF IS_ok [10] ok_J_bitCount pf_97 rfl ?_
  subst hv
  have q1 : n / 2 &&& mk 85 8 ≤ n := Nat.le_trans Nat.and_le_left (Nat.div_le_self _ _)
  have s1 : l6 n - (((l6 n).toUInt64 >>> ((iI (1 : Nat)).toInt64.toUInt64 &&& Int64.toUInt64 63)).toInt64 &&& l6 6148914691236517205) = l6 (c1 (mk 85 8) n) := by
    rw [l6_shr hn (by decide), l6_and, ← mk_85]
    exact l6_sub q1
  have b1 : c1 (mk 85 8) n < 2 ^ 64 := Nat.lt_of_le_of_lt (Nat.sub_le _ _) hn
  refine sr_l0 s1 ?_
  have s2 : (l6 (c1 (mk 85 8) n) &&& l6 3689348814741910323) + (((l6 (c1 (mk 85 8) n)).toUInt64 >>> ((iI (2 : Nat)).toInt64.toUInt64 &&& Int64.toUInt64 63)).toInt64 &&& l6 3689348814741910323) = l6 (c2 (mk 51 8) (c1 (mk 85 8) n)) := by
    rw [l6_shr b1 (by decide), l6_and, l6_and, ← mk_51, l6_add]
    rfl
  have b2 : c2 (mk 51 8) (c1 (mk 85 8) n) < 2 ^ 64 := by
    have m1 : (c1 (mk 85 8) n &&& mk 51 8) ≤ mk 51 8 := Nat.and_le_right
    have m2 : (c1 (mk 85 8) n / 4 &&& mk 51 8) ≤ mk 51 8 := Nat.and_le_right
    unfold c2
    refine Nat.lt_of_le_of_lt (Nat.add_le_add m1 m2) ?_
    rw [mk_51]
    decide
  have e3 := (c123 8 n hn).1
  generalize c1 (mk 85 8) n = x1 at *
  refine w_loop IS_ok [24] ok_J_bitCount ?_
  refine sr_l0 s2 ?_
  generalize c2 (mk 51 8) x1 = x2 at *
  have s3 : (l6 x2 + ((l6 x2).toUInt64 >>> ((iI (4 : Nat)).toInt64.toUInt64 &&& Int64.toUInt64 63)).toInt64) &&& l6 1085102592571150095 = l6 (pcs 8 n) := by
    rw [l6_shr b2 (by decide), l6_add, l6_and, ← mk_15, ← e3]
    rfl
  refine w_loop IS_ok [34] ok_J_bitCount ?_
  refine sr_l0 s3 ?_
  obtain ⟨r1, r2, r3, r4⟩ := bts_r (x := n) rfl
  generalize pcs 8 n = y at *
  have s4 : l6 y + ((l6 y).toUInt64 >>> ((iI (8 : Nat)).toInt64.toUInt64 &&& Int64.toUInt64 63)).toInt64 = l6 (y + y / 2 ^ 8) := by
    rw [l6_shr (Nat.lt_trans r4 (by decide)) (by decide), l6_add]
  refine w_loop IS_ok [41] ok_J_bitCount ?_
  refine sr_l0 s4 ?_
  generalize y + y / 2 ^ 8 = z at *
  have s5 : l6 z + ((l6 z).toUInt64 >>> ((iI (16 : Nat)).toInt64.toUInt64 &&& Int64.toUInt64 63)).toInt64 = l6 (z + z / 2 ^ 16) := by
    rw [l6_shr r3 (by decide), l6_add]
  refine w_loop IS_ok [48] ok_J_bitCount ?_
  refine sr_l0 s5 ?_
  generalize z + z / 2 ^ 16 = w at *
  have s6 : l6 w + ((l6 w).toUInt64 >>> ((iI (32 : Nat)).toInt64.toUInt64 &&& Int64.toUInt64 63)).toInt64 = l6 (w + w / 2 ^ 32) := by
    rw [l6_shr r2 (by decide), l6_add]
  refine w_loop IS_ok [55] ok_J_bitCount ?_
  refine sr_l0 s6 ?_
  have s7 := l6_32 (w + w / 2 ^ 32)
  generalize w + w / 2 ^ 32 = u at *
  refine w_loop IS_ok [] ok_J_bitCount ?_
  rw [r1] at s7
  rw [← s7] at hQ
  exact hQ
end
section
/-! the class: the dots of a puppet on a line -/
def rvn (d : Nat) : Nat → Nat
  | 0 => 0
  | k + 1 => rvn d k * 2 ||| (if d.testBit k then 1 else 0)
theorem rvn_b : ∀ d, d < 256 → ∀ k, k < 9 → rvn d k < 256 := by decide +kernel
theorem rvn_t : ∀ d, d < 256 → ∀ j, j < 8 → (rvn d 8).testBit j = d.testBit (7 - j) := by decide +kernel
theorem c_Scene_mirrored {x : Int32} {h : St} {Q : Option Value → St → Prop} (d : Nat) (hd : d < 256) (hQ : Q (some (.int (iI (rvn d 8 : Nat)))) h) (hx : x = iI (d : Nat)) : SC y_Scene_mirrored [.int x] h Q := by
  refine w_call IS_ok [4] ok_Scene_mirrored rfl rfl ?_
  have loop : ∀ (m k : Nat) (z1 z2 : Int32), 8 ≤ k + m → k ≤ 8 → z1 = iI (rvn d k : Nat) → z2 = iI k → SR y_Scene_mirrored 4 [some (.int x), some (.int z1), some (.int z2)] [] h Q := by
    intro m
    induction m with
    | zero =>
      intro k z1 z2 hm hk e1 e2
      have : k = 8 := by omega
      subst this
      refine w_loop IS_ok [4] ok_Scene_mirrored ?_
      exact w_le 8 8 (fun _ => by rw [e1]; exact hQ) (fun _ => by omega) rfl e2
    | succ m ih =>
      intro k z1 z2 hm hk e1 e2
      refine w_loop IS_ok [4] ok_Scene_mirrored ?_
      refine w_le 8 k (fun g => ?_) (fun g => ?_) rfl e2
      · have : k = 8 := by omega
        subst this
        rw [e1]; exact hQ
      · refine ih (k + 1) _ _ (by omega) (by omega) ?_ (iI_1 e2)
        show (z1 <<< ((1 : Int32) &&& 31)) ||| ((x >>> (z2 &&& 31)) &&& 1) = _
        have hb := rvn_b d hd k (by omega)
        rw [e1, e2, hx]
        have a1 : iI (rvn d k : Nat) <<< ((1 : Int32) &&& 31) = nI (rvn d k * 2) := shN (a := rvn d k) (c := 1) (by omega) (by omega)
        have a2 : (iI (d : Nat) >>> (iI (k : Nat) &&& 31)) &&& 1 = nI (if d.testBit k then 1 else 0) := by
          have := bit_at (w := d) (k := k) (by omega) (by omega)
          rw [iI_nat] at this
          rw [this]
          split <;> rfl
        rw [a1, a2, fa_or]
        rfl
  exact loop 8 0 _ _ (by omega) (by omega) rfl rfl
theorem l6_mod (n : Nat) : l6 n = l6 (n % 2 ^ 64) := l6_inj (by rw [l6_tb, l6_tb]; apply BitVec.eq_of_toNat_eq; rw [BitVec.toNat_ofNat, BitVec.toNat_ofNat, Nat.mod_mod])
theorem l6_i : ∀ d, d < 256 → (iI (d : Nat)).toInt64 = l6 d := by decide +kernel
def plc (d : Nat) (X : Int) : Nat := if X ≤ -8 then 0 else if X ≤ 56 then d * 2 ^ (56 - X).toNat % 2 ^ 64 else d / 2 ^ (X - 56).toNat
theorem plc_lt {d : Nat} (hd : d < 256) (X : Int) : plc d X < 2 ^ 64 := by
  unfold plc
  split
  · decide
  · split
    · exact Nat.mod_lt _ (by decide)
    · exact Nat.lt_of_le_of_lt (Nat.div_le_self _ _) (Nat.lt_trans hd (by decide))
theorem bit_8 {d i : Nat} (hd : d < 256) (hi : 8 ≤ i) : d.testBit i = false := Nat.testBit_lt_two_pow (Nat.lt_of_lt_of_le hd (show 256 ≤ 2 ^ i from Nat.pow_le_pow_right (n := 2) (i := 8) (by decide) hi))
theorem plc_bit {d : Nat} (hd : d < 256) {X : Int} (hX : -15 ≤ X ∧ X ≤ 63) {x : Nat} (hx : x < 64) : (plc d X).testBit (63 - x) = (decide (0 ≤ (x : Int) - X ∧ (x : Int) - X ≤ 7) && d.testBit (7 - ((x : Int) - X).toNat)) := by
  unfold plc
  by_cases z1 : X ≤ -8
  · rw [if_pos z1, decide_eq_false (by omega)]
    simp
  · rw [if_neg z1]
    by_cases z2 : X ≤ 56
    · rw [if_pos z2, Nat.testBit_mod_two_pow, decide_eq_true (show 63 - x < 64 by omega), Bool.true_and, Nat.testBit_mul_two_pow]
      by_cases z3 : (x : Int) - X ≤ 7
      · rw [decide_eq_true (show (56 - X).toNat ≤ 63 - x by omega), Bool.true_and]
        by_cases z4 : 0 ≤ (x : Int) - X
        · rw [decide_eq_true ⟨z4, z3⟩, Bool.true_and]
          congr 1
          omega
        · rw [decide_eq_false (fun y => z4 y.1), Bool.false_and]
          exact bit_8 hd (by omega)
      · rw [decide_eq_false (by omega), decide_eq_false (fun y => z3 y.2)]
        rfl
    · rw [if_neg z2, Nat.testBit_div_two_pow]
      by_cases z4 : 0 ≤ (x : Int) - X
      · rw [decide_eq_true ⟨z4, by omega⟩, Bool.true_and]
        congr 1
        omega
      · rw [decide_eq_false (fun y => z4 y.1), Bool.false_and]
        exact bit_8 hd (by omega)
theorem c_Scene_placed {x1 x2 : Int32} {h : St} {Q : Option Value → St → Prop} (d : Nat) (hd : d < 256) (X : Int) (hX : -15 ≤ X ∧ X ≤ 63) (hQ : Q (some (.long (l6 (plc d X)))) h) (h1 : x1 = iI (d : Nat)) (h2 : x2 = iI X) : SC y_Scene_placed [.int x1, .int x2] h Q := by
  refine w_call IS_ok [] ok_Scene_placed rfl rfl ?_
  have e : 56 - x2 = iI (56 - X) := by rw [h2]; exact iI_sub 56 X
  unfold plc at hQ
  refine w_lt (56 - X) 64 (fun g => ?_) (fun g => ?_) e rfl
  · rw [if_neg (by omega)] at hQ
    refine w_lt (56 - X) 0 (fun g2 => ?_) (fun g2 => ?_) e rfl
    · rw [if_neg (by omega)] at hQ
      have e3 : x1 >>> (-(56 - x2) &&& 31) = iI (d / 2 ^ (X - 56).toNat : Nat) := by
        rw [e, h1, show (-iI (56 - X)) = nI (X - 56).toNat from (iI_neg (56 - X)).trans (congrArg iI (show -(56 - X) = (((X - 56).toNat : Nat) : Int) by omega))]
        exact pk_shrN (n := d) (by omega) _ _ (s_l _ (by omega))
      have hlt : d / 2 ^ (X - 56).toNat < 256 := Nat.lt_of_le_of_lt (Nat.div_le_self _ _) hd
      rw [← l6_i _ hlt, ← e3] at hQ
      exact hQ
    · rw [if_pos (by omega), ← l6_mod] at hQ
      have e4 : 56 - x2 = iI ((56 - X).toNat : Nat) := e.trans (congrArg iI (by omega))
      have e3 : x1.toInt64 <<< ((56 - x2).toInt64 &&& 63) = l6 (d * 2 ^ (56 - X).toNat) := by
        rw [e4, h1, l6_i d hd]
        exact l6_shl d (by omega)
      rw [← e3] at hQ
      exact hQ
  · rw [if_pos (by omega)] at hQ
    exact hQ
set_option maxHeartbeats 1000000 in
theorem c_Scene_dotsOn {S : Nat → Int} {x1 x2 : Int32} {h : St} {Q : Option Value → St → Prop} (hC : CS 1 S h) (hW : WF S) (p l : Nat) (hp : p < 20) (hp0 : (p : Int) < S 0) (hl : l < 48) (hQ : ∀ D, D < 2 ^ 64 → (∀ x : Nat, x < 64 → (D.testBit (63 - x) = true ↔ setp S p x l)) → Q (some (.long (l6 D))) h) (h1 : x1 = iI p) (h2 : x2 = iI l) : SC y_Scene_dotsOn [.ref 1, .int x1, .int x2] h Q := by
  obtain ⟨wx, wy, wt, wg, wc, wf, -⟩ := hW.wp p hp
  have hh := hgh_b S p
  have hhN := hghN_i S p
  refine w_call IS_ok [64] ok_Scene_dotsOn rfl rfl ?_
  refine c_Cells_get2 CA_4 p 6 (by omega) ?_ h1 rfl
  refine c_Cells_get2 CA_4 p 1 (by omega) ?_ h1 rfl
  have eh : h.2 5 (p * 10 + 6) = iI (hgh S p) := hC.2.2.2.2.1 p hp hp0
  have ey : h.2 5 (p * 10 + 1) = iI (S (26 + 9 * p + 1)) := hC.2.2.2.1 p hp 1 (by omega)
  have er : x2 - h.2 5 (p * 10 + 1) = iI ((l : Int) - S (26 + 9 * p + 1)) := by rw [h2, ey]; exact iI_sub _ _
  refine c_P_within ((l : Int) - S (26 + 9 * p + 1)) 0 (hgh S p - 1) ?_ er rfl (by rw [eh]; exact iI_sub _ 1)
  refine w_b (fun g => ?_) (fun g => ?_)
  · refine hQ 0 (by decide) (fun x hx => ?_)
    rw [Nat.zero_testBit]
    exact ⟨fun z => (by cases z), fun z => absurd z.2.1 g⟩
  refine c_Cells_get2 CA_4 p 5 (by omega) ?_ h1 rfl
  have ef : h.2 5 (p * 10 + 5) = iI (S (26 + 9 * p + 5)) := hC.2.2.2.1 p hp 5 (by omega)
  generalize hdy : ((l : Int) - S (26 + 9 * p + 1)).toNat = dy at *
  have hdy2 : (l : Int) - S (26 + 9 * p + 1) = dy := by omega
  have hpr := pxR_b S p dy (by omega)
  have at64 : ∀ z4 : Int32, z4 = iI (pxR S p dy : Nat) → SR y_Scene_dotsOn 64 [some (.ref 1), some (.int x1), some (.int x2), some (.int (h.2 5 (p * 10 + 6))), some (.int z4), some (.int (h.2 5 (p * 10 + 5))), none, none] [] h Q := by
    intro z4 e4
    refine w_loop IS_ok [114] ok_Scene_dotsOn ?_
    refine c_Cells_get2 CA_4 p 3 (by omega) ?_ h1 rfl
    have eg : h.2 5 (p * 10 + 3) = iI ((S (26 + 9 * p + 3)).toNat : Nat) := (hC.2.2.2.1 p hp 3 (by omega)).trans (congrArg iI (by omega))
    refine ⟨by decide, ?_⟩
    refine ⟨by decide, ?_⟩
    refine ⟨by decide, ?_⟩
    have e8 := div8 e4 (by omega)
    have esum : h.2 5 (p * 10 + 3) + z4 / 8 = iI (((S (26 + 9 * p + 3)).toNat + pxR S p dy / 8 : Nat) : Int) := by rw [e8, eg]; exact iI_add _ _
    have epi := rem8 esum (by omega)
    have erm := rem8 e4 (by omega)
    generalize hpi : ((S (26 + 9 * p + 3)).toNat + pxR S p dy / 8) % 8 = pi at *
    have hpi8 : pi < 8 := by rw [← hpi]; exact Nat.mod_lt _ (by decide)
    refine c_Cells_get2 CA_2 pi (pxR S p dy % 8) (by omega) ?_ epi erm
    have hpic := hW.pic (i := pi * 8 + pxR S p dy % 8) (by omega)
    have hpd : (pxD S p dy : Int) = S (206 + (pi * 8 + pxR S p dy % 8)) := by
      unfold pxD
      rw [hpi, show 206 + 8 * pi + pxR S p dy % 8 = 206 + (pi * 8 + pxR S p dy % 8) by omega]
      omega
    have ed : h.2 3 (pi * 8 + pxR S p dy % 8) = iI (pxD S p dy : Nat) := by rw [hpd]; exact hC.2.1 _ (by omega)
    have hd : pxD S p dy < 256 := by omega
    have at114 : ∀ (z7 : Int32) (L6 : Option Value) (d : Nat), d < 256 → (∀ j, j < 8 → d.testBit j = (pxD S p dy).testBit (if S (26 + 9 * p + 5) % 2 = 1 then 7 - j else j)) → z7 = iI (d : Nat) → SR y_Scene_dotsOn 114 [some (.ref 1), some (.int x1), some (.int x2), some (.int (h.2 5 (p * 10 + 6))), some (.int z4), some (.int (h.2 5 (p * 10 + 5))), L6, some (.int z7)] [] h Q := by
      intro z7 L6 d hd8 hb e7
      refine w_loop IS_ok [] ok_Scene_dotsOn ?_
      refine c_Cells_get2 CA_4 p 0 (by omega) ?_ h1 rfl
      refine c_Scene_placed d hd8 (S (26 + 9 * p)) wx (hQ _ (plc_lt hd8 _) (fun x hx => ?_)) e7 (hC.2.2.2.1 p hp 0 (by omega))
      rw [plc_bit hd8 wx hx]
      unfold setp pix
      rw [hdy, hdy2]
      by_cases z : 0 ≤ (x : Int) - S (26 + 9 * p) ∧ (x : Int) - S (26 + 9 * p) ≤ 7
      · rw [decide_eq_true z, Bool.true_and, hb _ (by omega)]
        unfold pxC
        by_cases z2 : S (26 + 9 * p + 5) % 2 = 1
        · rw [if_pos z2, if_pos z2]
          exact ⟨fun y => ⟨z, by omega, y⟩, fun y => y.2.2⟩
        · rw [if_neg z2, if_neg z2]
          exact ⟨fun y => ⟨z, by omega, y⟩, fun y => y.2.2⟩
      · rw [decide_eq_false z, Bool.false_and]
        exact ⟨fun y => (by cases y), fun y => absurd y.1 z⟩
    have e1 : h.2 5 (p * 10 + 5) &&& 1 = iI (S (26 + 9 * p + 5) % 2) := by rw [ef]; exact and_f1 wf
    refine w_eq (S (26 + 9 * p + 5) % 2) 0 (fun g2 => ?_) (fun g2 => ?_) e1 rfl
    · refine at114 _ _ (pxD S p dy) hd (fun j hj => by rw [if_neg (by omega)]) ed
    · refine c_Scene_mirrored (pxD S p dy) hd ?_ ed
      exact at114 _ _ (rvn (pxD S p dy) 8) (rvn_b _ hd 8 (by decide)) (fun j hj => by rw [rvn_t _ hd j hj, if_pos (by omega)]) rfl
  have e2 : h.2 5 (p * 10 + 5) &&& 2 = iI (2 * (S (26 + 9 * p + 5) / 2)) := by rw [ef]; exact and_f2 wf
  refine w_eq (2 * (S (26 + 9 * p + 5) / 2)) 0 (fun g2 => ?_) (fun g2 => ?_) e2 rfl
  · refine at64 _ ?_
    rw [er, hdy2]
    unfold pxR
    rw [if_neg (by omega)]
  · refine at64 _ ?_
    unfold pxR
    rw [if_pos (by omega), er, eh, hdy2]
    exact (congrArg (· - iI (dy : Int)) (iI_sub _ 1)).trans ((iI_sub _ _).trans (congrArg iI (by omega)))
end
section
/-! the class: what is shown on a line -/
theorem lg0 (n : Nat) : lg_cmp (l6 n) (Int64.ofNat 0) = 0 ↔ n % 2 ^ 64 = 0 := by
  have e : l6 n = Int64.ofNat 0 ↔ n % 2 ^ 64 = 0 := by
    constructor
    · intro h
      have h2 := congrArg (fun x : Int64 => x.toBitVec.toNat) h
      have h3 : (BitVec.ofNat 64 n).toNat = (BitVec.ofNat 64 0).toNat := h2
      rw [BitVec.toNat_ofNat, BitVec.toNat_ofNat] at h3
      exact h3
    · intro h
      rw [l6_mod, h]
      rfl
  rw [← e]
  unfold lg_cmp
  constructor
  · intro h
    split at h
    · exact absurd h (by decide)
    · split at h
      · assumption
      · exact absurd h (by decide)
  · intro h
    rw [if_neg (show ¬ Int64.ofNat 0 < l6 n by rw [h]; exact fun z => Int64.lt_irrefl z), if_pos h]
theorem and_pw (D k : Nat) : D &&& 2 ^ k = 0 ↔ D.testBit k = false := by
  constructor
  · intro h
    have := congrArg (fun n : Nat => n.testBit k) h
    simpa [Nat.testBit_and, Nat.testBit_two_pow] using this
  · intro h
    refine Nat.eq_of_testBit_eq fun i => ?_
    rw [Nat.testBit_and, Nat.testBit_two_pow, Nat.zero_testBit]
    by_cases z : k = i
    · subst z; rw [h]; rfl
    · rw [decide_eq_false z, Bool.and_false]
theorem lbit {D k : Nat} (hk : k < 64) : lg_cmp (l6 D &&& l6 (2 ^ k)) (Int64.ofNat 0) = 0 ↔ D.testBit k = false := by
  have hlt : D &&& 2 ^ k < 2 ^ 64 := Nat.lt_of_le_of_lt Nat.and_le_right (Nat.pow_lt_pow_right (by decide) hk)
  rw [l6_and, lg0, Nat.mod_eq_of_lt hlt]
  exact and_pw D k
theorem c_Sight_bitOf {x : Int32} {h : St} {Q : Option Value → St → Prop} (a : Nat) (ha : a < 64) (hQ : Q (some (.long (l6 (2 ^ (63 - a))))) h) (hx : x = iI (a : Nat)) : SC y_Sight_bitOf [.int x] h Q := by
  refine w_call IS_ok [] ok_Sight_bitOf rfl rfl ?_
  have e : 63 - x = iI ((63 - a : Nat) : Int) := by rw [hx]; exact (iI_sub 63 a).trans (congrArg iI (by omega))
  have e2 : Int64.ofNat 1 <<< ((63 - x).toInt64 &&& 63) = l6 (2 ^ (63 - a)) := by
    rw [e]
    exact (l6_shl 1 (by omega)).trans (congrArg l6 (Nat.one_mul _))
  rw [← e2] at hQ
  exact hQ
/-- the puppets that are shown on the line y, z of them -/
def Shn (S : Nat → Int) (y z : Nat) (kk : Nat → Nat) (h : St) : Prop := h.1 20 1 = iI (z : Nat) ∧ z ≤ 8 ∧ (∀ i, i < z → kk i < (S 1).toNat ∧ vis S y (kk i) ∧ cn S (od S) y (kk i) = i ∧ h.2 22 i = iI (od S (kk i) : Nat)) ∧ (∀ k, k < (S 1).toNat → vis S y k → cn S (od S) y k < z) ∧ (z : Int) = if (cn S (od S) y (S 1).toNat : Int) < S 2 then (cn S (od S) y (S 1).toNat : Int) else S 2
theorem Shn.of {S : Nat → Int} {y z : Nat} {kk : Nat → Nat} {h : St} (s : Shn S y z kk h) {k : Nat} (hk : k < (S 1).toNat) (hv : vis S y k) : cn S (od S) y k < z ∧ kk (cn S (od S) y k) = k := by
  have h1 := s.2.2.2.1 k hk hv
  have h2 := s.2.2.1 _ h1
  exact ⟨h1, cn_inj h2.2.1.1 hv.1 h2.2.2.1⟩
set_option maxHeartbeats 1000000 in
theorem c_Sight_look {S : Nat → Int} {x : Int32} {h : St} {Q : Option Value → St → Prop} (hC : CS 1 S h) (hW : WF S) (y : Nat) (hy : y < 48) (hQ : ∀ h' z kk, Sm [(20, 1)] [22] h h' → Shn S y z kk h' → Q none h') (hx : x = iI (y : Nat)) : SC y_Sight_look [.ref 20, .ref 1, .int x] h Q := by
  refine w_call IS_ok [7] ok_Sight_look rfl rfl ?_
  have hn := hW.n
  have hlim := hW.lim
  have fin : ∀ (hc : St) (k c : Nat) (kk : Nat → Nat), k ≤ (S 1).toNat → Sm [(20, 1)] [22] h hc → hc.1 20 1 = iI (c : Nat) → c = cn S (od S) y k → (c : Int) ≤ S 2 → (k = (S 1).toNat ∨ (c : Int) = S 2) → (∀ i, i < c → kk i < k ∧ vis S y (kk i) ∧ cn S (od S) y (kk i) = i ∧ hc.2 22 i = iI (od S (kk i) : Nat)) → Q none hc := by
    intro hc k c kk hk hs h1 h2 h3 h4 h5
    have hmo := cn_mono (S := S) (o := od S) (y := y) hk
    refine hQ hc c kk hs ⟨h1, by omega, fun i hi => ⟨by have := (h5 i hi).1; omega, (h5 i hi).2⟩, fun j hj hv => ?_, ?_⟩
    · rcases h4 with rfl | h4
      · rw [h2]; exact cn_lt hj hv.1
      · have := hv.2; omega
    · rcases h4 with rfl | h4
      · rw [h2]
        split <;> omega
      · rw [if_neg (by omega)]
        exact h4
  have loop : ∀ (m k c : Nat) (kk : Nat → Nat) (hc : St) (z : Int32) (L4 : Option Value), (S 1).toNat ≤ k + m → k ≤ (S 1).toNat → Sm [(20, 1)] [22] h hc → hc.1 20 1 = iI (c : Nat) → c = cn S (od S) y k → (c : Int) ≤ S 2 → (∀ i, i < c → kk i < k ∧ vis S y (kk i) ∧ cn S (od S) y (kk i) = i ∧ hc.2 22 i = iI (od S (kk i) : Nat)) → z = iI k → SR y_Sight_look 7 [some (.ref 20), some (.ref 1), some (.int x), some (.int z), L4] [] hc Q := by
    intro m
    induction m with
    | zero =>
      intro k c kk hc z L4 hm hk hs h1 h2 h3 h5 hz
      refine w_loop IS_ok [7] ok_Sight_look ?_
      exact w_le (S 1) k (fun _ => fin hc k c kk hk hs h1 h2 h3 (Or.inl (by omega)) h5) (fun _ => by omega) ((hs.1 _ _ (by decide)).trans hC.1.1) hz
    | succ m ih =>
      intro k c kk hc z L4 hm hk hs h1 h2 h3 h5 hz
      have hCc : CS 1 S hc := hC.sm hs (by decide) (by decide)
      refine w_loop IS_ok [7] ok_Sight_look ?_
      refine w_le (S 1) k (fun g => fin hc k c kk hk hs h1 h2 h3 (Or.inl (by omega)) h5) (fun g => ?_) hCc.1.1 hz
      refine w_le (S 2) c (fun g2 => fin hc k c kk hk hs h1 h2 h3 (Or.inr (by omega)) h5) (fun g2 => ?_) hCc.1.2.2.1 h1
      have hkn : k < (S 1).toNat := by omega
      have o := hW.od hkn
      refine c_Cells_get1 CA_6 k (by omega) ?_ hz
      have eo : hc.2 7 k = iI (od S k : Nat) := od_row hCc hW hkn
      refine c_Scene_standsOn hCc (od S k) y o.2.1 (by omega) (hW.wp _ o.2.1).2.1 hy ?_ eo hx
      refine w_b (fun g3 => ?_) (fun g3 => ?_)
      · exact ih (k + 1) c kk hc _ _ (by omega) (by omega) hs h1 (by rw [cn_f g3]; exact h2) h3 (fun i hi => ⟨by have := (h5 i hi).1; omega, (h5 i hi).2⟩) (iI_1 hz)
      · refine c_Cells_set2 CA_21 c (by omega) ?_ h1
        refine ih (k + 1) (c + 1) (u1 kk c k) (pg (wa hc 22 c (hc.2 7 k)) 20 1 (hc.1 20 1 + 1)) _ _ (by omega) (by omega) ((hs.t (Sm.wa _ _ (by decide))).t (Sm.pg _ (by decide))) (by rw [pg_s]; exact iI_1 h1) (by rw [cn_t g3, h2]) (by omega) (fun i hi => ?_) (iI_1 hz)
        by_cases z1 : i = c
        · subst z1
          rw [u1_s]
          exact ⟨by omega, ⟨g3, by omega⟩, h2.symm, (wa_s hc 22 i (hc.2 7 k)).trans eo⟩
        · rw [u1_n _ _ z1]
          have := h5 i (by omega)
          exact ⟨by omega, this.2.1, this.2.2.1, (wa_n hc 22 c (hc.2 7 k) z1).trans this.2.2.2⟩
  exact loop (S 1).toNat 0 0 (fun _ => 0) (pg h 20 1 0) _ _ (by omega) (by omega) (Sm.pg _ (by decide)) (by rw [pg_s]; rfl) rfl (by omega) (fun i hi => by omega) rfl
theorem c_Sight_colorAt {S : Nat → Int} {x1 x2 : Int32} {h : St} {Q : Option Value → St → Prop} (hC : CS 1 S h) (hW : WF S) (x y : Nat) (hx : x < 64) (hy : y < 48) (hQ : ∀ h' c, Sm [(20, 1)] [22] h h' → ColR S x y c → Q (some (.int (iI c))) h') (h1 : x1 = iI (x : Nat)) (h2 : x2 = iI (y : Nat)) : SC y_Sight_colorAt [.ref 20, .ref 1, .int x1, .int x2] h Q := by
  refine w_call IS_ok [9] ok_Sight_colorAt rfl rfl ?_
  refine c_Sight_look hC hW y hy (fun hc z kk hs hsh => ?_) h2
  have hCc : CS 1 S hc := hC.sm hs (by decide) (by decide)
  obtain ⟨s1, s2, s3, -⟩ := id hsh
  have fin : (∀ i, i < z → ¬ setp S (od S (kk i)) x y) → Q (some (.int 0)) hc := by
    intro hno
    refine hQ hc 0 hs ⟨-109, Or.inr ⟨rfl, fun j hj hv _ hse => ?_⟩, rfl⟩
    have := hsh.of hj hv
    exact hno _ this.1 (by rw [this.2]; exact hse)
  have loop : ∀ (m i : Nat) (z4 : Int32) (L5 : Option Value), z ≤ i + m → i ≤ z → (∀ i', i' < i → ¬ setp S (od S (kk i')) x y) → z4 = iI i → SR y_Sight_colorAt 9 [some (.ref 20), some (.ref 1), some (.int x1), some (.int x2), some (.int z4), L5] [] hc Q := by
    intro m
    induction m with
    | zero =>
      intro i z4 L5 hm hi hno e4
      refine w_loop IS_ok [9] ok_Sight_colorAt ?_
      exact w_le z i (fun _ => fin (fun i' hi' => hno i' (by omega))) (fun _ => by omega) s1 e4
    | succ m ih =>
      intro i z4 L5 hm hi hno e4
      refine w_loop IS_ok [9] ok_Sight_colorAt ?_
      refine w_le z i (fun _ => fin (fun i' hi' => hno i' (by omega))) (fun g => ?_) s1 e4
      obtain ⟨k1, k2, k3, k4⟩ := s3 i (by omega)
      have o := hW.od k1
      refine c_Cells_get1 CA_21 i (by omega) ?_ e4
      refine c_Scene_dotsOn hCc hW (od S (kk i)) y o.2.1 (by omega) hy (fun D hD hb => ?_) k4 h2
      refine c_Sight_bitOf x hx ?_ h1
      have hb := hb x hx
      refine w_if (fun g2 => ?_) (fun g2 => ?_)
      · have g3 := (lbit (by omega)).mp g2
        refine ih (i + 1) _ _ (by omega) (by omega) (fun i' hi' => ?_) (iI_1 e4)
        by_cases z1 : i' = i
        · subst z1; exact fun z2 => by rw [hb.mpr z2] at g3; cases g3
        · exact hno i' (by omega)
      · have g3 : D.testBit (63 - x) = true := by
          cases hq : D.testBit (63 - x) with
          | true => rfl
          | false => exact absurd ((lbit (by omega)).mpr hq) g2
        refine c_Cells_get2 CA_4 (od S (kk i)) 4 (by omega) ?_ k4 rfl
        have := hQ hc (S (26 + 9 * od S (kk i) + 4)) hs ⟨S (6 + kk i), Or.inl ⟨kk i, k1, k2, by rw [o.1]; omega, hb.mp g3, fun j hj hv _ hse => ?_, rfl⟩, ?_⟩
        · rw [← hCc.2.2.2.1 (od S (kk i)) o.2.1 4 (by omega)] at this
          exact this
        · have hj2 : j < (S 1).toNat := by omega
          have hof := hsh.of hj2 hv
          have := cn_lt (S := S) (o := od S) (y := y) hj hv.1
          exact hno (cn S (od S) y j) (by omega) (by rw [hof.2]; exact hse)
        · rw [if_neg (by rw [o.1]; omega)]
  exact loop z 0 _ _ (by omega) (by omega) (fun i' hi' => by omega) rfl
end
section
/-! the class: the dots of a line, clashes -/
theorem sm_rev (f : Nat → Nat) : ∀ n, sm f n = sm (fun i => f (n - 1 - i)) n
  | 0 => rfl
  | n + 1 => by
    have e1 : sm (fun i => f (n + 1 - 1 - i)) (1 + n) = sm (fun i => f (n + 1 - 1 - i)) 1 + sm (fun i => f (n + 1 - 1 - (1 + i))) n := sm_cat _ 1 n
    rw [Nat.add_comm 1 n] at e1
    rw [e1]
    show sm f n + f n = (0 + f (n + 1 - 1 - 0)) + _
    rw [sm_rev f n, show n + 1 - 1 - 0 = n by omega, Nat.zero_add, Nat.add_comm]
    congr 1
    exact sm_congr (fun i hi => by rw [show n + 1 - 1 - (1 + i) = n - 1 - i by omega])
theorem bts_cI {D : Nat} {P : Nat → Prop} (h : ∀ x : Nat, x < 64 → (D.testBit (63 - x) = true ↔ P x)) : bts D = sm (fun x => cI (P x)) 64 := by
  unfold bts
  rw [sm_rev]
  refine sm_congr (fun x hx => ?_)
  show (if D.testBit (64 - 1 - x) then 1 else 0) = _
  rw [show 64 - 1 - x = 63 - x by omega]
  by_cases z : P x
  · rw [cI_t z, if_pos ((h x hx).mpr z)]
  · rw [cI_f z, if_neg (fun w => z ((h x hx).mp w))]
theorem bts_le (D : Nat) : bts D ≤ 64 := sm_le (b := 1) (fun i _ => by split <;> omega)
set_option maxHeartbeats 1000000 in
theorem c_Sight_dotsOnLine {S : Nat → Int} {x2 : Int32} {h : St} {Q : Option Value → St → Prop} (hC : CS 1 S h) (hW : WF S) (y : Nat) (hy : y < 48) (hQ : ∀ h', Sm [(20, 1)] [22] h h' → Q (some (.int (iI (dts S y 64 : Nat)))) h') (h2 : x2 = iI (y : Nat)) : SC y_Sight_dotsOnLine [.ref 20, .ref 1, .int x2] h Q := by
  refine w_call IS_ok [11] ok_Sight_dotsOnLine rfl rfl ?_
  refine c_Sight_look hC hW y hy (fun hc z kk hs hsh => ?_) h2
  have hCc : CS 1 S hc := hC.sm hs (by decide) (by decide)
  obtain ⟨s1, s2, s3, -⟩ := id hsh
  have loop : ∀ (m i D : Nat) (z5 : Int32) (v : Int64), z ≤ i + m → i ≤ z → D < 2 ^ 64 → (∀ x : Nat, x < 64 → (D.testBit (63 - x) = true ↔ ∃ i', i' < i ∧ setp S (od S (kk i')) x y)) → v = l6 D → z5 = iI i → SR y_Sight_dotsOnLine 11 [some (.ref 20), some (.ref 1), some (.int x2), some (.long v), none, some (.int z5)] [] hc Q := by
    intro m
    have fin : ∀ (i D : Nat) (v : Int64), z ≤ i → i ≤ z → D < 2 ^ 64 → (∀ x : Nat, x < 64 → (D.testBit (63 - x) = true ↔ ∃ i', i' < i ∧ setp S (od S (kk i')) x y)) → v = l6 D → ∀ z5, SR y_Sight_dotsOnLine 43 [some (.ref 20), some (.ref 1), some (.int x2), some (.long v), none, some (.int z5)] [] hc Q := by
      intro i D v h1 h2 hD hb hv z5
      have : i = z := by omega
      subst this
      refine w_loop IS_ok [] ok_Sight_dotsOnLine ?_
      refine c_J_bitCount D hD ?_ hv
      have := hQ hc hs
      unfold dts at this
      rw [← bts_cI (D := D) (P := fun x : Nat => lit S x y) (fun x hx => (hb x hx).trans ⟨fun ⟨i', a, b⟩ => ⟨kk i', (s3 i' a).1, (s3 i' a).2.1, b⟩, fun ⟨k, a, b, c⟩ => ⟨_, (hsh.of a b).1, by rw [(hsh.of a b).2]; exact c⟩⟩)] at this
      exact this
    induction m with
    | zero =>
      intro i D z5 v hm hi hD hb hv e5
      refine w_loop IS_ok [43] ok_Sight_dotsOnLine ?_
      exact w_le z i (fun _ => fin i D v (by omega) hi hD hb hv _) (fun _ => by omega) s1 e5
    | succ m ih =>
      intro i D z5 v hm hi hD hb hv e5
      refine w_loop IS_ok [11, 43] ok_Sight_dotsOnLine ?_
      refine w_le z i (fun _ => fin i D v (by omega) hi hD hb hv _) (fun g => ?_) s1 e5
      obtain ⟨k1, k2, k3, k4⟩ := s3 i (by omega)
      have o := hW.od k1
      refine c_Cells_get1 CA_21 i (by omega) ?_ e5
      refine c_Scene_dotsOn hCc hW (od S (kk i)) y o.2.1 (by omega) hy (fun D2 hD2 hb2 => ?_) k4 h2
      refine ih (i + 1) (D ||| D2) _ _ (by omega) (by omega) (Nat.or_lt_two_pow hD hD2) (fun x hx => ?_) (by rw [hv]; exact l6_or D D2) (iI_1 e5)
      rw [Nat.testBit_or, Bool.or_eq_true, hb x hx, hb2 x hx]
      constructor
      · rintro (⟨i', a, b⟩ | b)
        · exact ⟨i', by omega, b⟩
        · exact ⟨i, by omega, b⟩
      · rintro ⟨i', a, b⟩
        by_cases z1 : i' = i
        · subst z1; exact Or.inr b
        · exact Or.inl ⟨i', by omega, b⟩
  exact loop z 0 0 _ _ (by omega) (by omega) (by decide) (fun x hx => by rw [Nat.zero_testBit]; exact ⟨fun z => (by cases z), fun ⟨i', a, _⟩ => by omega⟩) rfl rfl
set_option maxHeartbeats 2000000 in
theorem c_Sight_clashesOn {S : Nat → Int} {x2 x3 : Int32} {h : St} {Q : Option Value → St → Prop} (hC : CS 1 S h) (hW : WF S) (hr : Int) (rr : rg hr) (y : Nat) (hy : y < 48) (hQ : ∀ h' D z kk, Sm [(20, 1)] [22] h h' → Shn S y z kk h' → D < 2 ^ 64 → (∀ x : Nat, x < 64 → (D.testBit (63 - x) = true ↔ clq S hr x y)) → Q (some (.long (l6 D))) h') (h2 : x2 = iI hr) (h3 : x3 = iI (y : Nat)) : SC y_Sight_clashesOn [.ref 20, .ref 1, .int x2, .int x3] h Q := by
  refine w_call IS_ok [15] ok_Sight_clashesOn rfl rfl ?_
  refine c_Sight_look hC hW y hy (fun hc z kk hs hsh => ?_) h3
  have hCc : CS 1 S hc := hC.sm hs (by decide) (by decide)
  obtain ⟨s1, s2, s3, -⟩ := id hsh
  have fin : ∀ (i A B : Nat) (va vb : Int64) (z8 : Int32) (L9 : Option Value), z ≤ i → i ≤ z → A < 2 ^ 64 → B < 2 ^ 64 → (∀ x : Nat, x < 64 → (A.testBit (63 - x) = true ↔ ∃ i', i' < i ∧ (od S (kk i') : Int) = hr ∧ setp S (od S (kk i')) x y)) → (∀ x : Nat, x < 64 → (B.testBit (63 - x) = true ↔ ∃ i', i' < i ∧ (od S (kk i') : Int) ≠ hr ∧ setp S (od S (kk i')) x y)) → va = l6 A → vb = l6 B → SR y_Sight_clashesOn 71 [some (.ref 20), some (.ref 1), some (.int x2), some (.int x3), some (.long va), none, some (.long vb), none, some (.int z8), L9] [] hc Q := by
    intro i A B va vb z8 L9 h1 h2 hA hB hbA hbB ea eb
    have : i = z := by omega
    subst this
    refine w_loop IS_ok [] ok_Sight_clashesOn ?_
    have := hQ hc (A &&& B) i kk hs hsh (Nat.lt_of_le_of_lt Nat.and_le_left hA) (fun x hx => ?_)
    · rw [← l6_and, ← ea, ← eb] at this
      exact this
    · rw [Nat.testBit_and, Bool.and_eq_true, hbA x hx, hbB x hx]
      constructor
      · rintro ⟨⟨i1, a1, a2, a3⟩, ⟨i2, b1, b2, b3⟩⟩
        have o1 := hW.od (s3 i1 a1).1
        have o2 := hW.od (s3 i2 b1).1
        refine ⟨by omega, by rw [← a2, Int.toNat_natCast]; exact a3, ⟨kk i1, (s3 i1 a1).1, (s3 i1 a1).2.1, by rw [o1.1]; exact a2⟩, ⟨kk i2, (s3 i2 b1).1, (s3 i2 b1).2.1, by rw [o2.1]; exact b2, b3⟩⟩
      · rintro ⟨c1, c2, ⟨k, d1, d2, d3⟩, ⟨k2, e1, e2, e3, e4⟩⟩
        have o1 := hW.od d1
        have o2 := hW.od e1
        have f1 := hsh.of d1 d2
        have f2 := hsh.of e1 e2
        refine ⟨⟨_, f1.1, by rw [f1.2, ← o1.1]; exact d3, by rw [f1.2]; rw [show hr.toNat = od S k by omega] at c2; exact c2⟩, ⟨_, f2.1, by rw [f2.2, ← o2.1]; exact e3, by rw [f2.2]; exact e4⟩⟩
  have loop : ∀ (m i A B : Nat) (va vb : Int64) (z8 : Int32) (L9 : Option Value), z ≤ i + m → i ≤ z → A < 2 ^ 64 → B < 2 ^ 64 → (∀ x : Nat, x < 64 → (A.testBit (63 - x) = true ↔ ∃ i', i' < i ∧ (od S (kk i') : Int) = hr ∧ setp S (od S (kk i')) x y)) → (∀ x : Nat, x < 64 → (B.testBit (63 - x) = true ↔ ∃ i', i' < i ∧ (od S (kk i') : Int) ≠ hr ∧ setp S (od S (kk i')) x y)) → va = l6 A → vb = l6 B → z8 = iI i → SR y_Sight_clashesOn 15 [some (.ref 20), some (.ref 1), some (.int x2), some (.int x3), some (.long va), none, some (.long vb), none, some (.int z8), L9] [] hc Q := by
    intro m
    induction m with
    | zero =>
      intro i A B va vb z8 L9 hm hi hA hB hbA hbB ea eb e8
      refine w_loop IS_ok [71] ok_Sight_clashesOn ?_
      exact w_le z i (fun _ => fin i A B va vb _ _ (by omega) hi hA hB hbA hbB ea eb) (fun _ => by omega) s1 e8
    | succ m ih =>
      intro i A B va vb z8 L9 hm hi hA hB hbA hbB ea eb e8
      refine w_loop IS_ok [15, 71] ok_Sight_clashesOn ?_
      refine w_le z i (fun _ => fin i A B va vb _ _ (by omega) hi hA hB hbA hbB ea eb) (fun g => ?_) s1 e8
      obtain ⟨k1, k2, k3, k4⟩ := s3 i (by omega)
      have o := hW.od k1
      refine c_Cells_get1 CA_21 i (by omega) ?_ e8
      refine w_eq (od S (kk i) : Nat) hr (fun g2 => ?_) (fun g2 => ?_) k4 h2
      · refine c_Scene_dotsOn hCc hW (od S (kk i)) y o.2.1 (by omega) hy (fun D2 hD2 hb2 => ?_) k4 h3
        refine ih (i + 1) D2 B _ _ _ _ (by omega) (by omega) hD2 hB (fun x hx => ?_) (fun x hx => ?_) rfl eb (iI_1 e8)
        · rw [hb2 x hx]
          constructor
          · intro b
            exact ⟨i, by omega, g2, b⟩
          · rintro ⟨i', a, b, c⟩
            rw [show od S (kk i) = od S (kk i') by omega]
            exact c
        · rw [hbB x hx]
          constructor
          · rintro ⟨i', a, b⟩
            exact ⟨i', by omega, b⟩
          · rintro ⟨i', a, b, c⟩
            by_cases z1 : i' = i
            · subst z1; exact absurd g2 b
            · exact ⟨i', by omega, b, c⟩
      · refine c_Scene_dotsOn hCc hW (od S (kk i)) y o.2.1 (by omega) hy (fun D2 hD2 hb2 => ?_) k4 h3
        refine ih (i + 1) A (B ||| D2) _ _ _ _ (by omega) (by omega) hA (Nat.or_lt_two_pow hB hD2) (fun x hx => ?_) (fun x hx => ?_) ea (by rw [eb]; exact l6_or B D2) (iI_1 e8)
        · rw [hbA x hx]
          constructor
          · rintro ⟨i', a, b⟩
            exact ⟨i', by omega, b⟩
          · rintro ⟨i', a, b, c⟩
            by_cases z1 : i' = i
            · subst z1; exact absurd b g2
            · exact ⟨i', by omega, b, c⟩
        · rw [Nat.testBit_or, Bool.or_eq_true, hbB x hx, hb2 x hx]
          constructor
          · rintro (⟨i', a, b⟩ | b)
            · exact ⟨i', by omega, b⟩
            · exact ⟨i, by omega, g2, b⟩
          · rintro ⟨i', a, b, c⟩
            by_cases z1 : i' = i
            · subst z1; exact Or.inr c
            · exact Or.inl ⟨i', by omega, b, c⟩
  exact loop z 0 0 0 _ _ _ _ (by omega) (by omega) (by decide) (by decide) (fun x hx => by rw [Nat.zero_testBit]; exact ⟨fun z => (by cases z), fun ⟨i', a, _⟩ => by omega⟩) (fun x hx => by rw [Nat.zero_testBit]; exact ⟨fun z => (by cases z), fun ⟨i', a, _⟩ => by omega⟩) rfl rfl rfl
theorem c_Sight_firstColumn {v : Int64} {h : St} {Q : Option Value → St → Prop} (D : Nat) (hQ : ∀ x : Nat, x < 64 → (∀ x' : Nat, x' < x → D.testBit (63 - x') = false) → (x = 63 ∨ D.testBit (63 - x) = true) → Q (some (.int (iI (x : Nat)))) h) (hv : v = l6 D) : SC y_Sight_firstColumn [.long v] h Q := by
  refine w_call IS_ok [2] ok_Sight_firstColumn rfl rfl ?_
  have loop : ∀ (m x : Nat) (z2 : Int32), 63 ≤ x + m → x ≤ 63 → (∀ x' : Nat, x' < x → D.testBit (63 - x') = false) → z2 = iI x → SR y_Sight_firstColumn 2 [some (.long v), none, some (.int z2)] [] h Q := by
    intro m
    induction m with
    | zero =>
      intro x z2 hm hx hno e2
      refine w_loop IS_ok [2] ok_Sight_firstColumn ?_
      refine w_le 63 x (fun g => ?_) (fun _ => by omega) rfl e2
      rw [e2]
      exact hQ x (by omega) hno (Or.inl (by omega))
    | succ m ih =>
      intro x z2 hm hx hno e2
      refine w_loop IS_ok [2] ok_Sight_firstColumn ?_
      refine w_le 63 x (fun g => ?_) (fun g => ?_) rfl e2
      · rw [e2]
        exact hQ x (by omega) hno (Or.inl (by omega))
      refine c_Sight_bitOf x (by omega) ?_ e2
      subst hv
      refine w_if (fun g2 => ?_) (fun g2 => ?_)
      · have g3 := (lbit (by omega)).mp g2
        refine ih (x + 1) _ (by omega) (by omega) (fun x' hx' => ?_) (iI_1 e2)
        by_cases z1 : x' = x
        · subst z1; exact g3
        · exact hno x' (by omega)
      · rw [e2]
        refine hQ x (by omega) hno (Or.inr ?_)
        cases hq : D.testBit (63 - x) with
        | true => rfl
        | false => exact absurd ((lbit (by omega)).mpr hq) g2
  exact loop 63 0 _ (by omega) (by omega) (fun x' hx' => by omega) rfl
end
section
/-! the class: all dots, all clashes, the first one -/
theorem c_Sight_firstOther {S : Nat → Int} {x2 x3 x4 : Int32} {h : St} {Q : Option Value → St → Prop} (hC : CS 1 S h) (hW : WF S) (hr : Int) (rr : rg hr) (x y : Nat) (hx : x < 64) (hy : y < 48) {z : Nat} {kk : Nat → Nat} (hsh : Shn S y z kk h) (hQ : ∀ r, FirR S x y hr r → Q (some (.int (iI r))) h) (h2 : x2 = iI hr) (h3 : x3 = iI (x : Nat)) (h4 : x4 = iI (y : Nat)) : SC y_Sight_firstOther [.ref 20, .ref 1, .int x2, .int x3, .int x4] h Q := by
  refine w_call IS_ok [3] ok_Sight_firstOther rfl rfl ?_
  obtain ⟨s1, s2, s3, -⟩ := id hsh
  have fin : (∀ i, i < z → (od S (kk i) : Int) ≠ hr → ¬ setp S (od S (kk i)) x y) → Q (some (.int (-109))) h := by
    intro hno
    refine hQ (-109) (Or.inr ⟨rfl, fun j hj hv hne hse => ?_⟩)
    have := hsh.of hj hv
    have o := hW.od hj
    exact hno _ this.1 (by rw [this.2, ← o.1]; exact hne) (by rw [this.2]; exact hse)
  have loop : ∀ (m i : Nat) (z5 : Int32) (L6 : Option Value), z ≤ i + m → i ≤ z → (∀ i', i' < i → (od S (kk i') : Int) ≠ hr → ¬ setp S (od S (kk i')) x y) → z5 = iI i → SR y_Sight_firstOther 3 [some (.ref 20), some (.ref 1), some (.int x2), some (.int x3), some (.int x4), some (.int z5), L6] [] h Q := by
    intro m
    induction m with
    | zero =>
      intro i z5 L6 hm hi hno e5
      refine w_loop IS_ok [3] ok_Sight_firstOther ?_
      exact w_le z i (fun _ => fin (fun i' hi' => hno i' (by omega))) (fun _ => by omega) s1 e5
    | succ m ih =>
      intro i z5 L6 hm hi hno e5
      refine w_loop IS_ok [3, 50] ok_Sight_firstOther ?_
      refine w_le z i (fun _ => fin (fun i' hi' => hno i' (by omega))) (fun g => ?_) s1 e5
      obtain ⟨k1, k2, k3, k4⟩ := s3 i (by omega)
      have o := hW.od k1
      refine c_Cells_get1 CA_21 i (by omega) ?_ e5
      have next : ((od S (kk i) : Int) ≠ hr → ¬ setp S (od S (kk i)) x y) → SR y_Sight_firstOther 50 [some (.ref 20), some (.ref 1), some (.int x2), some (.int x3), some (.int x4), some (.int z5), some (.int (h.2 22 i))] [] h Q := by
        intro hh
        refine w_loop IS_ok [3] ok_Sight_firstOther ?_
        refine ih (i + 1) _ _ (by omega) (by omega) (fun i' hi' => ?_) (iI_1 e5)
        by_cases z1 : i' = i
        · subst z1; exact hh
        · exact hno i' (by omega)
      refine w_eq (od S (kk i) : Nat) hr (fun g2 => next (fun z => absurd g2 z)) (fun g2 => ?_) k4 h2
      refine c_Scene_dotsOn hC hW (od S (kk i)) y o.2.1 (by omega) hy (fun D hD hb => ?_) k4 h4
      refine c_Sight_bitOf x hx ?_ h3
      have hb := hb x hx
      refine w_if (fun g3 => ?_) (fun g3 => ?_)
      · have g4 := (lbit (by omega)).mp g3
        exact next (fun _ z2 => by rw [hb.mpr z2] at g4; cases g4)
      · have g4 : D.testBit (63 - x) = true := by
          cases hq : D.testBit (63 - x) with
          | true => rfl
          | false => exact absurd ((lbit (by omega)).mpr hq) g3
        rw [k4, ← o.1]
        refine hQ _ (Or.inl ⟨kk i, k1, k2, by rw [o.1]; exact g2, hb.mp g4, fun j hj hv hne hse => ?_, rfl⟩)
        have hj2 : j < (S 1).toNat := by omega
        have hof := hsh.of hj2 hv
        have o2 := hW.od hj2
        have := cn_lt (S := S) (o := od S) (y := y) hj hv.1
        exact hno (cn S (od S) y j) (by omega) (by rw [hof.2, ← o2.1]; exact hne) (by rw [hof.2]; exact hse)
  exact loop z 0 _ _ (by omega) (by omega) (fun i' hi' => by omega) rfl
theorem adt_le (S : Nat → Int) (n : Nat) : adt S n ≤ n * 64 := sm_le (fun i _ => dts_le S i 64)
theorem c_Sight_allDots {S : Nat → Int} {h : St} {Q : Option Value → St → Prop} (hC : CS 1 S h) (hW : WF S) (hQ : ∀ h', Sm [(20, 1)] [22] h h' → Q (some (.int (iI (adt S 48 : Nat)))) h') : SC y_Sight_allDots [.ref 20, .ref 1] h Q := by
  refine w_call IS_ok [4] ok_Sight_allDots rfl rfl ?_
  have loop : ∀ (m k : Nat) (hc : St) (z2 z3 : Int32), 48 ≤ k + m → k ≤ 48 → Sm [(20, 1)] [22] h hc → z2 = iI (adt S k : Nat) → z3 = iI k → SR y_Sight_allDots 4 [some (.ref 20), some (.ref 1), some (.int z2), some (.int z3)] [] hc Q := by
    intro m
    induction m with
    | zero =>
      intro k hc z2 z3 hm hk hs e2 e3
      have : k = 48 := by omega
      subst this
      refine w_loop IS_ok [4] ok_Sight_allDots ?_
      exact w_le 48 48 (fun _ => by rw [e2]; exact hQ hc hs) (fun _ => by omega) rfl e3
    | succ m ih =>
      intro k hc z2 z3 hm hk hs e2 e3
      refine w_loop IS_ok [4] ok_Sight_allDots ?_
      refine w_le 48 k (fun g => ?_) (fun g => ?_) rfl e3
      · have : k = 48 := by omega
        subst this
        rw [e2]; exact hQ hc hs
      refine c_Sight_dotsOnLine (hC.sm hs (by decide) (by decide)) hW k (by omega) (fun h' hs' => ?_) e3
      refine ih (k + 1) h' _ _ (by omega) (by omega) (hs.t hs') ?_ (iI_1 e3)
      rw [e2]
      exact (iI_add _ _).trans (congrArg iI (by rw [← Int.natCast_add]; rfl))
  exact loop 48 0 h _ _ (by omega) (by omega) Sm.rf rfl rfl
theorem sm_blk (f : Nat → Nat) : ∀ n, sm f (64 * n) = sm (fun y => sm (fun x => f (64 * y + x)) 64) n
  | 0 => rfl
  | n + 1 => by
    rw [show 64 * (n + 1) = 64 * n + 64 by omega, sm_cat, sm_blk f n]
    rfl
theorem HerR_rg {S : Nat → Int} (hW : WF S) {r : Int} (h : HerR S (S 1).toNat r) : rg r := by
  rcases h with ⟨-, h⟩ | ⟨k, hk, h, -⟩
  · omega
  · have := hW.od hk; omega
theorem clN_blk (S : Nat → Int) (hr : Int) (n : Nat) : clN S hr (64 * n) = sm (fun y => sm (fun x : Nat => cI (clq S hr (x : Int) (y : Int))) 64) n := by
  unfold clN
  rw [sm_blk]
  refine sm_congr (fun y _ => sm_congr (fun x hx => ?_))
  rw [show (64 * y + x) % 64 = x by omega, show (64 * y + x) / 64 = y by omega]
theorem c_Sight_allClashes {S : Nat → Int} {h : St} {Q : Option Value → St → Prop} (hC : CS 1 S h) (hW : WF S) (hQ : ∀ h' hr, Sm [(20, 1)] [22] h h' → HerR S (S 1).toNat hr → Q (some (.int (iI (clN S hr 3072 : Nat)))) h') : SC y_Sight_allClashes [.ref 20, .ref 1] h Q := by
  refine w_call IS_ok [10] ok_Sight_allClashes rfl rfl ?_
  refine c_Scene_hero hC hW (fun hr hH => ?_)
  have hrr := HerR_rg hW hH
  have loop : ∀ (m k : Nat) (hc : St) (z3 z4 : Int32), 48 ≤ k + m → k ≤ 48 → Sm [(20, 1)] [22] h hc → z3 = iI (clN S hr (64 * k) : Nat) → z4 = iI k → SR y_Sight_allClashes 10 [some (.ref 20), some (.ref 1), some (.int (iI hr)), some (.int z3), some (.int z4)] [] hc Q := by
    intro m
    induction m with
    | zero =>
      intro k hc z3 z4 hm hk hs e3 e4
      have : k = 48 := by omega
      subst this
      refine w_loop IS_ok [10] ok_Sight_allClashes ?_
      exact w_le 48 48 (fun _ => by rw [e3]; exact hQ hc hr hs hH) (fun _ => by omega) rfl e4
    | succ m ih =>
      intro k hc z3 z4 hm hk hs e3 e4
      refine w_loop IS_ok [10] ok_Sight_allClashes ?_
      refine w_le 48 k (fun g => ?_) (fun g => ?_) rfl e4
      · have : k = 48 := by omega
        subst this
        rw [e3]; exact hQ hc hr hs hH
      refine c_Sight_clashesOn (hC.sm hs (by decide) (by decide)) hW hr hrr k (by omega) (fun h' D z kk hs' _ hD hb => ?_) rfl e4
      refine c_J_bitCount D hD ?_ rfl
      refine ih (k + 1) h' _ _ (by omega) (by omega) (hs.t hs') ?_ (iI_1 e4)
      rw [e3, bts_cI hb]
      refine (iI_add _ _).trans (congrArg iI ?_)
      rw [← Int.natCast_add, clN_blk, clN_blk]
      rfl
  exact loop 48 0 h _ _ (by omega) (by omega) Sm.rf rfl rfl
/-- the first clash -/
def Fcl (S : Nat → Int) (hr w r : Int) : Prop := (r = -109 ∧ ∀ p : Nat, p < 3072 → ¬ clq S hr ((p % 64 : Nat) : Int) ((p / 64 : Nat) : Int)) ∨ (∃ p : Nat, p < 3072 ∧ clq S hr ((p % 64 : Nat) : Int) ((p / 64 : Nat) : Int) ∧ (∀ q : Nat, q < p → ¬ clq S hr ((q % 64 : Nat) : Int) ((q / 64 : Nat) : Int)) ∧ ((w = 1 ∧ r = ((p % 64 : Nat) : Int)) ∨ (w = 2 ∧ r = ((p / 64 : Nat) : Int)) ∨ (w = 3 ∧ FirR S ((p % 64 : Nat) : Int) ((p / 64 : Nat) : Int) hr r)))
set_option maxHeartbeats 1000000 in
theorem c_Sight_firstClash {S : Nat → Int} {x2 : Int32} {h : St} {Q : Option Value → St → Prop} (hC : CS 1 S h) (hW : WF S) (w : Int) (hw : 1 ≤ w ∧ w ≤ 3) (hQ : ∀ h' hr r, Sm [(20, 1)] [22] h h' → HerR S (S 1).toNat hr → Fcl S hr w r → Q (some (.int (iI r))) h') (h2 : x2 = iI w) : SC y_Sight_firstClash [.ref 20, .ref 1, .int x2] h Q := by
  refine w_call IS_ok [8] ok_Sight_firstClash rfl rfl ?_
  refine c_Scene_hero hC hW (fun hr hH => ?_)
  have hrr := HerR_rg hW hH
  have fin : ∀ (hc : St), Sm [(20, 1)] [22] h hc → (∀ y x : Nat, y < 48 → x < 64 → ¬ clq S hr (x : Int) (y : Int)) → Q (some (.int (-109))) hc := by
    intro hc hs hno
    exact hQ hc hr (-109) hs hH (Or.inl ⟨rfl, fun p hp => hno _ _ (by omega) (by omega)⟩)
  have loop : ∀ (m k : Nat) (hc : St) (z4 : Int32) (L5 L6 L7 : Option Value), 48 ≤ k + m → k ≤ 48 → Sm [(20, 1)] [22] h hc → (∀ y x : Nat, y < k → x < 64 → ¬ clq S hr (x : Int) (y : Int)) → z4 = iI k → SR y_Sight_firstClash 8 [some (.ref 20), some (.ref 1), some (.int x2), some (.int (iI hr)), some (.int z4), L5, L6, L7] [] hc Q := by
    intro m
    induction m with
    | zero =>
      intro k hc z4 L5 L6 L7 hm hk hs hno e4
      refine w_loop IS_ok [8] ok_Sight_firstClash ?_
      exact w_le 48 k (fun _ => fin hc hs (fun y x hy hx => hno y x (by omega) hx)) (fun _ => by omega) rfl e4
    | succ m ih =>
      intro k hc z4 L5 L6 L7 hm hk hs hno e4
      refine w_loop IS_ok [8] ok_Sight_firstClash ?_
      refine w_le 48 k (fun _ => fin hc hs (fun y x hy hx => hno y x (by omega) hx)) (fun g => ?_) rfl e4
      have hCc : CS 1 S hc := hC.sm hs (by decide) (by decide)
      refine c_Sight_clashesOn hCc hW hr hrr k (by omega) (fun h' D z kk hs' hsh hD hb => ?_) rfl e4
      have hs2 := hs.t hs'
      refine w_if (fun g2 => ?_) (fun g2 => ?_)
      · have g3 : D = 0 := by
          have := (lg0 D).mp g2
          rw [Nat.mod_eq_of_lt hD] at this
          exact this
        refine ih (k + 1) h' _ _ _ _ (by omega) (by omega) hs2 (fun y x hy hx => ?_) (iI_1 e4)
        by_cases z1 : y = k
        · subst z1
          intro z2
          have := (hb x hx).mpr z2
          rw [g3, Nat.zero_testBit] at this
          cases this
        · exact hno y x (by omega) hx
      · have g3 : D ≠ 0 := fun z => g2 ((lg0 D).mpr (by rw [z]))
        refine c_Sight_firstColumn D (fun x hx hb1 hb2 => ?_) rfl
        have hbx : D.testBit (63 - x) = true := by
          rcases hb2 with rfl | hb2
          · refine Classical.byContradiction fun z1 => g3 (Nat.eq_of_testBit_eq fun i => ?_)
            rw [Nat.zero_testBit]
            by_cases z2 : i < 64
            · by_cases z3 : i = 0
              · subst z3
                simpa using z1
              · have := hb1 (63 - i) (by omega)
                rw [show 63 - (63 - i) = i by omega] at this
                exact this
            · exact Nat.testBit_lt_two_pow (Nat.lt_of_lt_of_le hD (Nat.pow_le_pow_right (by decide) (by omega)))
          · exact hb2
        have hcl := (hb x hx).mp hbx
        have hp1 : (64 * k + x) % 64 = x := by omega
        have hp2 : (64 * k + x) / 64 = k := by omega
        have done : ∀ r : Int, ((w = 1 ∧ r = x) ∨ (w = 2 ∧ r = k) ∨ (w = 3 ∧ FirR S x k hr r)) → Q (some (.int (iI r))) h' := by
          intro r hrw
          refine hQ h' hr r hs2 hH (Or.inr ⟨64 * k + x, by omega, by rw [hp1, hp2]; exact hcl, fun q hq => ?_, by rw [hp1, hp2]; exact hrw⟩)
          by_cases z1 : q / 64 = k
          · intro z2
            rw [z1] at z2
            have := (hb (q % 64) (by omega)).mpr z2
            rw [hb1 (q % 64) (by omega)] at this
            cases this
          · exact hno _ _ (by omega) (by omega)
        refine w_eq w 1 (fun g4 => ?_) (fun g4 => ?_) h2 rfl
        · exact done x (Or.inl ⟨g4, rfl⟩)
        refine w_eq w 2 (fun g5 => ?_) (fun g5 => ?_) h2 rfl
        · rw [e4]; exact done k (Or.inr (Or.inl ⟨g5, rfl⟩))
        exact c_Sight_firstOther (hCc.sm hs' (by decide) (by decide)) hW hr hrr x k hx (by omega) hsh (fun r hF => done r (Or.inr (Or.inr ⟨by omega, hF⟩))) rfl rfl e4
  exact loop 48 0 h _ _ _ _ (by omega) (by omega) Sm.rf (fun y x hy => by omega) rfl
theorem c_Surv_lineWithMostHidden {S : Nat → Int} {x1 : Int32} {h : St} {Q : Option Value → St → Prop} (hW : WF S) (hst : ∀ y : Nat, y < 48 → h.2 17 y = iI (cn S (od S) y (S 1).toNat : Nat)) (hQ : ∀ r m, WrsR S 48 r m → Q (some (.int (iI r))) h) (h1 : x1 = iI (S 2)) : SC y_Surv_lineWithMostHidden [.ref 15, .int x1] h Q := by
  refine w_call IS_ok [8] ok_Surv_lineWithMostHidden rfl rfl ?_
  have hlim := hW.lim
  have hn := hW.n
  have loop : ∀ (n k : Nat) (r m : Int) (z2 z3 z4 : Int32), 48 ≤ k + n → k ≤ 48 → WrsR S k r m → 0 ≤ m → m ≤ 20 → z2 = iI (S 2 + m) → z3 = iI r → z4 = iI k → SR y_Surv_lineWithMostHidden 8 [some (.ref 15), some (.int x1), some (.int z2), some (.int z3), some (.int z4)] [] h Q := by
    intro n
    induction n with
    | zero =>
      intro k r m z2 z3 z4 hm hk hR hm0 hm20 e2 e3 e4
      have : k = 48 := by omega
      subst this
      refine w_loop IS_ok [8] ok_Surv_lineWithMostHidden ?_
      exact w_le 48 48 (fun _ => by rw [e3]; exact hQ r m hR) (fun _ => by omega) rfl e4
    | succ n ih =>
      intro k r m z2 z3 z4 hm hk hR hm0 hm20 e2 e3 e4
      refine w_loop IS_ok [8] ok_Surv_lineWithMostHidden ?_
      refine w_le 48 k (fun g => ?_) (fun g => ?_) rfl e4
      · have : k = 48 := by omega
        subst this
        rw [e3]; exact hQ r m hR
      have hc := cn_le S (od S) k (S 1).toNat
      refine c_Cells_get1 CA_16 k (by omega) ?_ e4
      refine w_le (cn S (od S) k (S 1).toNat : Nat) (S 2 + m) (fun g2 => ?_) (fun g2 => ?_) (hst k (by omega)) e2
      · refine ih (k + 1) r m _ _ _ (by omega) (by omega) ?_ hm0 hm20 e2 e3 (iI_1 e4)
        rcases hR with ⟨a1, a2, a3⟩ | ⟨y, a1, a2, a3, a4, a5, a6⟩
        · refine Or.inl ⟨a1, a2, fun y hy => ?_⟩
          by_cases z1 : y = k
          · subst z1; omega
          · exact a3 y (by omega)
        · refine Or.inr ⟨y, by omega, a2, a3, a4, fun z hz => ?_, a6⟩
          by_cases z1 : z = k
          · subst z1; omega
          · exact a5 z (by omega)
      · refine c_Cells_get1 CA_16 k (by omega) ?_ e4
        refine ih (k + 1) k ((cn S (od S) k (S 1).toNat : Nat) - S 2) _ _ _ (by omega) (by omega) (Or.inr ⟨k, by omega, rfl, rfl, by omega, fun z hz => ?_, fun z hz => ?_⟩) (by omega) (by omega) ((hst k (by omega)).trans (congrArg iI (by omega))) e4 (iI_1 e4)
        · by_cases z1 : z = k
          · subst z1; exact Nat.le_refl _
          · rcases hR with ⟨a1, a2, a3⟩ | ⟨y, a1, a2, a3, a4, a5, a6⟩
            · have := a3 z (by omega); omega
            · have := a5 z (by omega); omega
        · rcases hR with ⟨a1, a2, a3⟩ | ⟨y, a1, a2, a3, a4, a5, a6⟩
          · have := a3 z (by omega); omega
          · have := a5 z (by omega); omega
  exact loop 48 0 (-109) 0 _ _ _ (by omega) (by omega) (Or.inl ⟨rfl, rfl, fun y hy => by omega⟩) (by omega) (by omega) (h1.trans (congrArg iI (by omega))) rfl rfl
end
section
/-! the class: the calls that look -/
section
variable {S : Nat → Int} {n : Nat} {H : Nat → Nat → Int} {N : Nat} {T : Nat → Nat} {f : Nat} {G : Nat → Int} {h : St} {Q : Option Value → St → Prop}
theorem fr_sight {h' : St} (s : Sm [(20, 1)] [22] h h') : Fr 15 38 h h' := s.fr (by decide) (by decide)
theorem fr_surv {h' : St} (s : Sm [] [17, 19] h h') : Fr 15 38 h h' := s.fr (by decide) (by decide)
theorem hT_b (S : Nat → Int) (hW : WF S) (p : Nat) : hT S (od S) (S 1).toNat 48 p < 2000 := by
  have := hT_le S (od S) (S 1).toNat 48 p
  have := hW.n
  omega
theorem c_P_count {x1 : Int32} (hI : CI S n H N T f G h) (hW : WF S) (w : Int) (hQ : ∀ h' r, Fr 15 38 h h' → CntR S n N w r → Q (some (.int (iI r))) h') (h1 : x1 = iI w) (rw' : rg w) : SC y_P_count [.ref 0, .int x1] h Q := by
  obtain ⟨hC, hH, hTx, -⟩ := id hI
  have hz : ∀ (r : Int) (v : Int32), v = iI r → CntR S n N w r → Q (some (.int v)) h := fun r v hv hr => by rw [hv]; exact hQ h r Fr.rf hr
  refine w_call IS_ok [] ok_P_count rfl rfl ?_
  unfold CntR at hz hQ
  refine w_eq w 0 (fun g => hz _ _ hC.1.1 (Or.inl ⟨g, rfl⟩)) (fun g0 => ?_) h1 rfl rw'
  refine w_eq w 1 (fun g => hz _ _ hC.1.2.1 (Or.inr (Or.inl ⟨g, rfl⟩))) (fun g1 => ?_) h1 rfl rw'
  refine w_eq w 2 (fun g => hz _ _ hC.1.2.2.1 (Or.inr (Or.inr (Or.inl ⟨g, rfl⟩)))) (fun g2 => ?_) h1 rfl rw'
  refine w_eq w 3 (fun g => hz _ _ hC.1.2.2.2.1 (Or.inr (Or.inr (Or.inr (Or.inl ⟨g, rfl⟩))))) (fun g3 => ?_) h1 rfl rw'
  refine w_eq w 4 (fun g => hz _ _ hC.1.2.2.2.2.1 (Or.inr (Or.inr (Or.inr (Or.inr (Or.inl ⟨g, rfl⟩)))))) (fun g4 => ?_) h1 rfl rw'
  refine w_eq w 5 (fun g => hz _ _ hC.1.2.2.2.2.2 (Or.inr (Or.inr (Or.inr (Or.inr (Or.inr (Or.inl ⟨g, rfl⟩))))))) (fun g5 => ?_) h1 rfl rw'
  refine w_eq w 6 (fun g => ?_) (fun g6 => ?_) h1 rfl rw'
  · refine c_Surv_look_1 hC hW.wg (fun h' s1 _ hb => ?_)
    refine c_Surv_hiddenPuppets_1 (B := fun p => hT S (od S) (S 1).toNat 48 p) (fun p hp => ⟨hb p hp, hT_b S hW p⟩) ?_
    rw [show sm (fun p => if 0 < hT S (od S) (S 1).toNat 48 p then 1 else 0) 20 = hidN S from sm_congr (fun p _ => by simp [hdd])]
    exact hQ h' _ (fr_surv s1) (Or.inr (Or.inr (Or.inr (Or.inr (Or.inr (Or.inr (Or.inl ⟨g, rfl⟩)))))))
  refine w_eq w 7 (fun g => ?_) (fun g7 => ?_) h1 rfl rw'
  · exact c_Sight_allDots hC hW (fun h' s1 => hQ h' _ (fr_sight s1) (Or.inr (Or.inr (Or.inr (Or.inr (Or.inr (Or.inr (Or.inr (Or.inl ⟨g, rfl⟩)))))))))
  refine w_eq w 8 (fun g => ?_) (fun g8 => ?_) h1 rfl rw'
  · exact c_Scene_hero hC hW (fun r hr => hz r _ rfl (Or.inr (Or.inr (Or.inr (Or.inr (Or.inr (Or.inr (Or.inr (Or.inr (Or.inl ⟨g, hr⟩))))))))))
  refine w_eq w 9 (fun g => hz _ _ hH.sz (Or.inr (Or.inr (Or.inr (Or.inr (Or.inr (Or.inr (Or.inr (Or.inr (Or.inr (Or.inl ⟨g, rfl⟩))))))))))) (fun g9 => ?_) h1 rfl rw'
  refine w_eq w 10 (fun g => hz _ _ hTx.1 (Or.inr (Or.inr (Or.inr (Or.inr (Or.inr (Or.inr (Or.inr (Or.inr (Or.inr (Or.inr (Or.inl ⟨g, rfl⟩)))))))))))) (fun g10 => ?_) h1 rfl rw'
  exact hz (-101) _ rfl (Or.inr (Or.inr (Or.inr (Or.inr (Or.inr (Or.inr (Or.inr (Or.inr (Or.inr (Or.inr (Or.inr ⟨by omega, rfl⟩)))))))))))
theorem c_P_puppet {x1 x2 : Int32} (hI : CI S n H N T f G h) (hW : WF S) (p w : Int) (hQ : ∀ h' r, Fr 15 38 h h' → PupR S p w r → Q (some (.int (iI r))) h') (h1 : x1 = iI p) (h2 : x2 = iI w) (rp : rg p) (rw' : rg w) : SC y_P_puppet [.ref 0, .int x1, .int x2] h Q := by
  obtain ⟨hC, hH, hTx, -⟩ := id hI
  have hz : ∀ (r : Int) (v : Int32), v = iI r → PupR S p w r → Q (some (.int v)) h := fun r v hv hr => by rw [hv]; exact hQ h r Fr.rf hr
  unfold PupR at hz hQ
  refine w_call IS_ok [] ok_P_puppet rfl rfl ?_
  refine c_Scene_exists hC hW p ?_ h1 rp
  refine w_b (fun g => hz (-101) _ rfl (Or.inl ⟨fun z => g z.1, rfl⟩)) (fun g => ?_)
  have hb := thr_b hW g
  have e1 : x1 = iI (p.toNat : Int) := h1.trans (congrArg iI (by omega))
  refine c_P_within w 0 5 ?_ h2 rfl rfl rw'
  refine w_b (fun g2 => ?_) (fun g2 => ?_)
  · refine w_eq w 6 (fun g6 => ?_) (fun g6 => ?_) h2 rfl rw'
    · refine c_Scene_position hC hW p ?_ h1 rp
      rw [if_pos g]
      exact hz _ _ rfl (Or.inr ⟨⟨g, by omega⟩, Or.inl ⟨g6, rfl⟩⟩)
    refine w_eq w 7 (fun g7 => ?_) (fun g7 => ?_) h2 rfl rw'
    · exact c_Scene_linesOf hC p.toNat (by omega) (by omega) (hW.wp _ (by omega)).2.1 (hz _ _ rfl (Or.inr ⟨⟨g, by omega⟩, Or.inr (Or.inl ⟨g7, rfl⟩)⟩)) e1
    refine w_eq w 8 (fun g8 => ?_) (fun g8 => ?_) h2 rfl rw'
    · refine c_Surv_look_1 hC hW.wg (fun h' s1 _ hb' => ?_)
      refine c_Cells_get1 CA_18 p.toNat (by omega) ?_ e1
      rw [hb' _ (by omega)]
      exact hQ h' _ (fr_surv s1) (Or.inr ⟨⟨g, by omega⟩, Or.inr (Or.inr (Or.inl ⟨g8, rfl⟩))⟩)
    have hlast : ∀ j : Nat, j < 3 → w = 9 + j → Q (some (.int (h.2 5 (p.toNat * 10 + (7 + j))))) h := fun j hj hwj => hz _ _ (hC.2.2.2.2.2 p.toNat (by omega) j hj) (Or.inr ⟨⟨g, by omega⟩, Or.inr (Or.inr (Or.inr (Or.inl ⟨by omega, by rw [show (w - 3).toNat = 6 + j by omega]⟩)))⟩)
    refine w_eq w 9 (fun g9 => ?_) (fun g9 => ?_) h2 rfl rw'
    · exact c_Cells_get2 CA_4 p.toNat 7 (by omega) (hlast 0 (by omega) (by omega)) e1 rfl
    refine w_eq w 10 (fun g10 => ?_) (fun g10 => ?_) h2 rfl rw'
    · exact c_Cells_get2 CA_4 p.toNat 8 (by omega) (hlast 1 (by omega) (by omega)) e1 rfl
    refine w_eq w 11 (fun g11 => ?_) (fun g11 => ?_) h2 rfl rw'
    · exact c_Cells_get2 CA_4 p.toNat 9 (by omega) (hlast 2 (by omega) (by omega)) e1 rfl
    exact hz (-101) _ rfl (Or.inl ⟨fun z => by omega, rfl⟩)
  · refine c_Cells_get2 CA_4 p.toNat w.toNat (by omega) ?_ e1 (h2.trans (congrArg iI (by omega)))
    exact hz _ _ (hC.2.2.2.1 p.toNat (by omega) w.toNat (by omega)) (Or.inr ⟨⟨g, by omega⟩, Or.inr (Or.inr (Or.inr (Or.inr ⟨by omega, rfl⟩)))⟩)
theorem c_P_line {x1 x2 : Int32} (hI : CI S n H N T f G h) (hW : WF S) (y w : Int) (hQ : ∀ h' r, Fr 15 38 h h' → LinR S y w r → Q (some (.int (iI r))) h') (h1 : x1 = iI y) (h2 : x2 = iI w) (ry : rg y) (rw' : rg w) : SC y_P_line [.ref 0, .int x1, .int x2] h Q := by
  have hC := hI.1
  unfold LinR at hQ
  refine w_call IS_ok [] ok_P_line rfl rfl ?_
  refine c_P_within y 0 47 ?_ h1 rfl rfl ry
  refine w_b (fun g => hQ h (-101) Fr.rf (Or.inl ⟨fun z => g z.1, rfl⟩)) (fun g => ?_)
  have ey : y = (y.toNat : Int) := by omega
  have e1 : x1 = iI (y.toNat : Int) := h1.trans (congrArg iI ey)
  generalize hyy : y.toNat = yn at *
  subst ey
  refine w_eq w 0 (fun g0 => ?_) (fun g0 => ?_) h2 rfl rw'
  · refine c_Surv_look_1 hC hW.wg (fun h' s1 hst _ => ?_)
    refine c_Cells_get1 CA_16 yn (by omega) ?_ e1
    rw [hst yn (by omega)]
    exact hQ h' _ (fr_surv s1) (Or.inr ⟨⟨by omega, by omega⟩, Or.inl ⟨g0, rfl⟩⟩)
  refine w_eq w 1 (fun g1 => ?_) (fun g1 => ?_) h2 rfl rw'
  · refine c_Sight_look hC hW yn (by omega) (fun h' z kk s1 hsh => ?_) e1
    have := hQ h' z (fr_sight s1) (Or.inr ⟨⟨by omega, by omega⟩, Or.inr (Or.inr ⟨g1, hsh.2.2.2.2⟩)⟩)
    rw [← hsh.1] at this
    exact this
  refine w_eq w 2 (fun g2 => ?_) (fun g2 => ?_) h2 rfl rw'
  · exact c_Sight_dotsOnLine hC hW yn (by omega) (fun h' s1 => hQ h' _ (fr_sight s1) (Or.inr ⟨⟨by omega, by omega⟩, Or.inr (Or.inl ⟨g2, rfl⟩)⟩)) e1
  exact hQ h (-101) Fr.rf (Or.inl ⟨fun z => by omega, rfl⟩)
theorem c_P_shown {x1 x2 : Int32} (hI : CI S n H N T f G h) (hW : WF S) (y i : Int) (hQ : ∀ h' r, Fr 15 38 h h' → ShnR S y i r → Q (some (.int (iI r))) h') (h1 : x1 = iI y) (h2 : x2 = iI i) (ry : rg y) (ri : rg i) : SC y_P_shown [.ref 0, .int x1, .int x2] h Q := by
  have hC := hI.1
  unfold ShnR at hQ
  refine w_call IS_ok [] ok_P_shown rfl rfl ?_
  refine c_P_within y 0 47 ?_ h1 rfl rfl ry
  refine w_b (fun g => hQ h (-101) Fr.rf (Or.inl ⟨fun z => g z.1, rfl⟩)) (fun g => ?_)
  refine w_le 0 i (fun g2 => ?_) (fun g2 => hQ h (-101) Fr.rf (Or.inl ⟨fun z => by omega, rfl⟩)) rfl h2 (by omega) ri
  have ey : y = (y.toNat : Int) := by omega
  have e1 : x1 = iI (y.toNat : Int) := h1.trans (congrArg iI ey)
  generalize hyy : y.toNat = yn at *
  subst ey
  refine c_Sight_look hC hW yn (by omega) (fun h' z kk s1 hsh => ?_) e1
  refine w_le z i (fun g3 => ?_) (fun g3 => ?_) hsh.1 h2 (by have := hsh.2.1; omega) ri
  · refine hQ h' (-109) (fr_sight s1) (Or.inr ⟨⟨g, g2⟩, Or.inr ⟨rfl, fun k hk hv hc => ?_⟩⟩)
    have := (hsh.of hk hv).1
    omega
  · have e2 : x2 = iI (i.toNat : Int) := h2.trans (congrArg iI (by omega))
    obtain ⟨k1, k2, k3, k4⟩ := hsh.2.2.1 i.toNat (by omega)
    have hz8 := hsh.2.1
    refine c_Cells_get1 CA_21 i.toNat (by omega) ?_ e2
    have := hQ h' (S (6 + kk i.toNat)) (fr_sight s1) (Or.inr ⟨⟨g, g2⟩, Or.inl ⟨kk i.toNat, k1, k2, by omega, rfl⟩⟩)
    rw [(hW.od k1).1, ← k4] at this
    exact this
theorem c_P_dot {x1 x2 : Int32} (hI : CI S n H N T f G h) (hW : WF S) (x y : Int) (hQ : ∀ h' r, Fr 15 38 h h' → DotR S x y r → Q (some (.int (iI r))) h') (h1 : x1 = iI x) (h2 : x2 = iI y) (rx : rg x) (ry : rg y) : SC y_P_dot [.ref 0, .int x1, .int x2] h Q := by
  have hC := hI.1
  unfold DotR at hQ
  refine w_call IS_ok [] ok_P_dot rfl rfl ?_
  refine c_P_within x 0 63 ?_ h1 rfl rfl rx
  refine w_b (fun g => hQ h (-101) Fr.rf (Or.inl ⟨fun z => g z.1, rfl⟩)) (fun g => ?_)
  refine c_P_within y 0 47 ?_ h2 rfl rfl ry
  refine w_b (fun g2 => hQ h (-101) Fr.rf (Or.inl ⟨fun z => g2 z.2, rfl⟩)) (fun g2 => ?_)
  have ex : x = (x.toNat : Int) := by omega
  have ey : y = (y.toNat : Int) := by omega
  have e1 : x1 = iI (x.toNat : Int) := h1.trans (congrArg iI ex)
  have e2 : x2 = iI (y.toNat : Int) := h2.trans (congrArg iI ey)
  refine c_Sight_colorAt hC hW x.toNat y.toNat (by omega) (by omega) (fun h' c s1 hc => ?_) e1 e2
  rw [← ex, ← ey] at hc
  exact hQ h' c (fr_sight s1) (Or.inr ⟨⟨g, g2⟩, hc⟩)
theorem c_P_clash {x1 : Int32} (hI : CI S n H N T f G h) (hW : WF S) (w : Int) (hQ : ∀ h' r, Fr 15 38 h h' → ClaR S w r → Q (some (.int (iI r))) h') (h1 : x1 = iI w) (rw' : rg w) : SC y_P_clash [.ref 0, .int x1] h Q := by
  have hC := hI.1
  unfold ClaR at hQ
  refine w_call IS_ok [] ok_P_clash rfl rfl ?_
  refine c_P_within w 0 3 ?_ h1 rfl rfl rw'
  refine w_b (fun g => hQ h (-101) Fr.rf (Or.inl ⟨g, rfl⟩)) (fun g => ?_)
  refine w_eq w 0 (fun g2 => ?_) (fun g2 => ?_) h1 rfl rw'
  · exact c_Sight_allClashes hC hW (fun h' hr s1 hH => hQ h' _ (fr_sight s1) (Or.inr ⟨g, hr, hH, Or.inl ⟨g2, rfl⟩⟩))
  · refine c_Sight_firstClash hC hW w (by omega) (fun h' hr r s1 hH hF => ?_) h1
    refine hQ h' r (fr_sight s1) (Or.inr ⟨g, hr, hH, ?_⟩)
    rcases hF with ⟨a, b⟩ | hF
    · exact Or.inr (Or.inl ⟨g2, a, b⟩)
    · exact Or.inr (Or.inr ⟨g2, hF⟩)
theorem c_P_worstLine (hI : CI S n H N T f G h) (hW : WF S) (hQ : ∀ h' r m, Fr 15 38 h h' → WrsR S 48 r m → Q (some (.int (iI r))) h') : SC y_P_worstLine [.ref 0] h Q := by
  have hC := hI.1
  refine w_call IS_ok [] ok_P_worstLine rfl rfl ?_
  refine c_Surv_look_1 hC hW.wg (fun h' s1 hst _ => ?_)
  exact c_Surv_lineWithMostHidden hW hst (fun r m hR => hQ h' r m (fr_surv s1) hR) (by rw [s1.1 _ _ (by decide)]; exact hC.1.2.2.1)
end
end
section
/-! the class: what a forecast knows -/
theorem hT_geo {S X : Nat → Int} {o o' : Nat → Nat} {n : Nat} (h2 : X 2 = S 2) (hg : ∀ p, p < 20 → X (26 + 9 * p + 1) = S (26 + 9 * p + 1) ∧ X (26 + 9 * p + 2) = S (26 + 9 * p + 2)) (ho : ∀ k, k < n → o' k = o k ∧ o k < 20) (y p : Nat) : hT X o' n y p = hT S o n y p := by
  have hs : ∀ k, k < n → ∀ l : Int, stn X (o' k) l ↔ stn S (o k) l := fun k hk l => by
    obtain ⟨e, hl⟩ := ho k hk
    obtain ⟨g1, g2⟩ := hg _ hl
    rw [e]
    unfold stn hgh
    rw [g1, g2]
  refine sm_congr (fun l _ => sm_congr (fun j hj => ?_))
  rw [(ho j hj).1]
  have hc : cn X o' l (j + 1) = cn S o l (j + 1) := sm_congr (fun i hi => by
    by_cases z : stn S (o i) l
    · rw [if_pos z, if_pos ((hs i (by omega) l).mpr z)]
    · rw [if_neg z, if_neg (fun w => z ((hs i (by omega) l).mp w))])
  have hh : hA X o' l j = hA S o l j := by
    unfold hA
    rw [hc, h2]
    by_cases z : stn S (o j) l ∧ S 2 < (cn S o l (j + 1) : Int)
    · rw [if_pos z, if_pos ⟨(hs j hj l).mpr z.1, z.2⟩]
    · rw [if_neg z, if_neg (fun w => z ⟨(hs j hj l).mp w.1, w.2⟩)]
  rw [hh]
theorem hT_no {S : Nat → Int} {o : Nat → Nat} {n y p : Nat} (h : ∀ k, k < n → o k ≠ p) : hT S o n y p = 0 := sm_zero.mpr (fun l _ => sm_zero.mpr (fun j hj => if_neg (h j hj)))
theorem frC6 {X : Nat → Int} {hd : Nat → Bool} {n p j0 : Nat} (hi : ∀ j k, j < n → k < n → od X j = od X k → j = k) (hj0 : j0 < n) (e0 : od X j0 = p) : ∀ k, k ≤ n → j0 < k → frC X hd k (26 + 9 * p + 6) = X (26 + 9 * p + 6) + (if hd p then 1 else 0)
  | 0, _, h => by omega
  | k + 1, hk, h => by
    show frP (frC X hd k) (hd (od X k)) (od X k) _ = _
    by_cases z : j0 = k
    · subst z
      rw [e0]
      unfold frP
      rw [u1_n _ _ (by omega), u1_n _ _ (by omega), u1_s]
      rw [frC_p (i := 6) (by omega) (fun j hj e => by have := hi j j0 (by omega) hj0 (e.trans e0.symm); omega)]
    · have : od X k ≠ p := fun e => z (hi j0 k hj0 (by omega) (e0.trans e.symm))
      rw [frP_o (by omega) (by omega) (by omega)]
      exact frC6 hi hj0 e0 k (by omega) (by omega)
/-- X is S behind t frames by a rule and a step -/
def Fut (S : Nat → Int) (rule : Int) (step t : Nat) (X : Nat → Int) : Prop := (X 1 = S 1 ∧ X 2 = S 2 ∧ X 3 = rule ∧ X 4 = step ∧ X 5 = S 5 + t) ∧ (∀ p, p < 20 → X (26 + 9 * p + 1) = S (26 + 9 * p + 1) ∧ X (26 + 9 * p + 2) = S (26 + 9 * p + 2)) ∧ (∀ k, k < (S 1).toNat → od X k = oF S rule step t k) ∧ (∀ p, p < 20 → X (26 + 9 * p + 6) = S (26 + 9 * p + 6) + ofn S rule step p t)
theorem Fut.hd {S X : Nat → Int} {rule : Int} {step t : Nat} (hF : Fut S rule step t X) (hW : WF S) (p : Nat) : hT X (od X) (X 1).toNat 48 p = hT S (oF S rule step t) (S 1).toNat 48 p := by
  obtain ⟨⟨f1, f2, -⟩, fg, fo, -⟩ := hF
  rw [f1]
  exact hT_geo f2 fg (fun k hk => ⟨fo k hk, oF_20 hW _ _ _ _ hk⟩) 48 p
theorem Fut.s {S X : Nat → Int} {rule : Int} {step t : Nat} {b : Int} (hF : Fut S rule step t X) (hW : WF S) (hG : WG b X) : Fut S rule step (t + 1) (frS X) := by
  have hhd : hdd X = hB S (oF S rule step t) := funext fun p => by unfold hdd hB; rw [hF.hd hW p]
  obtain ⟨⟨f1, f2, f3, f4, f5⟩, fg, fo, fc⟩ := hF
  obtain ⟨g0, g1, g2, g3, g4, g5, god, ginj, gy, gc⟩ := hG
  have o : ∀ i, i < 26 → frC X (hdd X) (X 1).toNat i = X i := fun i hi => frC_o (fun j hj => (god j hj).2.1) (Or.inl hi)
  have e : ∀ i, i ≠ 5 → i < 6 → frS X i = X i := fun i h1 h2 => by rw [frS_c h1 (by omega), o i (by omega)]
  refine ⟨⟨by rw [e 1 (by omega) (by omega)]; exact f1, by rw [e 2 (by omega) (by omega)]; exact f2, by rw [e 3 (by omega) (by omega)]; exact f3, by rw [e 4 (by omega) (by omega)]; exact f4, ?_⟩, fun p hp => ?_, fun k hk => ?_, fun p hp => ?_⟩
  · show X 5 + 1 = _
    rw [f5]
    omega
  · rw [frS_c (by omega) (by omega), frS_c (by omega) (by omega), frC_c (i := 1) (by omega), frC_c (i := 2) (by omega)]
    exact fg p hp
  · have hx : frS X (6 + k) = (fl (turnL (hdd X) (X 3) (X 4).toNat (X 1).toNat (od X)) k : Int) := by unfold frS; rw [if_neg (by omega), if_pos (by omega), show 6 + k - 6 = k by omega]
    show (frS X (6 + k)).toNat = _
    rw [hx, Int.toNat_natCast, hhd, f3, f4, f1, Int.toNat_natCast, turnL_cg (fun k hk => fo k hk)]
    rfl
  · rw [frS_c (by omega) (by omega)]
    have hof : (ofn S rule step p (t + 1) : Int) = ofn S rule step p t + (if hB S (oF S rule step t) p then 1 else 0) := by
      show ((ofn S rule step p t + (if hB S (oF S rule step t) p then 1 else 0) : Nat) : Int) = _
      rw [Int.natCast_add]
      split <;> rfl
    rw [hof, ← Int.add_assoc, ← fc p hp, ← hhd]
    by_cases z : ∃ j, j < (X 1).toNat ∧ od X j = p
    · obtain ⟨j, hj, e0⟩ := z
      exact frC6 ginj hj e0 _ (Nat.le_refl _) hj
    · have hno : ∀ j, j < (X 1).toNat → od X j ≠ p := fun j hj e0 => z ⟨j, hj, e0⟩
      rw [frC_p (i := 6) (by omega) hno]
      have : hdd X p = false := by
        unfold hdd
        rw [hT_no hno]
        rfl
      rw [this]
      simp
theorem oF_rot {S : Nat → Int} (s : Nat) : ∀ (t k : Nat), k < (S 1).toNat → oF S 1 s t k = od S ((k + t * s) % (S 1).toNat)
  | 0, k, hk => by rw [Nat.zero_mul, Nat.add_zero, Nat.mod_eq_of_lt hk]; rfl
  | t + 1, k, hk => by
    show fl (turnL _ 1 s (S 1).toNat (oF S 1 s t)) k = _
    unfold turnL
    rw [if_neg (by omega), if_pos rfl, fl_ol hk, oF_rot s t _ (Nat.mod_lt _ (by omega))]
    congr 1
    rw [Nat.mod_add_mod, Nat.add_mul, Nat.one_mul, Nat.add_comm (t * s) s, ← Nat.add_assoc]
theorem hB_rot {S : Nat → Int} (hW : WF S) (s f : Nat) (p : Nat) : hB S (oF S 1 1 (f * s % (S 1).toNat)) p = hB S (oF S 1 s f) p := by
  unfold hB
  rw [hT_geo (S := S) (X := S) (o := oF S 1 s f) rfl (fun _ _ => ⟨rfl, rfl⟩) (fun k hk => ⟨?_, oF_20 hW _ _ _ _ hk⟩) 48 p]
  rw [oF_rot 1 _ k hk, oF_rot s f k hk, Nat.mul_one, Nat.add_mod_mod]
theorem mxF_s {f : Nat → Nat} : ∀ n : Nat, (∀ i, i < n → f i ≤ mxF f n) ∧ (mxF f n = 0 ∨ ∃ i, i < n ∧ mxF f n = f i)
  | 0 => ⟨fun i hi => by omega, Or.inl rfl⟩
  | n + 1 => by
    obtain ⟨h1, h2⟩ := mxF_s (f := f) n
    unfold mxF
    split
    · next g =>
      refine ⟨fun i hi => ?_, Or.inr ⟨n, by omega, rfl⟩⟩
      by_cases z : i = n
      · rw [z]; exact Nat.le_refl _
      · have := h1 i (by omega); omega
    · next g =>
      refine ⟨fun i hi => ?_, ?_⟩
      · by_cases z : i = n
        · rw [z]; omega
        · exact h1 i (by omega)
      · rcases h2 with h2 | ⟨i, hi, h2⟩
        · exact Or.inl h2
        · exact Or.inr ⟨i, by omega, h2⟩
theorem ofn_no {S : Nat → Int} (hW : WF S) {rule : Int} {step p t : Nat} (h : ∀ k, k < (S 1).toNat → od S k ≠ p) : ofn S rule step p t = 0 := by
  refine sm_zero.mpr (fun i _ => ?_)
  have : hB S (oF S rule step i) p = false := by
    unfold hB
    rw [hT_no (fun k hk e => ?_)]
    · rfl
    · obtain ⟨j, hj, e2⟩ := oF_b hW rule step i k hk
      exact h j hj (e2.symm.trans e)
  rw [this]
  rfl
theorem grb_is {S : Nat → Int} (hW : WF S) {step M : Nat} (h1 : ∀ k, k < (S 1).toNat → ofn S 1 step (od S k) 20 ≤ M) (h2 : M = 0 ∨ ∃ k, k < (S 1).toNat ∧ M = ofn S 1 step (od S k) 20) : M = grb S step := by
  obtain ⟨m1, m2⟩ := mxF_s (f := fun p => ofn S 1 step p 20) 20
  unfold grb
  refine Nat.le_antisymm ?_ ?_
  · rcases h2 with h2 | ⟨k, hk, h2⟩
    · omega
    · rw [h2]; exact m1 _ (hW.od hk).2.1
  · rcases m2 with m2 | ⟨p, hp, m2⟩
    · omega
    · rw [m2]
      by_cases z : ∃ k, k < (S 1).toNat ∧ od S k = p
      · obtain ⟨k, hk, e⟩ := z
        rw [← e]
        exact h1 k hk
      · show ofn S 1 step p 20 ≤ M
        rw [ofn_no hW (fun k hk e => z ⟨k, hk, e⟩)]
        exact Nat.zero_le _
theorem ofn_lt {S : Nat → Int} {rule : Int} {step p : Nat} : ∀ {t : Nat}, ofn S rule step p t < t ↔ ∃ i, i < t ∧ hB S (oF S rule step i) p = false
  | 0 => ⟨fun h => by omega, fun ⟨i, h, _⟩ => by omega⟩
  | t + 1 => by
    have ih := ofn_lt (S := S) (rule := rule) (step := step) (p := p) (t := t)
    have hle := ofn_le S rule step p t
    have e : ofn S rule step p (t + 1) = ofn S rule step p t + (if hB S (oF S rule step t) p then 1 else 0) := rfl
    rw [e]
    constructor
    · intro h
      cases hq : hB S (oF S rule step t) p with
      | false => exact ⟨t, by omega, hq⟩
      | true =>
        rw [hq] at h
        obtain ⟨i, a, b⟩ := ih.mp (by simp at h; exact h)
        exact ⟨i, by omega, b⟩
    · rintro ⟨i, a, b⟩
      by_cases z : i = t
      · subst z
        rw [b]
        simp
        omega
      · have := ih.mpr ⟨i, by omega, b⟩
        split <;> omega
theorem WG.mo {b c : Int} {X : Nat → Int} (h : WG b X) (hbc : b ≤ c) : WG c X := by
  obtain ⟨g0, g1, g2, g3, g4, g5, god, ginj, gy, gc⟩ := h
  exact ⟨g0, g1, g2, g3, g4, by omega, god, ginj, gy, fun p hp j hj => by have := gc p hp j hj; omega⟩
end
section
/-! the class: forecasts -/
def FS (S : Nat → Int) (rule : Int) (step t : Nat) (X : Nat → Int) (h : St) : Prop := CS 1 S h ∧ CS 24 X h ∧ Fut S rule step t X ∧ WG (9999 + 20 * (t : Int)) X
theorem c_fut {S : Nat → Int} {rule : Int} {step t : Nat} {X : Nat → Int} {x2 : Int32} {h : St} {Q : Option Value → St → Prop} (hW : WF S) (ht : t ≤ 60) (hS : FS S rule step t X h) (hQ : ∀ h' X' r, Sm [(24, 8)] [28, 30, 33, 35] h h' → FS S rule step (t + 1) X' h' → (∀ p, p < 20 → h'.2 35 p = iI (hT S (oF S rule step t) (S 1).toNat 48 p : Nat) ∧ hT S (oF S rule step t) (S 1).toNat 48 p < 2000) → Q (some (.int r)) h') (hx : x2 = iI 1000000) : SC y_Scene_makeFrame [.ref 24, .ref 31, .int x2] h Q := by
  obtain ⟨c1, c24, hF, hG⟩ := hS
  have h5 := hG.2.2.2.2.2.1
  refine c_Scene_makeFrame_24 c24 hG (by omega) 1000000 (by omega) (fun g => by omega) (fun _ h' s1 c' hb => ?_) hx
  refine hQ h' (frS X) _ s1 ⟨c1.sm s1 (by decide) (by decide), c', hF.s hW hG, hG.fr.mo (by omega)⟩ (fun p hp => ?_)
  have := hb p hp
  rw [hF.hd hW p] at this
  exact this
theorem c_Fore_hiddenSince {S X : Nat → Int} {x : Int32} {h : St} {Q : Option Value → St → Prop} (c1 : CS 1 S h) (c24 : CS 24 X h) (p c : Nat) (hp : p < 20) (hc : X (26 + 9 * p + 6) = S (26 + 9 * p + 6) + c) (hQ : Q (some (.int (iI (c : Nat)))) h) (hx : x = iI (p : Nat)) : SC y_Fore_hiddenSince [.ref 23, .ref 1, .int x] h Q := by
  refine w_call IS_ok [] ok_Fore_hiddenSince rfl rfl ?_
  refine c_Cells_get2 CA_27 p 7 (by omega) ?_ hx rfl
  refine c_Cells_get2 CA_4 p 7 (by omega) ?_ hx rfl
  have e1 : h.2 28 (p * 10 + 7) = iI (X (26 + 9 * p + 6)) := c24.2.2.2.2.2 p hp 0 (by omega)
  have e2 : h.2 5 (p * 10 + 7) = iI (S (26 + 9 * p + 6)) := c1.2.2.2.2.2 p hp 0 (by omega)
  have e3 : h.2 28 (p * 10 + 7) - h.2 5 (p * 10 + 7) = iI (c : Nat) := by rw [e1, e2]; exact (iI_sub _ _).trans (congrArg iI (by omega))
  rw [← e3] at hQ
  exact hQ
theorem FS.begin {S : Nat → Int} {h : St} (hW : WF S) (c1 : CS 1 S h) (c24 : CS 24 S h) : FS S (S 3) (S 4).toNat 0 S h := by
  have h4 := hW.2.2.2.2.1
  exact ⟨c1, c24, ⟨⟨rfl, rfl, rfl, by omega, by omega⟩, fun _ _ => ⟨rfl, rfl⟩, fun _ _ => rfl, fun p _ => by show _ = _ + ((0 : Nat) : Int); omega⟩, hW.wg.mo (by omega)⟩
theorem fr24 {h h' : St} (s : Sm (fl6 24) [26, 28, 30] h h') : Fr 23 38 h h' := s.fr (by decide) (by decide)
theorem frfu {h h' : St} (s : Sm [(24, 8)] [28, 30, 33, 35] h h') : Fr 23 38 h h' := s.fr (by decide) (by decide)
theorem c_Fore_hiddenFrames {S : Nat → Int} {x2 x3 : Int32} {h : St} {Q : Option Value → St → Prop} (hC : CS 1 S h) (hW : WF S) (p f : Nat) (hp : p < 20) (hf : f ≤ 60) (hQ : ∀ h', Fr 23 38 h h' → Q (some (.int (iI (ofn S (S 3) (S 4).toNat p f : Nat)))) h') (h2 : x2 = iI (p : Nat)) (h3 : x3 = iI (f : Nat)) : SC y_Fore_hiddenFrames [.ref 23, .ref 1, .int x2, .int x3] h Q := by
  refine w_call IS_ok [11] ok_Fore_hiddenFrames rfl rfl ?_
  have hn := hW.n
  refine c_Scene_copyFrom_24_1 hC hn.2.1 (fun h1 s1 c24 => ?_)
  have fin : ∀ (hc : St) (X : Nat → Int) (z4 : Int32), Fr 23 38 h hc → FS S (S 3) (S 4).toNat f X hc → SR y_Fore_hiddenFrames 37 [some (.ref 23), some (.ref 1), some (.int x2), some (.int x3), some (.int z4)] [] hc Q := by
    intro hc X z4 fr hS
    refine w_loop IS_ok [] ok_Fore_hiddenFrames ?_
    exact c_Fore_hiddenSince hS.1 hS.2.1 p _ hp (hS.2.2.1.2.2.2 p hp) (hQ hc fr) h2
  have loop : ∀ (m t : Nat) (hc : St) (X : Nat → Int) (z4 : Int32), f ≤ t + m → t ≤ f → Fr 23 38 h hc → FS S (S 3) (S 4).toNat t X hc → z4 = iI t → SR y_Fore_hiddenFrames 11 [some (.ref 23), some (.ref 1), some (.int x2), some (.int x3), some (.int z4)] [] hc Q := by
    intro m
    induction m with
    | zero =>
      intro t hc X z4 hm ht fr hS e4
      have : t = f := by omega
      subst this
      refine w_loop IS_ok [37] ok_Fore_hiddenFrames ?_
      exact w_le t t (fun _ => fin hc X _ fr hS) (fun _ => by omega) h3 e4
    | succ m ih =>
      intro t hc X z4 hm ht fr hS e4
      refine w_loop IS_ok [11, 37] ok_Fore_hiddenFrames ?_
      refine w_le f t (fun g => ?_) (fun g => ?_) h3 e4
      · have : t = f := by omega
        subst this
        exact fin hc X _ fr hS
      · refine c_fut hW (by omega) hS (fun h' X' r s' hS' _ => ?_) rfl
        exact ih (t + 1) h' X' _ (by omega) (by omega) (fr.t (frfu s')) hS' (iI_1 e4)
  exact loop f 0 h1 S _ (by omega) (by omega) (fr24 s1) (FS.begin hW (hC.sm s1 (by decide) (by decide)) c24) rfl
theorem c_Fore_allShownWithin {S X : Nat → Int} {x2 : Int32} {h : St} {Q : Option Value → St → Prop} (hW : WF S) (t : Nat) (ht : t ≤ 60) (hS : FS S (S 3) (S 4).toNat t X h) (hQ0 : ¬ allS S t → Q (some (.int 0)) h) (hQ1 : allS S t → Q (some (.int 1)) h) (h2 : x2 = iI (t : Nat)) : SC y_Fore_allShownWithin [.ref 23, .ref 1, .int x2] h Q := by
  refine w_call IS_ok [2] ok_Fore_allShownWithin rfl rfl ?_
  have hn := hW.n
  have fin : (∀ k, k < (S 1).toNat → ofn S (S 3) (S 4).toNat (od S k) t < t) → Q (some (.int 1)) h := fun ha => hQ1 (fun k hk => ofn_lt.mp (ha k hk))
  have loop : ∀ (m k : Nat) (z3 : Int32), (S 1).toNat ≤ k + m → k ≤ (S 1).toNat → (∀ j, j < k → ofn S (S 3) (S 4).toNat (od S j) t < t) → z3 = iI k → SR y_Fore_allShownWithin 2 [some (.ref 23), some (.ref 1), some (.int x2), some (.int z3)] [] h Q := by
    intro m
    induction m with
    | zero =>
      intro k z3 hm hk ha e3
      refine w_loop IS_ok [2] ok_Fore_allShownWithin ?_
      exact w_le (S 1) k (fun _ => ⟨Or.inr rfl, fin (fun j hj => ha j (by omega))⟩) (fun _ => by omega) hS.1.1.1 e3
    | succ m ih =>
      intro k z3 hm hk ha e3
      refine w_loop IS_ok [2] ok_Fore_allShownWithin ?_
      refine w_le (S 1) k (fun _ => ⟨Or.inr rfl, fin (fun j hj => ha j (by omega))⟩) (fun g => ?_) hS.1.1.1 e3
      have o := hW.od (k := k) (by omega)
      refine c_Cells_get1 CA_6 k (by omega) ?_ e3
      have eo : h.2 7 k = iI (od S k : Nat) := od_row hS.1 hW (by omega)
      have hle := ofn_le S (S 3) (S 4).toNat (od S k) t
      refine c_Fore_hiddenSince hS.1 hS.2.1 (od S k) _ o.2.1 (hS.2.2.1.2.2.2 _ o.2.1) ?_ eo
      refine w_lt (ofn S (S 3) (S 4).toNat (od S k) t : Nat) t (fun g2 => ?_) (fun g2 => ?_) rfl h2
      · refine ih (k + 1) _ (by omega) (by omega) (fun j hj => ?_) (iI_1 e3)
        by_cases z : j = k
        · subst z; omega
        · exact ha j (by omega)
      · refine ⟨Or.inl rfl, hQ0 (fun hall => ?_)⟩
        have := ofn_lt.mpr (hall k (by omega))
        omega
  exact loop (S 1).toNat 0 _ (by omega) (by omega) (fun j hj => by omega) rfl
theorem c_Fore_framesUntilAllShown {S : Nat → Int} {h : St} {Q : Option Value → St → Prop} (hC : CS 1 S h) (hW : WF S) (hQ : ∀ h' r, Fr 23 38 h h' → AllR S r → Q (some (.int (iI r))) h') : SC y_Fore_framesUntilAllShown [.ref 23, .ref 1] h Q := by
  refine w_call IS_ok [19] ok_Fore_framesUntilAllShown rfl rfl ?_
  have hn := hW.n
  refine w_eq (S 1) 0 (fun g => ?_) (fun g => ?_) hC.1.1 rfl
  · exact hQ h 0 Fr.rf (Or.inl ⟨0, by omega, rfl, fun k hk => by omega, fun u hu => by omega⟩)
  refine c_Scene_copyFrom_24_1 hC hn.2.1 (fun h1 s1 c24 => ?_)
  have n0 : ¬ allS S 0 := fun ha => by
    obtain ⟨i, hi, -⟩ := ha 0 (by omega)
    omega
  have fin : ∀ (hc : St), Fr 23 38 h hc → (∀ u, u < 61 → ¬ allS S u) → Q (some (.int (-109))) hc := fun hc fr hno => hQ hc (-109) fr (Or.inr ⟨rfl, fun u hu => hno u (by omega)⟩)
  have loop : ∀ (m t : Nat) (hc : St) (X : Nat → Int) (z2 : Int32), 60 ≤ t + m → t ≤ 60 → Fr 23 38 h hc → FS S (S 3) (S 4).toNat t X hc → (∀ u, u < t + 1 → ¬ allS S u) → z2 = iI (t + 1 : Nat) → SR y_Fore_framesUntilAllShown 19 [some (.ref 23), some (.ref 1), some (.int z2)] [] hc Q := by
    intro m
    induction m with
    | zero =>
      intro t hc X z2 hm ht fr hS hno e2
      refine w_loop IS_ok [19] ok_Fore_framesUntilAllShown ?_
      exact w_lt 60 (t + 1 : Nat) (fun _ => fin hc fr (fun u hu => hno u (by omega))) (fun _ => by omega) rfl e2
    | succ m ih =>
      intro t hc X z2 hm ht fr hS hno e2
      refine w_loop IS_ok [19] ok_Fore_framesUntilAllShown ?_
      refine w_lt 60 (t + 1 : Nat) (fun _ => fin hc fr (fun u hu => hno u (by omega))) (fun g => ?_) rfl e2
      refine c_fut hW (by omega) hS (fun h' X' r s' hS' _ => ?_) rfl
      have fr' := fr.t (frfu s')
      refine c_Fore_allShownWithin hW (t + 1) (by omega) hS' (fun hno2 => ?_) (fun hall => ?_) e2
      · refine ih (t + 1) h' X' _ (by omega) (by omega) fr' hS' (fun u hu => ?_) (iI_1 e2)
        by_cases z : u = t + 1
        · subst z; exact hno2
        · exact hno u (by omega)
      · have := hQ h' (t + 1 : Nat) fr' (Or.inl ⟨t + 1, by omega, rfl, hall, hno⟩)
        rw [← e2] at this
        exact this
  refine loop 60 0 h1 S _ (by omega) (by omega) (fr24 s1) (FS.begin hW (hC.sm s1 (by decide) (by decide)) c24) (fun u hu => ?_) rfl
  have : u = 0 := by omega
  subst this
  exact n0
/-- the hidden ones by turns, for the first k turns -/
def HbT (S : Nat → Int) (k : Nat) (h : St) : Prop := ∀ t, t < k → ∃ w, w < 2 ^ 20 ∧ h.2 37 t = nI w ∧ ∀ p, p < 20 → w.testBit p = hB S (oF S 1 1 t) p
theorem c_Fore_noteHiddenByTurns {S : Nat → Int} {h : St} {Q : Option Value → St → Prop} (hC : CS 1 S h) (hW : WF S) (hQ : ∀ h', Fr 23 38 h h' → CS 1 S h' → HbT S (S 1).toNat h' → Q none h') : SC y_Fore_noteHiddenByTurns [.ref 23, .ref 1] h Q := by
  refine w_call IS_ok [26] ok_Fore_noteHiddenByTurns rfl rfl ?_
  have hn := hW.n
  refine c_Scene_copyFrom_24_1 hC hn.2.1 (fun h1 s1 c24 => ?_)
  have hX : FS S 1 1 0 (u1 (u1 S 3 1) 4 1) (pg (pg h1 24 6 1) 24 7 1) := by
    obtain ⟨g0, g1, g2, g3, g4, g5, god, ginj, gy, gc⟩ := hW.wg
    have e : ∀ i, i ≠ 3 → i ≠ 4 → u1 (u1 S 3 1) 4 1 i = S i := fun i h1 h2 => (u1_n _ _ h2).trans (u1_n _ _ h1)
    have eo : ∀ k, od (u1 (u1 S 3 1) 4 1) k = od S k := fun k => by show (u1 (u1 S 3 1) 4 1 (6 + k)).toNat = _; rw [e _ (by omega) (by omega)]
    have s2 : Sm [(24, 6), (24, 7)] [] h1 (pg (pg h1 24 6 1) 24 7 1) := (Sm.pg _ (by decide)).t (Sm.pg _ (by decide))
    refine ⟨(hC.sm s1 (by decide) (by decide)).sm s2 (by decide) (by decide), c24.mk2 rfl rfl ⟨c24.1.1, c24.1.2.1, c24.1.2.2.1, rfl, rfl, c24.1.2.2.2.2.2⟩ (fun k hk => ?_) rfl (fun i hi => e i (by omega) (by omega)), ⟨⟨rfl, rfl, rfl, rfl, by show S 5 = _ + ((0 : Nat) : Int); omega⟩, fun p hp => ⟨e _ (by omega) (by omega), e _ (by omega) (by omega)⟩, fun k hk => eo k, fun p hp => by rw [e _ (by omega) (by omega)]; show _ = _ + ((0 : Nat) : Int); omega⟩, ⟨g0, g1, g2, by show (0 : Int) ≤ 1 ∧ (1 : Int) ≤ 2; omega, by show (1 : Int) ≤ 1 ∧ (1 : Int) ≤ 19; omega, by show 0 ≤ S 5 ∧ S 5 ≤ _; omega, fun k hk => ?_, fun j k hj hk he => ?_, fun p hp => ?_, fun p hp j hj => ?_⟩⟩
    · rw [e _ (by omega) (by omega)]
      exact c24.2.2.1 k hk
    · rw [eo, e _ (by omega) (by omega)]
      exact god k hk
    · rw [eo, eo] at he
      exact ginj j k hj hk he
    · rw [e _ (by omega) (by omega)]
      exact gy p hp
    · rw [e _ (by omega) (by omega)]
      have := gc p hp j hj
      omega
  have loop : ∀ (m t : Nat) (hc : St) (X : Nat → Int) (z2 : Int32), (S 1).toNat ≤ t + m → t ≤ (S 1).toNat → Fr 23 38 h hc → FS S 1 1 t X hc → HbT S t hc → z2 = iI t → SR y_Fore_noteHiddenByTurns 26 [some (.ref 23), some (.ref 1), some (.int z2)] [] hc Q := by
    intro m
    induction m with
    | zero =>
      intro t hc X z2 hm ht fr hS hb e2
      have : t = (S 1).toNat := by omega
      subst this
      refine w_loop IS_ok [26] ok_Fore_noteHiddenByTurns ?_
      exact w_le (S 1) (S 1).toNat (fun _ => hQ hc fr hS.1 hb) (fun _ => by omega) hS.1.1.1 e2
    | succ m ih =>
      intro t hc X z2 hm ht fr hS hb e2
      refine w_loop IS_ok [26] ok_Fore_noteHiddenByTurns ?_
      refine w_le (S 1) t (fun g => ?_) (fun g => ?_) hS.1.1.1 e2
      · have : t = (S 1).toNat := by omega
        subst this
        exact hQ hc fr hS.1 hb
      refine c_fut hW (by omega) hS (fun h' X' r s' hS' hbb => ?_) rfl
      refine c_Surv_hiddenBits_24 (B := fun p => hT S (oF S 1 1 t) (S 1).toNat 48 p) hbb (fun w hw hwb => ?_)
      refine c_Cells_set2 CA_36 t (by omega) ?_ e2
      have s3 : Sm [] [37] h' (wa h' 37 t (nI w)) := Sm.wa _ _ (by decide)
      refine ih (t + 1) (wa h' 37 t (nI w)) X' _ (by omega) (by omega) (fr.t ((frfu s').t (s3.fr (by decide) (by decide)))) ⟨hS'.1.sm s3 (by decide) (by decide), hS'.2.1.sm s3 (by decide) (by decide), hS'.2.2⟩ (fun u hu => ?_) (iI_1 e2)
      by_cases z : u = t
      · subst z
        exact ⟨w, hw, wa_s _ _ _ _, hwb⟩
      · obtain ⟨w2, a1, a2, a3⟩ := hb u (by omega)
        exact ⟨w2, a1, by rw [wa_n _ _ _ _ z, s'.2 _ (by decide)]; exact a2, a3⟩
  refine loop (S 1).toNat 0 (pg (pg h1 24 6 1) 24 7 1) _ _ (by omega) (by omega) ((fr24 s1).t ?_) hX (fun u hu => by omega) rfl
  exact Sm.fr (X := [(24, 6), (24, 7)]) (Y := []) ((Sm.pg _ (by decide)).t (Sm.pg _ (by decide))) (by decide) (by decide)
theorem c_Fore_framesHidden {S : Nat → Int} {x1 x2 x3 : Int32} {h : St} {Q : Option Value → St → Prop} (hW : WF S) (hb : HbT S (S 1).toNat h) (p s : Nat) (hp : p < 20) (hs : s ≤ 19) (hn0 : 0 < (S 1).toNat) (hQ : Q (some (.int (iI (ofn S 1 s p 20 : Nat)))) h) (h1 : x1 = iI (p : Nat)) (h2 : x2 = iI (s : Nat)) (h3 : x3 = iI (S 1)) : SC y_Fore_framesHidden [.ref 23, .int x1, .int x2, .int x3] h Q := by
  refine w_call IS_ok [6] ok_Fore_framesHidden rfl rfl ?_
  have hn := hW.n
  have e3 : x3 = iI ((S 1).toNat : Nat) := h3.trans (congrArg iI hn.1)
  have loop : ∀ (m f : Nat) (z4 z5 : Int32) (L6 : Option Value), 20 ≤ f + m → f ≤ 20 → z4 = iI (ofn S 1 s p f : Nat) → z5 = iI f → SR y_Fore_framesHidden 6 [some (.ref 23), some (.int x1), some (.int x2), some (.int x3), some (.int z4), some (.int z5), L6] [] h Q := by
    intro m
    induction m with
    | zero =>
      intro f z4 z5 L6 hm hf e4 e5
      have : f = 20 := by omega
      subst this
      refine w_loop IS_ok [6] ok_Fore_framesHidden ?_
      exact w_le 20 20 (fun _ => by rw [e4]; exact hQ) (fun _ => by omega) rfl e5
    | succ m ih =>
      intro f z4 z5 L6 hm hf e4 e5
      refine w_loop IS_ok [6] ok_Fore_framesHidden ?_
      refine w_le 20 f (fun g => ?_) (fun g => ?_) rfl e5
      · have : f = 20 := by omega
        subst this
        rw [e4]; exact hQ
      refine w_le (S 1) 0 (fun g2 => by omega) (fun g2 => ?_) h3 rfl
      refine ⟨fun z => ?_, ?_⟩
      · have z2 := (iI_eq (a := S 1) (b := 0) (by omega) (by omega)).mp (h3.symm.trans z)
        omega
      have hfs : f * s ≤ 20 * 19 := Nat.mul_le_mul hf hs
      have em : z5 * x2 = iI ((f * s : Nat) : Int) := by rw [e5, h2]; exact (iI_mul f s).trans (congrArg iI (by omega))
      have er := modr em e3 (by omega) (by omega) hn0
      have hlt := Nat.mod_lt (f * s) (show (S 1).toNat > 0 by omega)
      refine c_Cells_get1 CA_36 (f * s % (S 1).toNat) (by omega) ?_ er
      obtain ⟨w, w1, w2, w3⟩ := hb _ hlt
      have e6 : (h.2 37 (f * s % (S 1).toNat) >>> (x1 &&& 31)) &&& 1 = iI ((if hB S (oF S 1 s f) p then 1 else 0 : Nat) : Int) := by
        rw [w2, h1, bit_is (B := fun q => hB S (oF S 1 1 (f * s % (S 1).toNat)) q) w1 hp (w3 p hp), hB_rot hW]
        split <;> rfl
      refine ih (f + 1) _ _ _ (by omega) (by omega) ?_ (iI_1 e5)
      rw [e6, e4]
      exact (iI_add _ _).trans (congrArg iI (by rw [← Int.natCast_add]; rfl))
  exact loop 20 0 _ _ _ (by omega) (by omega) rfl rfl
theorem c_Fore_greatestWith {S : Nat → Int} {x2 : Int32} {h : St} {Q : Option Value → St → Prop} (hC : CS 1 S h) (hW : WF S) (hb : HbT S (S 1).toNat h) (s : Nat) (hs : s ≤ 19) (hQ : Q (some (.int (iI (grb S s : Nat)))) h) (h2 : x2 = iI (s : Nat)) : SC y_Fore_greatestWith [.ref 23, .ref 1, .int x2] h Q := by
  refine w_call IS_ok [5] ok_Fore_greatestWith rfl rfl ?_
  have hn := hW.n
  have loop : ∀ (m k M : Nat) (z3 z4 : Int32), (S 1).toNat ≤ k + m → k ≤ (S 1).toNat → (∀ j, j < k → ofn S 1 s (od S j) 20 ≤ M) → (M = 0 ∨ ∃ j, j < k ∧ M = ofn S 1 s (od S j) 20) → M ≤ 20 → z3 = iI (M : Nat) → z4 = iI k → SR y_Fore_greatestWith 5 [some (.ref 23), some (.ref 1), some (.int x2), some (.int z3), some (.int z4)] [] h Q := by
    intro m
    induction m with
    | zero =>
      intro k M z3 z4 hm hk h1 h3 hM e3 e4
      have : k = (S 1).toNat := by omega
      subst this
      refine w_loop IS_ok [5] ok_Fore_greatestWith ?_
      refine w_le (S 1) (S 1).toNat (fun _ => ?_) (fun _ => by omega) hC.1.1 e4
      rw [e3, grb_is hW h1 h3]
      exact hQ
    | succ m ih =>
      intro k M z3 z4 hm hk h1 h3 hM e3 e4
      refine w_loop IS_ok [5] ok_Fore_greatestWith ?_
      refine w_le (S 1) k (fun g => ?_) (fun g => ?_) hC.1.1 e4
      · have : k = (S 1).toNat := by omega
        subst this
        rw [e3, grb_is hW h1 h3]
        exact hQ
      have o := hW.od (k := k) (by omega)
      refine c_Cells_get1 CA_6 k (by omega) ?_ e4
      have hle := ofn_le S 1 s (od S k) 20
      refine c_Fore_framesHidden hW hb (od S k) s o.2.1 hs (by omega) ?_ (od_row hC hW (by omega)) h2 hC.1.1
      refine c_J_max M (ofn S 1 s (od S k) 20 : Nat) ?_ e3 rfl
      by_cases z : ofn S 1 s (od S k) 20 ≤ M
      · rw [if_pos (by omega)]
        refine ih (k + 1) M _ _ (by omega) (by omega) (fun j hj => ?_) ?_ hM rfl (iI_1 e4)
        · by_cases z2 : j = k
          · subst z2; exact z
          · exact h1 j (by omega)
        · rcases h3 with h3 | ⟨j, hj, h3⟩
          · exact Or.inl h3
          · exact Or.inr ⟨j, by omega, h3⟩
      · rw [if_neg (by omega)]
        refine ih (k + 1) (ofn S 1 s (od S k) 20) _ _ (by omega) (by omega) (fun j hj => ?_) (Or.inr ⟨k, by omega, rfl⟩) hle rfl (iI_1 e4)
        by_cases z2 : j = k
        · subst z2; exact Nat.le_refl _
        · have := h1 j (by omega); omega
  exact loop (S 1).toNat 0 0 _ _ (by omega) (by omega) (fun j hj => by omega) (Or.inl rfl) (by omega) rfl rfl
theorem c_Fore_findStep {S : Nat → Int} {h : St} {Q : Option Value → St → Prop} (hC : CS 1 S h) (hW : WF S) (hQ : ∀ h', Fr 23 38 h h' → h'.1 23 3 = iI ((bsF (grb S) 18).1 : Nat) → h'.1 23 4 = iI ((bsF (grb S) 18).2 : Nat) → Q none h') : SC y_Fore_findStep [.ref 23, .ref 1] h Q := by
  refine w_call IS_ok [22] ok_Fore_findStep rfl rfl ?_
  refine c_Fore_noteHiddenByTurns hC hW (fun h1 f1 c1 hb => ?_)
  refine c_Fore_greatestWith (h := pg h1 23 3 1) (c1.sm (Sm.pg (X := [(23, 3)]) (Y := []) _ (by decide)) (by decide) (by decide)) hW (fun t ht => hb t ht) 1 (by omega) ?_ rfl
  have hgb := fun s => grb_b S s
  have loop : ∀ (m k : Nat) (hc : St) (z2 : Int32) (L3 : Option Value), 18 ≤ k + m → k ≤ 18 → Fr 23 38 h hc → CS 1 S hc → HbT S (S 1).toNat hc → hc.1 23 3 = iI ((bsF (grb S) k).1 : Nat) → hc.1 23 4 = iI ((bsF (grb S) k).2 : Nat) → z2 = iI (k + 2 : Nat) → SR y_Fore_findStep 22 [some (.ref 23), some (.ref 1), some (.int z2), L3] [] hc Q := by
    intro m
    induction m with
    | zero =>
      intro k hc z2 L3 hm hk fr hCc hbc e3 e4 e2
      have : k = 18 := by omega
      subst this
      refine w_loop IS_ok [22] ok_Fore_findStep ?_
      exact w_lt 19 (18 + 2 : Nat) (fun _ => hQ hc fr e3 e4) (fun _ => by omega) rfl e2
    | succ m ih =>
      intro k hc z2 L3 hm hk fr hCc hbc e3 e4 e2
      refine w_loop IS_ok [22] ok_Fore_findStep ?_
      refine w_lt 19 (k + 2 : Nat) (fun g => ?_) (fun g => ?_) rfl e2
      · have : k = 18 := by omega
        subst this
        exact hQ hc fr e3 e4
      refine c_Fore_greatestWith hCc hW hbc (k + 2) (by omega) ?_ e2
      have hb2 := bsF_b hgb k
      have hg2 := hgb (k + 2)
      refine w_le (bsF (grb S) k).2 (grb S (k + 2) : Nat) (fun g2 => ?_) (fun g2 => ?_) e4 rfl
      · refine ih (k + 1) hc _ _ (by omega) (by omega) fr hCc hbc ?_ ?_ (iI_1 e2)
        · rw [e3]; unfold bsF; rw [if_neg (by omega)]; cases k <;> rfl
        · rw [e4]; unfold bsF; rw [if_neg (by omega)]; cases k <;> rfl
      · have s3 : Sm [(23, 3), (23, 4)] [] hc (pg (pg hc 23 3 z2) 23 4 (iI (grb S (k + 2) : Nat))) := (Sm.pg _ (by decide)).t (Sm.pg _ (by decide))
        refine ih (k + 1) (pg (pg hc 23 3 z2) 23 4 (iI (grb S (k + 2) : Nat))) _ _ (by omega) (by omega) (fr.t (s3.fr (by decide) (by decide))) (hCc.sm s3 (by decide) (by decide)) (fun t ht => hbc t ht) ?_ ?_ (iI_1 e2)
        · rw [pg_n _ _ _ _ (by omega), pg_s, e2]; unfold bsF; rw [if_pos (by omega)]
        · rw [pg_s]; unfold bsF; rw [if_pos (by omega)]
  have s4 : Sm [(23, 3), (23, 4)] [] h1 (pg (pg h1 23 3 1) 23 4 (iI (grb S 1 : Nat))) := (Sm.pg _ (by decide)).t (Sm.pg _ (by decide))
  exact loop 18 0 (pg (pg h1 23 3 1) 23 4 (iI (grb S 1 : Nat))) _ _ (by omega) (by omega) (f1.t (s4.fr (by decide) (by decide))) (c1.sm s4 (by decide) (by decide)) (fun t ht => hb t ht) rfl rfl rfl
section
variable {S : Nat → Int} {n : Nat} {H : Nat → Nat → Int} {N : Nat} {T : Nat → Nat} {f : Nat} {G : Nat → Int} {h : St} {Q : Option Value → St → Prop}
theorem c_P_hiddenIn {x1 x2 : Int32} (hI : CI S n H N T f G h) (hW : WF S) (p k : Int) (hQ : ∀ h' r, Fr 15 38 h h' → HinR S p k r → Q (some (.int (iI r))) h') (h1 : x1 = iI p) (h2 : x2 = iI k) (rp : rg p) (rk : rg k) : SC y_P_hiddenIn [.ref 0, .int x1, .int x2] h Q := by
  unfold HinR at hQ
  refine w_call IS_ok [] ok_P_hiddenIn rfl rfl ?_
  refine c_Scene_exists hI.1 hW p ?_ h1 rp
  refine w_b (fun g => hQ h (-101) Fr.rf (Or.inl ⟨fun z => g z.1, rfl⟩)) (fun g => ?_)
  refine c_P_within k 1 60 ?_ h2 rfl rfl rk
  refine w_b (fun g2 => hQ h (-101) Fr.rf (Or.inl ⟨fun z => g2 z.2, rfl⟩)) (fun g2 => ?_)
  have hb := thr_b hW g
  exact c_Fore_hiddenFrames hI.1 hW p.toNat k.toNat (by omega) (by omega) (fun h' fr => hQ h' _ (fr.w (by omega) (by omega)) (Or.inr ⟨⟨g, g2⟩, rfl⟩)) (h1.trans (congrArg iI (by omega))) (h2.trans (congrArg iI (by omega)))
theorem c_P_allShownIn (hI : CI S n H N T f G h) (hW : WF S) (hQ : ∀ h' r, Fr 15 38 h h' → AllR S r → Q (some (.int (iI r))) h') : SC y_P_allShownIn [.ref 0] h Q := by
  refine w_call IS_ok [] ok_P_allShownIn rfl rfl ?_
  exact c_Fore_framesUntilAllShown hI.1 hW (fun h' r fr hR => hQ h' r (fr.w (by omega) (by omega)) hR)
theorem c_P_bestStep {x1 : Int32} (hI : CI S n H N T f G h) (hW : WF S) (w : Int) (hQ : ∀ h' r, Fr 15 38 h h' → BstR S w r → Q (some (.int (iI r))) h') (h1 : x1 = iI w) (rw' : rg w) : SC y_P_bestStep [.ref 0, .int x1] h Q := by
  unfold BstR at hQ
  refine w_call IS_ok [] ok_P_bestStep rfl rfl ?_
  refine c_P_within w 0 1 ?_ h1 rfl rfl rw'
  refine w_b (fun g => hQ h (-101) Fr.rf (Or.inl ⟨g, rfl⟩)) (fun g => ?_)
  refine c_Fore_findStep hI.1 hW (fun h' fr e3 e4 => ?_)
  have fr' := fr.w (show 15 ≤ 23 by omega) (show 38 ≤ 38 by omega)
  refine w_eq w 0 (fun g2 => ?_) (fun g2 => ?_) h1 rfl rw'
  · have := hQ h' _ fr' (Or.inr (Or.inl ⟨g2, rfl⟩))
    rw [← e3] at this
    exact this
  · have := hQ h' _ fr' (Or.inr (Or.inr ⟨by omega, rfl⟩))
    rw [← e4] at this
    exact this
end
end
section
/-! answers are functions of the state -/
theorem HerR_u {S : Nat → Int} {n : Nat} {r r' : Int} (a : HerR S n r) (b : HerR S n r') : r = r' := by
  rcases a with ⟨a1, a2⟩ | ⟨k, a1, a2, a3⟩ <;> rcases b with ⟨b1, b2⟩ | ⟨k', b1, b2, b3⟩
  · omega
  · omega
  · omega
  · have := a3 k' b1
    have := b3 k a1
    omega
theorem FirR_u {S : Nat → Int} (hW : WF S) {x y but r r' : Int} (a : FirR S x y but r) (b : FirR S x y but r') : r = r' := by
  rcases a with ⟨k, a1, a2, a3, a4, a5, a6⟩ | ⟨a1, a2⟩ <;> rcases b with ⟨k', b1, b2, b3, b4, b5, b6⟩ | ⟨b1, b2⟩
  · have : k = k' := by
      rcases Nat.lt_trichotomy k k' with h | h | h
      · exact absurd a4 (b5 k h a2 a3)
      · exact h
      · exact absurd b4 (a5 k' h b2 b3)
    rw [a6, b6, this]
  · exact absurd a4 (b2 k a1 a2 a3)
  · exact absurd b4 (a2 k' b1 b2 b3)
  · omega
theorem ColR_u {S : Nat → Int} (hW : WF S) {x y r r' : Int} (a : ColR S x y r) (b : ColR S x y r') : r = r' := by
  obtain ⟨q, a1, a2⟩ := a
  obtain ⟨q', b1, b2⟩ := b
  rw [a2, b2, FirR_u hW a1 b1]
theorem ShoR_u {S : Nat → Int} {y i r r' : Int} (a : ShoR S y i r) (b : ShoR S y i r') : r = r' := by
  rcases a with ⟨k, a1, a2, a3, a4⟩ | ⟨a1, a2⟩ <;> rcases b with ⟨k', b1, b2, b3, b4⟩ | ⟨b1, b2⟩
  · have : k = k' := cn_inj a2.1 b2.1 (by omega)
    rw [a4, b4, this]
  · exact absurd a3 (b2 k a1 a2)
  · exact absurd b3 (a2 k' b1 b2)
  · omega
theorem FaiR_u {f : Nat} {G : Nat → Int} {w r r' : Int} (a : FaiR f G w r) (b : FaiR f G w r') : r = r' := by
  unfold FaiR at a b
  omega
theorem CntR_u {S : Nat → Int} {n N : Nat} {w r r' : Int} (a : CntR S n N w r) (b : CntR S n N w r') : r = r' := by
  unfold CntR at a b
  by_cases h : w = 8
  · have a8 : HerR S (S 1).toNat r := by
      rcases a with a | a | a | a | a | a | a | a | a | a | a | a
      all_goals first | exact a.2 | omega
    have b8 : HerR S (S 1).toNat r' := by
      rcases b with a | a | a | a | a | a | a | a | a | a | a | a
      all_goals first | exact a.2 | omega
    exact HerR_u a8 b8
  · rcases a with a | a | a | a | a | a | a | a | a | a | a | a <;> rcases b with b | b | b | b | b | b | b | b | b | b | b | b <;> omega
theorem PupR_u {S : Nat → Int} {p w r r' : Int} (a : PupR S p w r) (b : PupR S p w r') : r = r' := by
  unfold PupR at a b
  rcases a with ⟨a1, a2⟩ | ⟨a1, a2⟩ <;> rcases b with ⟨b1, b2⟩ | ⟨b1, b2⟩
  · omega
  · exact absurd b1 a1
  · exact absurd a1 b1
  · rcases a2 with a | a | a | a | a <;> rcases b2 with b | b | b | b | b <;> omega
theorem LinR_u {S : Nat → Int} {y w r r' : Int} (a : LinR S y w r) (b : LinR S y w r') : r = r' := by
  unfold LinR at a b
  rcases a with ⟨a1, a2⟩ | ⟨a1, a2⟩ <;> rcases b with ⟨b1, b2⟩ | ⟨b1, b2⟩
  · omega
  · exact absurd b1 a1
  · exact absurd a1 b1
  · rcases a2 with a | a | a <;> rcases b2 with b | b | b <;> omega
theorem ShnR_u {S : Nat → Int} {y i r r' : Int} (a : ShnR S y i r) (b : ShnR S y i r') : r = r' := by
  unfold ShnR at a b
  rcases a with ⟨a1, a2⟩ | ⟨a1, a2⟩ <;> rcases b with ⟨b1, b2⟩ | ⟨b1, b2⟩
  · omega
  · exact absurd b1 a1
  · exact absurd a1 b1
  · exact ShoR_u a2 b2
theorem DotR_u {S : Nat → Int} (hW : WF S) {x y r r' : Int} (a : DotR S x y r) (b : DotR S x y r') : r = r' := by
  unfold DotR at a b
  rcases a with ⟨a1, a2⟩ | ⟨a1, a2⟩ <;> rcases b with ⟨b1, b2⟩ | ⟨b1, b2⟩
  · omega
  · exact absurd b1 a1
  · exact absurd a1 b1
  · exact ColR_u hW a2 b2
theorem ClaR_u {S : Nat → Int} (hW : WF S) {w r r' : Int} (a : ClaR S w r) (b : ClaR S w r') : r = r' := by
  unfold ClaR at a b
  rcases a with ⟨a1, a2⟩ | ⟨a1, hr, a2, a3⟩ <;> rcases b with ⟨b1, b2⟩ | ⟨b1, hr', b2, b3⟩
  · omega
  · exact absurd b1 a1
  · exact absurd a1 b1
  · have e := HerR_u a2 b2
    subst e
    rcases a3 with a | ⟨a4, a5, a6⟩ | ⟨a4, p, a5, a6, a7, a8⟩ <;> rcases b3 with b | ⟨b4, b5, b6⟩ | ⟨b4, p', b5, b6, b7, b8⟩
    · omega
    · omega
    · omega
    · omega
    · omega
    · exact absurd b6 (a6 p' b5)
    · omega
    · exact absurd a6 (b6 p a5)
    · have e : p = p' := by
        rcases Nat.lt_trichotomy p p' with h | h | h
        · exact absurd a6 (b7 p h)
        · exact h
        · exact absurd b6 (a7 p' h)
      subst e
      rcases a8 with a | a | a <;> rcases b8 with b | b | b
      · omega
      · omega
      · omega
      · omega
      · omega
      · omega
      · omega
      · omega
      · exact FirR_u hW a.2 b.2
theorem WrsR_u {S : Nat → Int} {r m r' m' : Int} (a : WrsR S 48 r m) (b : WrsR S 48 r' m') : r = r' := by
  rcases a with ⟨a1, a2, a3⟩ | ⟨y, a1, a2, a3, a4, a5, a6⟩ <;> rcases b with ⟨b1, b2, b3⟩ | ⟨y', b1, b2, b3, b4, b5, b6⟩
  · omega
  · have := a3 y' b1; omega
  · have := b3 y a1; omega
  · rcases Nat.lt_trichotomy y y' with h | h | h
    · have := b6 y h
      have := a5 y' b1
      omega
    · omega
    · have := a6 y' h
      have := b5 y a1
      omega
theorem HinR_u {S : Nat → Int} {p f r r' : Int} (a : HinR S p f r) (b : HinR S p f r') : r = r' := by
  unfold HinR at a b
  rcases a with ⟨a1, a2⟩ | ⟨a1, a2⟩ <;> rcases b with ⟨b1, b2⟩ | ⟨b1, b2⟩
  · omega
  · exact absurd b1 a1
  · exact absurd a1 b1
  · omega
theorem AllR_u {S : Nat → Int} {r r' : Int} (a : AllR S r) (b : AllR S r') : r = r' := by
  rcases a with ⟨t, a1, a2, a3, a4⟩ | ⟨a1, a2⟩ <;> rcases b with ⟨t', b1, b2, b3, b4⟩ | ⟨b1, b2⟩
  · rcases Nat.lt_trichotomy t t' with h | h | h
    · exact absurd a3 (b4 t h)
    · omega
    · exact absurd b3 (a4 t' h)
  · exact absurd a3 (b2 t a1)
  · exact absurd b3 (a2 t' b1)
  · omega
theorem BstR_u {S : Nat → Int} {w r r' : Int} (a : BstR S w r) (b : BstR S w r') : r = r' := by
  unfold BstR at a b
  omega
end
section
/-! states of the class, what a call keeps -/
section
variable {S S' : Nat → Int} {n : Nat} {H : Nat → Nat → Int} {N : Nat} {T : Nat → Nat} {f : Nat} {G : Nat → Int} {h h1 h2 : St}
theorem CI.lk (hI : CI S n H N T f G h) (a : Fr 15 38 h h1) : CI S n H N T f G h1 := ⟨hI.1.fr a (by omega), hI.2.1.fr a (by omega), hI.2.2.1.fr a (by omega), hI.2.2.2.fr a (by omega)⟩
theorem psW (hn : n ≤ 5) (hW : WF S) (hH : ∀ j, j < n → WF (H j)) : ∀ j, j < psN n → WF (psH n H S j) := by
  intro j hj
  unfold psN at hj
  unfold psH
  by_cases z : n = 5
  · rw [if_pos z]
    by_cases z2 : j < 4
    · rw [if_pos z2]; exact hH _ (by omega)
    · rw [if_neg z2]; exact hW
  · rw [if_neg z]
    by_cases z2 : j < n
    · rw [if_pos z2]; exact hH _ z2
    · rw [if_neg z2]; exact hW
theorem psN_le (hn : n ≤ 5) : psN n ≤ 5 := by unfold psN; split <;> omega
end
theorem psN_pos (n : Nat) : 0 < psN n := by unfold psN; split <;> omega
theorem psH_last {n : Nat} (hn : n ≤ 5) (H : Nat → Nat → Int) (S : Nat → Int) : psH n H S (psN n - 1) = S := by
  unfold psN psH
  by_cases z : n = 5
  · rw [if_pos z, if_pos z, if_neg (by omega)]
  · rw [if_neg z, if_neg z]
    show (if n + 1 - 1 < n then H (n + 1 - 1) else S) = S
    rw [if_neg (by omega)]
/-! what a script makes of a state, beyond its bounds: a puppet's counts -/
def PX (S : Nat → Int) : Prop := ∀ p, p < 20 → S (26 + 9 * p + 7) ≤ S (26 + 9 * p + 8) ∧ S (26 + 9 * p + 8) ≤ S (26 + 9 * p + 6)
theorem PX.mo {S S' : Nat → Int} (h : PX S) (e : ∀ p, p < 20 → ∀ j, j < 3 → S' (26 + 9 * p + (6 + j)) = S (26 + 9 * p + (6 + j))) : PX S' := by
  intro p hp
  have e0 := e p hp 0 (by omega)
  have e1 := e p hp 1 (by omega)
  have e2 := e p hp 2 (by omega)
  simp only [Nat.add_zero, show 6 + 1 = 7 from rfl, show 6 + 2 = 8 from rfl] at e0 e1 e2
  rw [e0, e1, e2]
  exact h p hp
theorem PX.fr {S : Nat → Int} (h : PX S) (h0 : ∀ p, p < 20 → 0 ≤ S (26 + 9 * p + 6) ∧ 0 ≤ S (26 + 9 * p + 7)) (hd : Nat → Bool) : ∀ k, (∀ p, p < 20 → frC S hd k (26 + 9 * p + 7) ≤ frC S hd k (26 + 9 * p + 8) ∧ frC S hd k (26 + 9 * p + 8) ≤ frC S hd k (26 + 9 * p + 6) ∧ 0 ≤ frC S hd k (26 + 9 * p + 6) ∧ 0 ≤ frC S hd k (26 + 9 * p + 7) )
  | 0, p, hp => by
    have := h p hp
    have := h0 p hp
    show S _ ≤ S _ ∧ S _ ≤ S _ ∧ 0 ≤ S _ ∧ 0 ≤ S _
    omega
  | k + 1, p, hp => by
    have ih := PX.fr h h0 hd k p hp
    show frP (frC S hd k) (hd (od S k)) (od S k) _ ≤ frP (frC S hd k) (hd (od S k)) (od S k) _ ∧ frP (frC S hd k) (hd (od S k)) (od S k) _ ≤ frP (frC S hd k) (hd (od S k)) (od S k) _ ∧ 0 ≤ frP (frC S hd k) (hd (od S k)) (od S k) _ ∧ 0 ≤ frP (frC S hd k) (hd (od S k)) (od S k) _
    by_cases z : p = od S k
    · rw [← z, frP_6, frP_7, frP_8]
      cases hd p with
      | true =>
        simp only [if_true]
        split <;> omega
      | false =>
        simp only [Bool.false_eq_true, if_false]
        split <;> omega
    · rw [frP_o (by omega) (by omega) (by omega), frP_o (by omega) (by omega) (by omega), frP_o (by omega) (by omega) (by omega)]
      exact ih
theorem PX.frS {S : Nat → Int} (hW : WF S) (h : PX S) : PX (frS S) := by
  intro p hp
  have hw := hW.wp p hp
  rw [frS_c (by omega) (by omega), frS_c (by omega) (by omega), frS_c (by omega) (by omega)]
  have := PX.fr h (fun p hp => by have := hW.wp p hp; omega) (hdd S) (S 1).toNat p hp
  omega
theorem PX.cm {S : Nat → Int} {x y t g c : Int} (hW : WF S) (h : PX S) (h20 : S 0 ≠ 20) : PX (cmS S x y t g c) := by
  have hn := hW.n
  exact h.mo (fun p hp j hj => cmS_26 (by omega) (by omega) (fun i hi => by omega))
theorem PX.ord {S : Nat → Int} (h : PX S) (n : Nat) (o : Nat → Nat) : PX (ordS S n o) := h.mo (fun p hp j hj => by
  unfold ordS
  rw [if_neg (by omega), if_neg (by omega)])
theorem WF.ord {S : Nat → Int} (hW : WF S) {n : Nat} {o : Nat → Nat} (hn : n ≤ 20) (h : ∀ S', ROrd S n o S' → WF S') : WF (ordS S n o) := h _ (ro_ord S hn o)
end
section
/-! the law's own methods: low, there, digest -/
def lowA (v : Int32) : Nat := v.toBitVec.toNat % 2147483648
def lowN (v : Int32) (n : Nat) : Nat := lowA v % n
theorem lowA_lt (v : Int32) : lowA v < 2147483648 := Nat.mod_lt _ (by decide)
theorem lowN_lt (v : Int32) {n : Nat} (h : 0 < n) : lowN v n < n := Nat.mod_lt _ h
theorem v_nI (v : Int32) : v = nI v.toBitVec.toNat := by
  apply Int32.toBitVec_inj.1
  show v.toBitVec = BitVec.ofNat 32 v.toBitVec.toNat
  simp
theorem low_and (v : Int32) : v &&& 2147483647 = iI (lowA v : Nat) := by
  have h : nI v.toBitVec.toNat &&& nI 2147483647 = nI (v.toBitVec.toNat &&& 2147483647) := fa_and _ _
  rw [← v_nI v] at h
  rw [show (2147483647 : Nat) = 2 ^ 31 - 1 from rfl, Nat.and_two_pow_sub_one_eq_mod] at h
  exact h
theorem c_L_low {x y : Int32} {h : St} {Q : Option Value → St → Prop} (n : Nat) (hn : 0 < n) (hn2 : n < 2147483648) (hQ : Q (some (.int (iI (lowN x n : Nat)))) h) (hy : y = iI (n : Nat)) : SC y_L_low [.int x, .int y] h Q := by
  refine w_call IS_ok [] ok_L_low rfl rfl ?_
  have h1 := low_and x
  have h2 := modr h1 hy (by have := lowA_lt x; omega) (by omega) hn
  refine ⟨fun z => ?_, ?_⟩
  · rw [hy] at z
    exact absurd ((iI_eq (a := (n : Int)) (b := 0) (by omega) (by omega)).mp z) (by omega)
  · show Q (some (.int ((x &&& 2147483647) - (x &&& 2147483647) / y * y))) h
    rw [h2]
    exact hQ
/-- the puppet that the law takes: from k on, m tries left, so far q -/
def thF (S : Nat → Int) (v : Int32) : Nat → Nat → Nat → Nat
  | 0, _, q => q
  | m + 1, k, q => if S 0 ≤ 0 then q else if thr S (lowN (v + iI (k : Nat)) (S 0).toNat : Nat) then lowN (v + iI (k : Nat)) (S 0).toNat else thF S v m (k + 1) (lowN (v + iI (k : Nat)) (S 0).toNat)
def thV (S : Nat → Int) (v : Int32) : Nat := thF S v 12 0 0
theorem thF_b {S : Nat → Int} (h0 : S 0 ≤ 20) (v : Int32) : ∀ m k q, q < 20 → thF S v m k q < 20
  | 0, _, q, hq => hq
  | m + 1, k, q, hq => by
    unfold thF
    by_cases z : S 0 ≤ 0
    · rw [if_pos z]; exact hq
    · rw [if_neg z]
      have := lowN_lt (v + iI (k : Nat)) (n := (S 0).toNat) (by omega)
      split
      · omega
      · exact thF_b h0 v m (k + 1) _ (by omega)
theorem thV_b {S : Nat → Int} (hW : WF S) (v : Int32) : thV S v < 20 := thF_b hW.n.2.2.2.1 v 12 0 0 (by omega)
section
variable {S : Nat → Int} {n : Nat} {H : Nat → Nat → Int} {N : Nat} {T : Nat → Nat} {f : Nat} {G : Nat → Int} {h : St} {Q : Option Value → St → Prop}
theorem pup_x (hW : WF S) {p : Int} {r : Int} (h : PupR S p 0 r) : (r = -101 ↔ ¬ thr S p) ∧ rg r := by
  unfold PupR at h
  by_cases g : thr S p
  · have hb := thr_b hW g
    have := (hW.wp p.toNat (by omega)).1
    rcases h with ⟨h1, h2⟩ | ⟨h1, h2⟩
    · exact absurd ⟨g, by omega⟩ h1
    · have e : r = S (26 + 9 * p.toNat) := by
        rcases h2 with h2 | h2 | h2 | h2 | h2
        all_goals first | omega | exact h2.2
      exact ⟨⟨fun z => by omega, fun z => absurd g z⟩, by omega⟩
  · rcases h with ⟨h1, h2⟩ | ⟨h1, h2⟩
    · exact ⟨⟨fun _ => g, fun _ => h2⟩, by omega⟩
    · exact absurd h1.1 g
theorem cnt1 {r : Int} (h : CntR S n N 1 r) : r = S 0 := by unfold CntR at h; omega
theorem c_L_there {x : Int32} (hI : CI S n H N T f G h) (hW : WF S) (hQ : ∀ h', Fr 15 38 h h' → Q (some (.int (iI (thV S x : Nat)))) h') : SC y_L_there [.ref 0, .int x] h Q := by
  have hn := hW.n
  refine w_call IS_ok [11] ok_L_there rfl rfl ?_
  refine c_P_count hI hW 1 (fun h1 r f1 hr => ?_) rfl (by omega)
  rw [cnt1 hr]
  have loop : ∀ (m k q : Nat) (hc : St) (z2 z4 : Int32), k + m = 12 → q < 20 → Fr 15 38 h hc → z2 = iI (q : Nat) → z4 = iI (k : Nat) → thV S x = thF S x m k q → SR y_L_there 11 [some (.ref 0), some (.int x), some (.int z2), some (.int (iI (S 0))), some (.int z4)] [] hc Q := by
    intro m
    induction m with
    | zero =>
      intro k q hc z2 z4 hk hq fr e2 e4 ht
      refine w_loop IS_ok [11] ok_L_there ?_
      refine w_le 12 k (fun _ => ?_) (fun _ => by omega) rfl e4
      rw [e2]
      have := hQ hc fr
      rw [ht] at this
      exact this
    | succ m ih =>
      intro k q hc z2 z4 hk hq fr e2 e4 ht
      refine w_loop IS_ok [11] ok_L_there ?_
      refine w_le 12 k (fun _ => by omega) (fun _ => ?_) rfl e4
      unfold thF at ht
      refine w_le (S 0) 0 (fun g => ?_) (fun g => ?_) rfl rfl
      · rw [if_pos g] at ht
        rw [e2]
        have := hQ hc fr
        rw [ht] at this
        exact this
      rw [if_neg (by omega)] at ht
      refine c_L_low (S 0).toNat (by omega) (by omega) ?_ (congrArg iI (by omega))
      subst e4
      have hl := lowN_lt (x + iI (k : Nat)) (n := (S 0).toNat) (by omega)
      generalize lowN (x + iI (k : Nat)) (S 0).toNat = q' at ht hl ⊢
      refine c_P_puppet (hI.lk fr) hW q' 0 (fun h2 r f2 hr => ?_) rfl rfl (by omega) (by omega)
      obtain ⟨p1, p2⟩ := pup_x hW hr
      refine w_eq r (-101) (fun g => ?_) (fun g => ?_) rfl rfl p2
      · rw [if_neg (p1.mp g)] at ht
        exact ih (k + 1) q' h2 _ _ (by omega) (by omega) (fr.t f2) rfl (iI_1 rfl) ht
      · rw [if_pos (Classical.byContradiction (fun z => g (p1.mpr z)))] at ht
        have := hQ h2 (fr.t f2)
        rw [ht] at this
        exact this
  exact loop 12 0 0 h1 _ _ rfl (by omega) f1 rfl rfl rfl
theorem divr {x y : Int32} {a b : Nat} (hx : x = iI a) (hy : y = iI b) (ha : a < 2 ^ 31) (hb : b < 2 ^ 31) (h0 : 0 < b) : x / y = iI ((a / b : Nat) : Int) := by
  rw [hx, hy, ← iI_nat, ← iI_nat, pk_div ha h0 hb]
  rfl
/-! the digest of a state -/
noncomputable def cntV (S : Nat → Int) (w : Int) : Int := @Classical.epsilon Int ⟨0⟩ (fun r => CntR S 0 0 w r)
noncomputable def pupV (S : Nat → Int) (p w : Int) : Int := @Classical.epsilon Int ⟨0⟩ (fun r => PupR S p w r)
theorem cntV_is {w r : Int} (hw : w < 9) (h : CntR S n N w r) : r = cntV S w := by
  have h0 : CntR S 0 0 w r := by
    unfold CntR at h ⊢
    rcases h with h | h | h | h | h | h | h | h | h | h | h | h
    · exact Or.inl h
    · exact Or.inr (Or.inl h)
    · exact Or.inr (Or.inr (Or.inl h))
    · exact Or.inr (Or.inr (Or.inr (Or.inl h)))
    · exact Or.inr (Or.inr (Or.inr (Or.inr (Or.inl h))))
    · exact Or.inr (Or.inr (Or.inr (Or.inr (Or.inr (Or.inl h)))))
    · exact Or.inr (Or.inr (Or.inr (Or.inr (Or.inr (Or.inr (Or.inl h))))))
    · exact Or.inr (Or.inr (Or.inr (Or.inr (Or.inr (Or.inr (Or.inr (Or.inl h)))))))
    · exact Or.inr (Or.inr (Or.inr (Or.inr (Or.inr (Or.inr (Or.inr (Or.inr (Or.inl h))))))))
    · exact absurd h.1 (by omega)
    · exact absurd h.1 (by omega)
    · exact Or.inr (Or.inr (Or.inr (Or.inr (Or.inr (Or.inr (Or.inr (Or.inr (Or.inr (Or.inr (Or.inr (h)))))))))))
  exact CntR_u h0 (@Classical.epsilon_spec Int (fun r => CntR S 0 0 w r) ⟨r, h0⟩)
theorem pupV_is {p w r : Int} (h : PupR S p w r) : r = pupV S p w := PupR_u h (@Classical.epsilon_spec Int (fun r => PupR S p w r) ⟨r, h⟩)
noncomputable def dgA (S : Nat → Int) : Nat → Int64
  | 0 => Int64.ofNat 3
  | k + 1 => Int64.ofNat 31 * dgA S k + (iI (cntV S (k : Int))).toInt64
noncomputable def dgB (S : Nat → Int) : Nat → Int64
  | 0 => dgA S 9
  | k + 1 => Int64.ofNat 31 * dgB S k + (iI (pupV S ((k / 12 : Nat) : Int) ((k % 12 : Nat) : Int))).toInt64
theorem c_L_digest (hI : CI S n H N T f G h) (hW : WF S) (hQ : ∀ h', Fr 15 38 h h' → Q (some (.long (dgB S 120))) h') : SC y_L_digest [.ref 0] h Q := by
  refine w_call IS_ok [6] ok_L_digest rfl rfl ?_
  have loopB : ∀ (m k : Nat) (hc : St) (z1 : Int64) (z3 : Int32), k + m = 120 → Fr 15 38 h hc → z1 = dgB S k → z3 = iI (k : Nat) → SR y_L_digest 33 [some (.ref 0), some (.long z1), none, some (.int z3)] [] hc Q := by
    intro m
    induction m with
    | zero =>
      intro k hc z1 z3 hk fr e1 e3
      refine w_loop IS_ok [33] ok_L_digest ?_
      refine w_le 120 k (fun _ => ?_) (fun _ => by omega) rfl e3
      have := hQ hc fr
      have hk : k = 120 := by omega
      rw [e1, hk]
      exact this
    | succ m ih =>
      intro k hc z1 z3 hk fr e1 e3
      refine w_loop IS_ok [33] ok_L_digest ?_
      refine w_le 120 k (fun _ => by omega) (fun _ => ?_) rfl e3
      refine ⟨by decide, ?_⟩
      refine ⟨by decide, ?_⟩
      refine c_P_puppet (hI.lk fr) hW ((k / 12 : Nat) : Int) ((k % 12 : Nat) : Int) (fun h2 r f2 hr => ?_) (divr (b := 12) e3 rfl (by omega) (by omega) (by omega)) (modr (b := 12) e3 rfl (by omega) (by omega) (by omega)) (by omega) (by omega)
      rw [pupV_is hr]
      refine ih (k + 1) h2 _ _ (by omega) (fr.t f2) ?_ (iI_1 e3)
      rw [e1]
      rfl
  have loopA : ∀ (m k : Nat) (hc : St) (z1 : Int64) (z3 : Int32), k + m = 9 → Fr 15 38 h hc → z1 = dgA S k → z3 = iI (k : Nat) → SR y_L_digest 6 [some (.ref 0), some (.long z1), none, some (.int z3)] [] hc Q := by
    intro m
    induction m with
    | zero =>
      intro k hc z1 z3 hk fr e1 e3
      refine w_loop IS_ok [6, 33] ok_L_digest ?_
      refine w_le 9 k (fun _ => ?_) (fun _ => by omega) rfl e3
      have hk : k = 9 := by omega
      refine loopB 120 0 hc _ _ rfl fr ?_ rfl
      rw [e1, hk]
      rfl
    | succ m ih =>
      intro k hc z1 z3 hk fr e1 e3
      refine w_loop IS_ok [6, 33] ok_L_digest ?_
      refine w_le 9 k (fun _ => by omega) (fun _ => ?_) rfl e3
      refine c_P_count (hI.lk fr) hW k (fun h2 r f2 hr => ?_) e3 (by omega)
      rw [cntV_is (by omega) hr]
      refine ih (k + 1) h2 _ _ (by omega) (fr.t f2) ?_ (iI_1 e3)
      rw [e1]
      rfl
  exact loopA 9 0 h _ _ rfl Fr.rf rfl rfl
end
end
section
/-! the law's own methods: an act -/
def kkN (v : Int32) : Nat := v.toBitVec.toNat % 16
theorem kkN_lt (v : Int32) : kkN v < 16 := Nat.mod_lt _ (by decide)
theorem kk_and (v : Int32) : v &&& 15 = iI (kkN v : Nat) := by
  have h : nI v.toBitVec.toNat &&& nI 15 = nI (v.toBitVec.toNat &&& 15) := fa_and _ _
  rw [← v_nI v] at h
  rw [show (15 : Nat) = 2 ^ 4 - 1 from rfl, Nat.and_two_pow_sub_one_eq_mod] at h
  exact h
def sh (v k : Int32) : Int32 := v >>> (k &&& 31)
def t1N (v : Int32) : Nat := (sh v 14).toBitVec.toNat % 2
theorem t1_and (v : Int32) : sh v 14 &&& 1 = iI (t1N v : Nat) := by
  have h : nI (sh v 14).toBitVec.toNat &&& nI 1 = nI ((sh v 14).toBitVec.toNat &&& 1) := fa_and _ _
  rw [← v_nI (sh v 14)] at h
  rw [show (1 : Nat) = 2 ^ 1 - 1 from rfl, Nat.and_two_pow_sub_one_eq_mod] at h
  exact h
/-- an act of the law: what it answers, and the state behind it -/
noncomputable def actR (S : Nat → Int) (v : Int32) : Int × (Nat → Int) :=
  if kkN v = 0 then (S (206 + 8 * lowN (sh v 4) 8 + lowN (sh v 7) 8), u1 S (206 + 8 * lowN (sh v 4) 8 + lowN (sh v 7) 8) (lowN (sh v 10) 256 : Nat))
  else if kkN v = 1 then (if thr S (thV S (sh v 4) : Nat) then (pos S (thV S (sh v 4) : Nat) (S 1).toNat, ordS S ((S 1).toNat - 1) (outO (od S) (pos S (thV S (sh v 4) : Nat) (S 1).toNat).toNat)) else (-101, S))
  else if kkN v = 2 then (if thr S (thV S (sh v 4) : Nat) then ((lns (mvS S (thV S (sh v 4)) ((lowN (sh v 8) 79 : Nat) - 15) ((lowN (sh v 12) 63 : Nat) - 15)) (thV S (sh v 4)) 48 : Nat), mvS S (thV S (sh v 4)) ((lowN (sh v 8) 79 : Nat) - 15) ((lowN (sh v 12) 63 : Nat) - 15)) else (-101, S))
  else if kkN v = 3 then (if thr S (thV S (sh v 4) : Nat) then (S (26 + 9 * thV S (sh v 4) + 5), u1 S (26 + 9 * thV S (sh v 4) + 5) (lowN (sh v 8) 4 : Nat)) else (-101, S))
  else if kkN v = 4 then (if thr S (thV S (sh v 4) : Nat) then (pos S (thV S (sh v 4) : Nat) (S 1).toNat, ordS S (S 1).toNat (lftO (od S) (pos S (thV S (sh v 4) : Nat) (S 1).toNat).toNat)) else (-101, S))
  else if kkN v = 5 then (if thr S (thV S (sh v 4) : Nat) then (pos S (thV S (sh v 4) : Nat) (S 1).toNat, ordS S (S 1).toNat (lowO (od S) (pos S (thV S (sh v 4) : Nat) (S 1).toNat).toNat (S 1).toNat)) else (-101, S))
  else if kkN v = 6 then (S 2, u1 S 2 (1 + (lowN (sh v 4) 4 : Nat)))
  else if kkN v = 7 then (S 3, u1 (u1 S 3 (lowN (sh v 4) 3 : Nat)) 4 (1 + (lowN (sh v 6) 19 : Nat)))
  else if kkN v < 12 then ((hidN S : Nat), frS S)
  else if S 0 = 20 then (-103, S)
  else (S 0, cmS S ((lowN (sh v 4) 40 : Nat) - 8) ((lowN (sh v 9) 30 : Nat) - 10) (t1N v : Nat) (lowN (sh v 15) 8 : Nat) (1 + (lowN (sh v 18) 9 : Nat)))
theorem actR_lo (S : Nat → Int) (v : Int32) (hS : WF S) : (actR S v).1 < 0 → (actR S v).2 = S := by
  have hn := hS.n
  have hp : ∀ p : Int, thr S p → ¬ (pos S p (S 1).toNat < 0) := fun p g => by have := thr_pos g; omega
  unfold actR
  by_cases k0 : kkN v = 0
  · rw [if_pos k0]
    intro z
    have := hS.pic (i := 8 * lowN (sh v 4) 8 + lowN (sh v 7) 8) (by have := lowN_lt (sh v 4) (n := 8) (by omega); have := lowN_lt (sh v 7) (n := 8) (by omega); omega)
    rw [show 206 + (8 * lowN (sh v 4) 8 + lowN (sh v 7) 8) = 206 + 8 * lowN (sh v 4) 8 + lowN (sh v 7) 8 by omega] at this
    dsimp only at z
    omega
  rw [if_neg k0]
  by_cases k1 : kkN v = 1
  · rw [if_pos k1]
    by_cases g : thr S (thV S (sh v 4) : Nat)
    · rw [if_pos g]; intro z; exact absurd z (hp _ g)
    · rw [if_neg g]; intro _; rfl
  rw [if_neg k1]
  by_cases k2 : kkN v = 2
  · rw [if_pos k2]
    by_cases g : thr S (thV S (sh v 4) : Nat)
    · rw [if_pos g]; intro z; dsimp only at z; omega
    · rw [if_neg g]; intro _; rfl
  rw [if_neg k2]
  by_cases k3 : kkN v = 3
  · rw [if_pos k3]
    by_cases g : thr S (thV S (sh v 4) : Nat)
    · rw [if_pos g]; intro z
      have := (hS.wp _ (thV_b hS (sh v 4))).2.2.2.2.2.1
      dsimp only at z; omega
    · rw [if_neg g]; intro _; rfl
  rw [if_neg k3]
  by_cases k4 : kkN v = 4
  · rw [if_pos k4]
    by_cases g : thr S (thV S (sh v 4) : Nat)
    · rw [if_pos g]; intro z; exact absurd z (hp _ g)
    · rw [if_neg g]; intro _; rfl
  rw [if_neg k4]
  by_cases k5 : kkN v = 5
  · rw [if_pos k5]
    by_cases g : thr S (thV S (sh v 4) : Nat)
    · rw [if_pos g]; intro z; exact absurd z (hp _ g)
    · rw [if_neg g]; intro _; rfl
  rw [if_neg k5]
  by_cases k6 : kkN v = 6
  · rw [if_pos k6]; intro z; have := hS.lim; dsimp only at z; omega
  rw [if_neg k6]
  by_cases k7 : kkN v = 7
  · rw [if_pos k7]; intro z; have := hS.2.2.2.1; dsimp only at z; omega
  rw [if_neg k7]
  by_cases k8 : kkN v < 12
  · rw [if_pos k8]; intro z; dsimp only at z; omega
  rw [if_neg k8]
  by_cases k9 : S 0 = 20
  · rw [if_pos k9]; intro _; rfl
  · rw [if_neg k9]; intro z; dsimp only at z; omega
/-- what holds between the law's calls -/
def WX (S : Nat → Int) (t : Nat) : Prop := WF S ∧ PX S ∧ S 5 ≤ t
theorem WX.mo {S : Nat → Int} {t u : Nat} (h : WX S t) (htu : t ≤ u) : WX S u := ⟨h.1, h.2.1, by have := h.2.2; omega⟩
theorem fr5 (S : Nat → Int) : frS S 5 = S 5 + 1 := by unfold frS; rw [if_pos rfl]
theorem ordS_5 (S : Nat → Int) (n : Nat) (o : Nat → Nat) : ordS S n o 5 = S 5 := by unfold ordS; rw [if_neg (by omega), if_neg (by omega)]
theorem WX.ord {S : Nat → Int} {t : Nat} (h : WX S t) {n : Nat} {o : Nat → Nat} (hn : n ≤ 20) (hw : ∀ S', ROrd S n o S' → WF S') : WX (ordS S n o) t := ⟨h.1.ord hn hw, h.2.1.ord n o, by rw [ordS_5]; exact h.2.2⟩
theorem WX.out {S : Nat → Int} {t : Nat} (h : WX S t) {p : Int} (g : thr S p) : WX (ordS S ((S 1).toNat - 1) (outO (od S) (pos S p (S 1).toNat).toNat)) t := h.ord (by have := h.1.n; omega) (fun S' hR => wf_out h.1 (thr_pos g).1 hR)
theorem WX.lft {S : Nat → Int} {t : Nat} (h : WX S t) {p : Int} (g : thr S p) : WX (ordS S (S 1).toNat (lftO (od S) (pos S p (S 1).toNat).toNat)) t := h.ord h.1.n.2.1 (fun S' hR => wf_lft h.1 (thr_pos g).1 hR)
theorem WX.low {S : Nat → Int} {t : Nat} (h : WX S t) {p : Int} (g : thr S p) : WX (ordS S (S 1).toNat (lowO (od S) (pos S p (S 1).toNat).toNat (S 1).toNat)) t := h.ord h.1.n.2.1 (fun S' hR => wf_low h.1 (thr_pos g).1 hR)
theorem WX.mv {S : Nat → Int} {t : Nat} (h : WX S t) {p : Nat} (g : thr S p) {x y : Int} (hx : -15 ≤ x ∧ x ≤ 63) (hy : -15 ≤ y ∧ y ≤ 47) : WX (mvS S p x y) t := by
  have hb := thr_b h.1 g
  refine ⟨h.1.mv (by omega) hx hy, h.2.1.mo (fun q hq j hj => mvS_n (by omega) (by omega)), ?_⟩
  rw [mvS_n (by omega) (by omega)]
  exact h.2.2
theorem WX.tu {S : Nat → Int} {t : Nat} (h : WX S t) {p : Nat} (g : thr S p) {l : Int} (hl : 0 ≤ l ∧ l ≤ 3) : WX (u1 S (26 + 9 * p + 5) l) t := by
  have hb := thr_b h.1 g
  refine ⟨h.1.tu (by omega) hl, h.2.1.mo (fun q hq j hj => u1_n _ _ (by omega)), ?_⟩
  rw [u1_n _ _ (by omega)]
  exact h.2.2
theorem WX.li {S : Nat → Int} {t : Nat} (h : WX S t) {l : Int} (hl : 1 ≤ l ∧ l ≤ 8) : WX (u1 S 2 l) t := ⟨h.1.li hl, h.2.1.mo (fun q hq j hj => u1_n _ _ (by omega)), by rw [u1_n _ _ (by omega)]; exact h.2.2⟩
theorem WX.ru {S : Nat → Int} {t : Nat} (h : WX S t) {a b : Int} (ha : 0 ≤ a ∧ a ≤ 2) (hb : 1 ≤ b ∧ b ≤ 19) : WX (u1 (u1 S 3 a) 4 b) t := ⟨h.1.ru ha hb, h.2.1.mo (fun q hq j hj => by rw [u1_n _ _ (by omega), u1_n _ _ (by omega)]), by rw [u1_n _ _ (by omega), u1_n _ _ (by omega)]; exact h.2.2⟩
theorem WX.pi {S : Nat → Int} {t : Nat} (h : WX S t) {a b : Nat} (ha : a < 8) (hb : b < 8) {c : Int} (hc : 0 ≤ c ∧ c ≤ 255) : WX (u1 S (206 + 8 * a + b) c) t := by
  have := h.1.pi (k := 8 * a + b) (by omega) hc
  rw [show 206 + (8 * a + b) = 206 + 8 * a + b by omega] at this
  exact ⟨this, h.2.1.mo (fun q hq j hj => u1_n _ _ (by omega)), by rw [u1_n _ _ (by omega)]; exact h.2.2⟩
theorem WX.fr {S : Nat → Int} {t : Nat} (h : WX S t) (ht : t < 9999) : WX (frS S) (t + 1) := by
  have h5 := h.2.2
  exact ⟨wf_fr h.1 (rf_fr h.1) (by omega), h.2.1.frS h.1, by rw [fr5]; omega⟩
theorem cmS_5 (S : Nat → Int) (x y t g c : Int) (hn : (S 1).toNat < 20) : cmS S x y t g c 5 = S 5 := by
  rw [cmS_lo (by omega), u1_n _ _ (by omega), u1_n _ _ (by omega), u1_n _ _ (by omega)]
theorem WX.cm {S : Nat → Int} {u : Nat} (h : WX S u) {x y t g c : Int} (h20 : S 0 ≠ 20) (hx : -15 ≤ x ∧ x ≤ 63) (hy : -15 ≤ y ∧ y ≤ 47) (ht : 0 ≤ t ∧ t ≤ 1) (hg : 0 ≤ g ∧ g ≤ 7) (hc : 1 ≤ c ∧ c ≤ 9) : WX (cmS S x y t g c) u := by
  have hn := h.1.n
  exact ⟨wf_cm h.1 h20 hx hy ht hg hc, h.2.1.cm h.1 h20, by rw [cmS_5 _ _ _ _ _ _ (by omega)]; exact h.2.2⟩
theorem t1N_lt (v : Int32) : t1N v < 2 := Nat.mod_lt _ (by decide)
theorem actR_W {S : Nat → Int} {t : Nat} (h : WX S t) (ht : t < 9999) (v : Int32) : WX (actR S v).2 (t + 1) := by
  have hu := h.mo (show t ≤ t + 1 by omega)
  have l : ∀ (x : Int32) (n : Nat), 0 < n → (0 : Int) ≤ (lowN x n : Nat) ∧ (lowN x n : Nat) < (n : Int) := fun x n hn => by have := lowN_lt x hn; omega
  unfold actR
  by_cases k0 : kkN v = 0
  · rw [if_pos k0]
    exact hu.pi (lowN_lt _ (by omega)) (lowN_lt _ (by omega)) (by have := l (sh v 10) 256 (by omega); omega)
  rw [if_neg k0]
  by_cases k1 : kkN v = 1
  · rw [if_pos k1]
    by_cases g : thr S (thV S (sh v 4) : Nat)
    · rw [if_pos g]; exact hu.out g
    · rw [if_neg g]; exact hu
  rw [if_neg k1]
  by_cases k2 : kkN v = 2
  · rw [if_pos k2]
    by_cases g : thr S (thV S (sh v 4) : Nat)
    · rw [if_pos g]; exact hu.mv g (by have := l (sh v 8) 79 (by omega); omega) (by have := l (sh v 12) 63 (by omega); omega)
    · rw [if_neg g]; exact hu
  rw [if_neg k2]
  by_cases k3 : kkN v = 3
  · rw [if_pos k3]
    by_cases g : thr S (thV S (sh v 4) : Nat)
    · rw [if_pos g]; exact hu.tu g (by have := l (sh v 8) 4 (by omega); omega)
    · rw [if_neg g]; exact hu
  rw [if_neg k3]
  by_cases k4 : kkN v = 4
  · rw [if_pos k4]
    by_cases g : thr S (thV S (sh v 4) : Nat)
    · rw [if_pos g]; exact hu.lft g
    · rw [if_neg g]; exact hu
  rw [if_neg k4]
  by_cases k5 : kkN v = 5
  · rw [if_pos k5]
    by_cases g : thr S (thV S (sh v 4) : Nat)
    · rw [if_pos g]; exact hu.low g
    · rw [if_neg g]; exact hu
  rw [if_neg k5]
  by_cases k6 : kkN v = 6
  · rw [if_pos k6]; exact hu.li (by have := l (sh v 4) 4 (by omega); omega)
  rw [if_neg k6]
  by_cases k7 : kkN v = 7
  · rw [if_pos k7]; exact hu.ru (by have := l (sh v 4) 3 (by omega); omega) (by have := l (sh v 6) 19 (by omega); omega)
  rw [if_neg k7]
  by_cases k8 : kkN v < 12
  · rw [if_pos k8]; exact h.fr ht
  rw [if_neg k8]
  by_cases k9 : S 0 = 20
  · rw [if_pos k9]; exact hu
  · rw [if_neg k9]
    exact hu.cm k9 (by have := l (sh v 4) 40 (by omega); omega) (by have := l (sh v 9) 30 (by omega); omega) (by have := t1N_lt v; omega) (by have := l (sh v 15) 8 (by omega); omega) (by have := l (sh v 18) 9 (by omega); omega)
theorem actR_fr {S : Nat → Int} {v : Int32} (h1 : 7 < kkN v) (h2 : kkN v < 12) : (actR S v).1 = hidN S := by
  unfold actR
  rw [if_neg (by omega), if_neg (by omega), if_neg (by omega), if_neg (by omega), if_neg (by omega), if_neg (by omega), if_neg (by omega), if_neg (by omega), if_pos h2]
section
variable {S : Nat → Int} {n : Nat} {H : Nat → Nat → Int} {N : Nat} {T : Nat → Nat} {f : Nat} {G : Nat → Int} {h : St} {Q : Option Value → St → Prop}
set_option maxHeartbeats 4000000 in
theorem c_L_act {x : Int32} (hI : CI S n H N T f G h) (hW : WF S) (hn : n ≤ 5) (h5 : S 5 ≠ 9999) (hQ0 : (actR S x).1 < 0 → ∀ h', Fr 0 90 h h' → CI S n H N T f G h' → Q (some (.int (iI (actR S x).1))) h') (hQ1 : 0 ≤ (actR S x).1 → ∀ h', Fr 0 90 h h' → CI (actR S x).2 (psN n) (psH n H S) N T f G h' → Q (some (.int (iI (actR S x).1))) h') : SC y_L_act [.ref 0, .int x] h Q := by
  have hs := hW.n
  have l : ∀ (x : Int32) (n : Nat), 0 < n → (0 : Int) ≤ (lowN x n : Nat) ∧ (lowN x n : Nat) < (n : Int) := fun x n hn => by have := lowN_lt x hn; omega
  have hq := thV_b hW (sh x 4)
  refine w_call IS_ok [] ok_L_act rfl rfl ?_
  refine c_L_there hI hW (fun h1 f1 => ?_)
  have hI1 := hI.lk f1
  have f1' := f1.w (show 0 ≤ 15 by omega) (show 38 ≤ 90 by omega)
  have hk := kk_and x
  have hkl := kkN_lt x
  have q0 : ∀ (k : Int) (w : Int32), k < 0 → w = iI k → (actR S x).1 = k → ∀ h', Fr 0 90 h1 h' → CI S n H N T f G h' → Q (some (.int w)) h' := fun k w hk0 hw e h' f2 hI' => by
    have := hQ0 (by omega) h' (f1'.t f2) hI'
    rw [e] at this
    rw [hw]
    exact this
  have q1 : ∀ (k : Int) (S' : Nat → Int), 0 ≤ k → actR S x = (k, S') → ∀ h', Fr 0 90 h1 h' → CI S' (psN n) (psH n H S) N T f G h' → Q (some (.int (iI k))) h' := fun k S' hk0 e h' f2 hI' => by
    have := hQ1 (by rw [e]; exact hk0) h' (f1'.t f2) (by rw [e]; exact hI')
    rw [e] at this
    exact this
  refine w_eq (kkN x) 0 (fun k0 => ?_) (fun k0 => ?_) hk rfl
  · have k0 : kkN x = 0 := by omega
    refine c_L_low 8 (by omega) (by omega) ?_ rfl
    refine c_L_low 8 (by omega) (by omega) ?_ rfl
    refine c_L_low 256 (by omega) (by omega) ?_ rfl
    have l1 := l (sh x 4) 8 (by omega)
    have l2 := l (sh x 7) 8 (by omega)
    have l3 := l (sh x 10) 256 (by omega)
    have e : actR S x = (S (206 + 8 * lowN (sh x 4) 8 + lowN (sh x 7) 8), u1 S (206 + 8 * lowN (sh x 4) 8 + lowN (sh x 7) 8) (lowN (sh x 10) 256 : Nat)) := by unfold actR; rw [if_pos k0]
    have hp := hW.pic (i := 8 * lowN (sh x 4) 8 + lowN (sh x 7) 8) (by omega)
    rw [show 206 + (8 * lowN (sh x 4) 8 + lowN (sh x 7) 8) = 206 + 8 * lowN (sh x 4) 8 + lowN (sh x 7) 8 by omega] at hp
    exact c_P_setRow hI1 hW hn (lowN (sh x 4) 8 : Nat) (lowN (sh x 7) 8 : Nat) (lowN (sh x 10) 256 : Nat) (fun g => absurd (by omega) g) (fun _ h' f2 hI' => q1 _ _ hp.1 e h' f2 hI') rfl rfl rfl (by omega) (by omega) (by omega)
  have k0' : ¬ kkN x = 0 := by omega
  refine w_eq (kkN x) 1 (fun k1 => ?_) (fun k1 => ?_) hk rfl
  · have k1 : kkN x = 1 := by omega
    refine c_P_leave hI1 hW hn (thV S (sh x 4) : Nat) (fun g h' f2 hI' => q0 (-101) _ (by omega) rfl (by unfold actR; rw [if_neg k0', if_pos k1, if_neg g]) h' f2 hI') (fun g h' f2 hI' => q1 _ _ ?_ (by unfold actR; rw [if_neg k0', if_pos k1, if_pos g]) h' f2 hI') rfl (by omega)
    have := thr_pos g
    omega
  have k1' : ¬ kkN x = 1 := by omega
  refine w_eq (kkN x) 2 (fun k2 => ?_) (fun k2 => ?_) hk rfl
  · have k2 : kkN x = 2 := by omega
    refine c_L_low 79 (by omega) (by omega) ?_ rfl
    refine c_L_low 63 (by omega) (by omega) ?_ rfl
    have l1 := l (sh x 8) 79 (by omega)
    have l2 := l (sh x 12) 63 (by omega)
    refine c_P_move hI1 hW hn (thV S (sh x 4) : Nat) ((lowN (sh x 8) 79 : Nat) - 15) ((lowN (sh x 12) 63 : Nat) - 15) (fun g h' f2 hI' => q0 (-101) _ (by omega) rfl (by unfold actR; rw [if_neg k0', if_neg k1', if_pos k2, if_neg (fun z => g ⟨z, by omega, by omega⟩)]) h' f2 hI') (fun g h' f2 hI' => q1 _ _ (by omega) (by unfold actR; rw [if_neg k0', if_neg k1', if_pos k2, if_pos g.1]; rfl) h' f2 hI') rfl (iI_sub ((lowN (sh x 8) 79 : Nat) : Int) 15) (iI_sub ((lowN (sh x 12) 63 : Nat) : Int) 15) (by omega) (by omega) (by omega)
  have k2' : ¬ kkN x = 2 := by omega
  refine w_eq (kkN x) 3 (fun k3 => ?_) (fun k3 => ?_) hk rfl
  · have k3 : kkN x = 3 := by omega
    refine c_L_low 4 (by omega) (by omega) ?_ rfl
    have l1 := l (sh x 8) 4 (by omega)
    have hf := (hW.wp _ hq).2.2.2.2.2.1
    refine c_P_turn hI1 hW hn (thV S (sh x 4) : Nat) (lowN (sh x 8) 4 : Nat) (fun g h' f2 hI' => q0 (-101) _ (by omega) rfl (by unfold actR; rw [if_neg k0', if_neg k1', if_neg k2', if_pos k3, if_neg (fun z => g ⟨z, by omega⟩)]) h' f2 hI') (fun g h' f2 hI' => q1 _ _ hf.1 (by unfold actR; rw [if_neg k0', if_neg k1', if_neg k2', if_pos k3, if_pos g.1]; rfl) h' f2 hI') rfl rfl (by omega) (by omega)
  have k3' : ¬ kkN x = 3 := by omega
  refine w_eq (kkN x) 4 (fun k4 => ?_) (fun k4 => ?_) hk rfl
  · have k4 : kkN x = 4 := by omega
    refine c_P_lift hI1 hW hn (thV S (sh x 4) : Nat) (fun g h' f2 hI' => q0 (-101) _ (by omega) rfl (by unfold actR; rw [if_neg k0', if_neg k1', if_neg k2', if_neg k3', if_pos k4, if_neg g]) h' f2 hI') (fun g h' f2 hI' => q1 _ _ ?_ (by unfold actR; rw [if_neg k0', if_neg k1', if_neg k2', if_neg k3', if_pos k4, if_pos g]) h' f2 hI') rfl (by omega)
    have := thr_pos g
    omega
  have k4' : ¬ kkN x = 4 := by omega
  refine w_eq (kkN x) 5 (fun k5 => ?_) (fun k5 => ?_) hk rfl
  · have k5 : kkN x = 5 := by omega
    refine c_P_lower hI1 hW hn (thV S (sh x 4) : Nat) (fun g h' f2 hI' => q0 (-101) _ (by omega) rfl (by unfold actR; rw [if_neg k0', if_neg k1', if_neg k2', if_neg k3', if_neg k4', if_pos k5, if_neg g]) h' f2 hI') (fun g h' f2 hI' => q1 _ _ ?_ (by unfold actR; rw [if_neg k0', if_neg k1', if_neg k2', if_neg k3', if_neg k4', if_pos k5, if_pos g]) h' f2 hI') rfl (by omega)
    have := thr_pos g
    omega
  have k5' : ¬ kkN x = 5 := by omega
  refine w_eq (kkN x) 6 (fun k6 => ?_) (fun k6 => ?_) hk rfl
  · have k6 : kkN x = 6 := by omega
    refine c_L_low 4 (by omega) (by omega) ?_ rfl
    have l1 := l (sh x 4) 4 (by omega)
    have hl := hW.lim
    exact c_P_setLimit hI1 hW hn (1 + (lowN (sh x 4) 4 : Nat)) (fun g => absurd (by omega) g) (fun g h' f2 hI' => q1 _ _ (by omega) (by unfold actR; rw [if_neg k0', if_neg k1', if_neg k2', if_neg k3', if_neg k4', if_neg k5', if_pos k6]) h' f2 hI') (iI_add 1 ((lowN (sh x 4) 4 : Nat) : Int)) (by omega)
  have k6' : ¬ kkN x = 6 := by omega
  refine w_eq (kkN x) 7 (fun k7 => ?_) (fun k7 => ?_) hk rfl
  · have k7 : kkN x = 7 := by omega
    refine c_L_low 3 (by omega) (by omega) ?_ rfl
    refine c_L_low 19 (by omega) (by omega) ?_ rfl
    have l1 := l (sh x 4) 3 (by omega)
    have l2 := l (sh x 6) 19 (by omega)
    have hr := hW.2.2.2.1
    exact c_P_setRule hI1 hW hn (lowN (sh x 4) 3 : Nat) (1 + (lowN (sh x 6) 19 : Nat)) (fun g => absurd (by omega) g) (fun g h' f2 hI' => q1 _ _ hr.1 (by unfold actR; rw [if_neg k0', if_neg k1', if_neg k2', if_neg k3', if_neg k4', if_neg k5', if_neg k6', if_pos k7]) h' f2 hI') rfl (iI_add 1 ((lowN (sh x 6) 19 : Nat) : Int)) (by omega) (by omega)
  have k7' : ¬ kkN x = 7 := by omega
  have hfr : kkN x < 12 → SC y_P_frame [.ref 0] h1 (fun r h' => ∃ v, r = some (.int v) ∧ Q (some (.int v)) h') := fun k8 => by
    exact c_P_frame hI1 hW hn (fun g => absurd g h5) (fun g h' f2 hI' => ⟨_, rfl, q1 _ _ (by omega) (by unfold actR; rw [if_neg k0', if_neg k1', if_neg k2', if_neg k3', if_neg k4', if_neg k5', if_neg k6', if_neg k7', if_pos k8]) h' f2 hI'⟩)
  have hfr2 : kkN x < 12 → SC y_P_frame [.ref 0] h1 Q := fun k8 => by
    exact c_P_frame hI1 hW hn (fun g => absurd g h5) (fun g h' f2 hI' => q1 _ _ (by omega) (by unfold actR; rw [if_neg k0', if_neg k1', if_neg k2', if_neg k3', if_neg k4', if_neg k5', if_neg k6', if_neg k7', if_pos k8]) h' f2 hI')
  have fin : kkN x < 12 → ∀ (K : Option Value → St → Prop), (∀ v h', Q (some (.int v)) h' → K (some (.int v)) h') → SC y_P_frame [.ref 0] h1 K := fun k8 K hK => by
    exact c_P_frame hI1 hW hn (fun g => absurd g h5) (fun g h' f2 hI' => hK _ _ (q1 _ _ (by omega) (by unfold actR; rw [if_neg k0', if_neg k1', if_neg k2', if_neg k3', if_neg k4', if_neg k5', if_neg k6', if_neg k7', if_pos k8]) h' f2 hI'))
  refine w_eq (kkN x) 8 (fun k8 => ?_) (fun k8 => ?_) hk rfl
  · exact fin (by omega) _ (fun _ _ z => z)
  refine w_eq (kkN x) 9 (fun k9 => ?_) (fun k9 => ?_) hk rfl
  · exact fin (by omega) _ (fun _ _ z => z)
  refine w_eq (kkN x) 10 (fun k10 => ?_) (fun k10 => ?_) hk rfl
  · exact fin (by omega) _ (fun _ _ z => z)
  refine w_eq (kkN x) 11 (fun k11 => ?_) (fun k11 => ?_) hk rfl
  · exact fin (by omega) _ (fun _ _ z => z)
  have k8' : ¬ kkN x < 12 := by omega
  refine c_L_low 40 (by omega) (by omega) ?_ rfl
  refine c_L_low 30 (by omega) (by omega) ?_ rfl
  refine c_L_low 8 (by omega) (by omega) ?_ rfl
  refine c_L_low 9 (by omega) (by omega) ?_ rfl
  have l1 := l (sh x 4) 40 (by omega)
  have l2 := l (sh x 9) 30 (by omega)
  have l3 := l (sh x 15) 8 (by omega)
  have l4 := l (sh x 18) 9 (by omega)
  have l5 := t1N_lt x
  refine c_P_come hI1 hW hn ((lowN (sh x 4) 40 : Nat) - 8) ((lowN (sh x 9) 30 : Nat) - 10) (t1N x : Nat) (lowN (sh x 15) 8 : Nat) (1 + (lowN (sh x 18) 9 : Nat)) (fun g => absurd (by omega) g) (fun g g2 h' f2 hI' => q0 (-103) _ (by omega) rfl (by unfold actR; rw [if_neg k0', if_neg k1', if_neg k2', if_neg k3', if_neg k4', if_neg k5', if_neg k6', if_neg k7', if_neg k8', if_pos g2]) h' f2 hI') (fun g g2 h' f2 hI' => q1 _ _ hs.2.2.1 (by unfold actR; rw [if_neg k0', if_neg k1', if_neg k2', if_neg k3', if_neg k4', if_neg k5', if_neg k6', if_neg k7', if_neg k8', if_neg g2]) h' f2 hI') (iI_sub ((lowN (sh x 4) 40 : Nat) : Int) 8) (iI_sub ((lowN (sh x 9) 30 : Nat) : Int) 10) (t1_and x) rfl (iI_add 1 ((lowN (sh x 18) 9 : Nat) : Int)) (by omega) (by omega) (by omega) (by omega) (by omega)
end
end
section
/-! sums over puppets, lines, the order -/
theorem sm_swap (f : Nat → Nat → Nat) (a : Nat) : ∀ b : Nat, sm (fun i => sm (f i) a) b = sm (fun j => sm (fun i => f i j) b) a
  | 0 => by
    have : ∀ a, sm (fun _ => 0) a = 0 := fun a => sm_zero.mpr (fun _ _ => rfl)
    simp only [sm, this]
  | b + 1 => by
    simp only [sm, sm_swap f a b, sm_add]
theorem sm_one {f : Nat → Nat} {j0 : Nat} : ∀ {n : Nat}, j0 < n → (∀ j, j < n → j ≠ j0 → f j = 0) → sm f n = f j0
  | 0, h, _ => by omega
  | n + 1, h, hz => by
    by_cases z : j0 = n
    · subst z
      have e : sm f j0 = 0 := sm_zero.mpr (fun i hi => hz i (by omega) (by omega))
      simp only [sm, e]
      omega
    · have e := sm_one (f := f) (j0 := j0) (n := n) (by omega) (fun j hj => hz j (by omega))
      have e2 := hz n (by omega) (fun w => z w.symm)
      simp only [sm, e, e2]
      omega
theorem thr_od {S : Nat → Int} (hW : WF S) {p : Nat} : thr S (p : Int) ↔ ∃ k, k < (S 1).toNat ∧ od S k = p := by
  constructor
  · intro g
    obtain ⟨g1, g2, g3⟩ := thr_pos g
    have := (hW.od g1).1
    exact ⟨_, g1, by omega⟩
  · rintro ⟨k, hk, e⟩
    have g := thr_at hW hk
    rw [(hW.od hk).1, e] at g
    exact g
theorem sm_od {S : Nat → Int} (hW : WF S) (g : Nat → Nat) : sm (fun p => if thr S (p : Int) then g p else 0) (S 0).toNat = sm (fun j => g (od S j)) (S 1).toNat := by
  have e1 : ∀ p, p < (S 0).toNat → (if thr S (p : Int) then g p else 0) = sm (fun j => if od S j = p then g p else 0) (S 1).toNat := by
    intro p hp
    by_cases z : thr S (p : Int)
    · obtain ⟨k, hk, e⟩ := (thr_od hW).mp z
      have e3 := sm_one (f := fun j => if od S j = p then g p else 0) hk (fun j hj hne => if_neg (fun w => hne (wf_oi hW hj hk (w.trans e.symm))))
      rw [if_pos z, e3, if_pos e]
    · have e3 : sm (fun j => if od S j = p then g p else 0) (S 1).toNat = 0 := sm_zero.mpr (fun j hj => if_neg (fun w => z ((thr_od hW).mpr ⟨j, hj, w⟩)))
      rw [if_neg z, e3]
  rw [sm_congr e1, sm_swap (fun p j => if od S j = p then g p else 0) (S 1).toNat (S 0).toNat]
  refine sm_congr (fun j hj => ?_)
  have ho := hW.od hj
  have e3 := sm_one (f := fun p => if od S j = p then g p else 0) (n := (S 0).toNat) (j0 := od S j) (by omega) (fun p hp hne => if_neg (fun w => hne w.symm))
  rw [e3]
  exact if_pos rfl
/-- how many are hidden on a line -/
def hdL (S : Nat → Int) (l : Nat) : Nat := sm (fun j => hA S (od S) l j) (S 1).toNat
theorem hdL_s {S : Nat → Int} (h2 : 1 ≤ S 2) (o : Nat → Nat) (l : Nat) : ∀ k : Nat, ((sm (fun j => hA S o l j) k : Nat) : Int) = (cn S o l k : Int) - (if (cn S o l k : Int) < S 2 then (cn S o l k : Int) else S 2)
  | 0 => by
    show (0 : Int) = ((0 : Nat) : Int) - (if ((0 : Nat) : Int) < S 2 then ((0 : Nat) : Int) else S 2)
    rw [if_pos (by omega)]
    omega
  | k + 1 => by
    have ih := hdL_s h2 o l k
    have e : sm (fun j => hA S o l j) (k + 1) = sm (fun j => hA S o l j) k + hA S o l k := rfl
    rw [e, show hA S o l k = (if stn S (o k) l ∧ S 2 < (cn S o l (k + 1) : Int) then 1 else 0) from rfl]
    by_cases z : stn S (o k) l
    · rw [cn_t z]
      by_cases z2 : S 2 < ((cn S o l k + 1 : Nat) : Int)
      · rw [if_pos ⟨z, z2⟩]
        by_cases z3 : (cn S o l k : Int) < S 2
        · rw [if_pos z3] at ih
          rw [if_neg (by omega)]
          omega
        · rw [if_neg z3] at ih
          rw [if_neg (by omega)]
          omega
      · rw [if_neg (fun w => z2 w.2)]
        rw [if_pos (show (cn S o l k : Int) < S 2 by omega)] at ih
        by_cases z3 : ((cn S o l k + 1 : Nat) : Int) < S 2
        · rw [if_pos z3]; omega
        · rw [if_neg z3]; omega
    · rw [cn_f z, if_neg (fun w => z w.1)]
      rw [Nat.add_zero]
      exact ih
theorem hdL_is {S : Nat → Int} (hW : WF S) (l : Nat) : (hdL S l : Int) = (cn S (od S) l (S 1).toNat : Int) - (if (cn S (od S) l (S 1).toNat : Int) < S 2 then (cn S (od S) l (S 1).toNat : Int) else S 2) := hdL_s hW.lim.1 (od S) l (S 1).toNat
theorem hT_od {S : Nat → Int} (hW : WF S) {j : Nat} (hj : j < (S 1).toNat) (m : Nat) : hT S (od S) (S 1).toNat m (od S j) = sm (fun l => hA S (od S) l j) m := by
  refine sm_congr (fun l _ => ?_)
  have e := sm_one (f := fun i => if od S i = od S j then hA S (od S) l i else 0) hj (fun i hi hne => if_neg (fun w => hne (wf_oi hW hi hj w)))
  show sm (fun i => if od S i = od S j then hA S (od S) l i else 0) _ = _
  rw [e]
  exact if_pos rfl
theorem hT_sum {S : Nat → Int} (hW : WF S) : sm (fun p => if thr S (p : Int) then hT S (od S) (S 1).toNat 48 p else 0) (S 0).toNat = sm (hdL S) 48 := by
  rw [sm_od hW (fun p => hT S (od S) (S 1).toNat 48 p), sm_congr (fun j hj => hT_od hW hj 48), sm_swap (fun j l => hA S (od S) l j) 48 (S 1).toNat]
  rfl
theorem lns_sum {S : Nat → Int} (hW : WF S) : sm (fun p => if thr S (p : Int) then lns S p 48 else 0) (S 0).toNat = sm (fun l : Nat => cn S (od S) l (S 1).toNat) 48 := by
  rw [sm_od hW (fun p => lns S p 48)]
  exact sm_swap (fun j l => if stn S (od S j) (l : Int) then 1 else 0) 48 (S 1).toNat
theorem hT_nt {S : Nat → Int} (hW : WF S) {p : Nat} (h : ¬ thr S (p : Int)) : hT S (od S) (S 1).toNat 48 p = 0 := hT_no (fun k hk w => h ((thr_od hW).mpr ⟨k, hk, w⟩))
theorem hid_sum {S : Nat → Int} (hW : WF S) : sm (fun p => if thr S (p : Int) then (if 0 < hT S (od S) (S 1).toNat 48 p then 1 else 0) else 0) (S 0).toNat = hidN S := by
  have hn := hW.n
  unfold hidN
  have e : ∀ p, p < 20 → (if hdd S p then 1 else 0) = (if thr S (p : Int) then (if 0 < hT S (od S) (S 1).toNat 48 p then 1 else 0) else 0) := by
    intro p _
    by_cases z : thr S (p : Int)
    · rw [if_pos z]; simp [hdd]
    · rw [if_neg z]; simp [hdd, hT_nt hW z]
  rw [sm_congr e]
  refine (sm_tail (show (S 0).toNat ≤ 20 by omega) (fun p h1 h2 => if_neg (fun z => ?_))).symm
  have := thr_b hW z
  omega
/-- none is hidden on any line -/
theorem hid_none {S : Nat → Int} (hW : WF S) : hidN S = 0 ↔ ∀ l : Nat, l < 48 → (cn S (od S) l (S 1).toNat : Int) ≤ S 2 := by
  rw [← hid_sum hW, sm_od hW (fun p => if 0 < hT S (od S) (S 1).toNat 48 p then 1 else 0), sm_zero]
  have h2 := hW.lim
  constructor
  · intro h l hl
    have e : hdL S l = 0 := sm_zero.mpr (fun j hj => by
      have h1 := h j hj
      have h3 : hT S (od S) (S 1).toNat 48 (od S j) = 0 := by
        by_cases z : 0 < hT S (od S) (S 1).toNat 48 (od S j)
        · rw [if_pos z] at h1; cases h1
        · omega
      rw [hT_od hW hj] at h3
      exact sm_zero.mp h3 l hl)
    have := hdL_is hW l
    rw [e] at this
    by_cases z : (cn S (od S) l (S 1).toNat : Int) < S 2
    · omega
    · rw [if_neg z] at this; omega
  · intro h j hj
    have e : hT S (od S) (S 1).toNat 48 (od S j) = 0 := by
      rw [hT_od hW hj]
      refine sm_zero.mpr (fun l hl => ?_)
      have h1 := h l hl
      have h3 := hdL_is hW l
      have h4 : hdL S l = 0 := by
        by_cases z : (cn S (od S) l (S 1).toNat : Int) < S 2
        · rw [if_pos z] at h3; omega
        · rw [if_neg z] at h3; omega
      exact sm_zero.mp h4 j hj
    rw [e]
    exact if_neg (by omega)
/-! positions, as bits -/
def PB (S : Nat → Int) : Nat → Nat
  | 0 => 0
  | k + 1 => if thr S (k : Int) then PB S k ||| 2 ^ (pos S (k : Int) (S 1).toNat).toNat else PB S k
theorem PB_b {S : Nat → Int} (hW : WF S) : ∀ k, PB S k < 2 ^ 20
  | 0 => show 0 < 2 ^ 20 by decide
  | k + 1 => by
    have hn := hW.n
    unfold PB
    by_cases z : thr S (k : Int)
    · rw [if_pos z]
      have := thr_pos z
      exact bit_or_b (PB_b hW k) (by omega)
    · rw [if_neg z]; exact PB_b hW k
theorem PB_t {S : Nat → Int} (i : Nat) : ∀ k, (PB S k).testBit i = true ↔ ∃ p : Nat, p < k ∧ thr S (p : Int) ∧ (pos S (p : Int) (S 1).toNat).toNat = i
  | 0 => by
    constructor
    · intro h; simp [PB] at h
    · rintro ⟨p, h, -⟩; omega
  | k + 1 => by
    have ih := PB_t (S := S) i k
    unfold PB
    by_cases z : thr S (k : Int)
    · rw [if_pos z, bit_or_t, Bool.or_eq_true, ih]
      constructor
      · rintro (⟨p, h1, h2⟩ | h)
        · exact ⟨p, by omega, h2⟩
        · exact ⟨k, by omega, z, of_decide_eq_true h⟩
      · rintro ⟨p, h1, h2, h3⟩
        by_cases e : p = k
        · subst e; exact Or.inr (decide_eq_true h3)
        · exact Or.inl ⟨p, by omega, h2, h3⟩
    · rw [if_neg z, ih]
      constructor
      · rintro ⟨p, h1, h2⟩; exact ⟨p, by omega, h2⟩
      · rintro ⟨p, h1, h2, h3⟩
        refine ⟨p, ?_, h2, h3⟩
        by_cases e : p = k
        · subst e; exact absurd h2 z
        · omega
theorem PB_all {S : Nat → Int} (hW : WF S) : PB S (S 0).toNat = 2 ^ (S 1).toNat - 1 := by
  apply Nat.eq_of_testBit_eq
  intro i
  rw [Nat.testBit_two_pow_sub_one]
  by_cases hi : i < (S 1).toNat
  · rw [decide_eq_true hi]
    have ho := hW.od hi
    refine (PB_t i _).mpr ⟨od S i, by omega, (thr_od hW).mpr ⟨i, hi, rfl⟩, ?_⟩
    rw [pos_is hW hi ho.1]
    omega
  · rw [decide_eq_false hi]
    refine Bool.eq_false_iff.mpr (fun h => ?_)
    obtain ⟨p, h1, h2, h3⟩ := (PB_t i _).mp h
    have := thr_pos h2
    omega
end
section
/-! what an answer says -/
section
variable {S : Nat → Int} {n : Nat} {H : Nat → Nat → Int} {N : Nat} {T : Nat → Nat} {f : Nat} {G : Nat → Int} {h : St} {Q : Option Value → St → Prop}
theorem pup_6 {p r : Int} (g : thr S p) (h : PupR S p 6 r) : r = pos S p (S 1).toNat := by
  rcases h with ⟨h1, h2⟩ | ⟨h1, h2⟩
  · exact absurd ⟨g, by omega⟩ h1
  · rcases h2 with h2 | h2 | h2 | h2 | h2
    all_goals first | exact h2.2 | exact absurd h2.1 (by omega)
theorem pup_7 {p : Nat} {r : Int} (g : thr S (p : Int)) (h : PupR S p 7 r) : r = lns S p 48 := by
  rcases h with ⟨h1, h2⟩ | ⟨h1, h2⟩
  · exact absurd ⟨g, by omega⟩ h1
  · rcases h2 with h2 | h2 | h2 | h2 | h2
    all_goals first | exact absurd h2.1 (by omega) | exact h2.2
theorem pup_8 {p : Nat} {r : Int} (g : thr S (p : Int)) (h : PupR S p 8 r) : r = hT S (od S) (S 1).toNat 48 p := by
  rcases h with ⟨h1, h2⟩ | ⟨h1, h2⟩
  · exact absurd ⟨g, by omega⟩ h1
  · rcases h2 with h2 | h2 | h2 | h2 | h2
    all_goals first | exact absurd h2.1 (by omega) | exact h2.2
theorem pup_hi {p r w : Int} (g : thr S p) (hw : 8 < w ∧ w ≤ 11) (h : PupR S p w r) : r = S (26 + 9 * p.toNat + (w - 3).toNat) := by
  rcases h with ⟨h1, h2⟩ | ⟨h1, h2⟩
  · exact absurd ⟨g, by omega⟩ h1
  · rcases h2 with h2 | h2 | h2 | h2 | h2
    all_goals first | exact absurd h2.1 (by omega) | exact h2.2
theorem pup_lo {p r w : Int} (g : thr S p) (hw : 0 ≤ w ∧ w < 6) (h : PupR S p w r) : r = S (26 + 9 * p.toNat + w.toNat) := by
  rcases h with ⟨h1, h2⟩ | ⟨h1, h2⟩
  · exact absurd ⟨g, by omega⟩ h1
  · rcases h2 with h2 | h2 | h2 | h2 | h2
    all_goals first | exact absurd h2.1 (by omega) | exact h2.2
theorem lin_0 {y : Nat} {r : Int} (hy : y < 48) (h : LinR S y 0 r) : r = cn S (od S) y (S 1).toNat := by
  rcases h with ⟨h1, h2⟩ | ⟨h1, h2⟩
  · exact absurd ⟨by omega, by omega⟩ h1
  · rcases h2 with h2 | h2 | h2
    all_goals first | exact absurd h2.1 (by omega) | exact h2.2
theorem lin_1 {y : Nat} {r : Int} (hy : y < 48) (h : LinR S y 1 r) : r = if (cn S (od S) y (S 1).toNat : Int) < S 2 then (cn S (od S) y (S 1).toNat : Int) else S 2 := by
  rcases h with ⟨h1, h2⟩ | ⟨h1, h2⟩
  · exact absurd ⟨by omega, by omega⟩ h1
  · rcases h2 with h2 | h2 | h2
    all_goals first | exact absurd h2.1 (by omega) | exact h2.2
theorem lin_2 {y : Nat} {r : Int} (hy : y < 48) (h : LinR S y 2 r) : r = dts S y 64 := by
  rcases h with ⟨h1, h2⟩ | ⟨h1, h2⟩
  · exact absurd ⟨by omega, by omega⟩ h1
  · rcases h2 with h2 | h2 | h2
    all_goals first | exact absurd h2.1 (by omega) | exact h2.2
theorem cnt_0 {r : Int} (h : CntR S n N 0 r) : r = S 1 := by unfold CntR at h; omega
theorem cnt_2 {r : Int} (h : CntR S n N 2 r) : r = S 2 := by unfold CntR at h; omega
theorem cnt_5 {r : Int} (h : CntR S n N 5 r) : r = S 5 := by unfold CntR at h; omega
theorem cnt_6 {r : Int} (h : CntR S n N 6 r) : r = hidN S := by unfold CntR at h; omega
theorem cnt_7 {r : Int} (h : CntR S n N 7 r) : r = adt S 48 := by unfold CntR at h; omega
theorem cnt_8 {r : Int} (h : CntR S n N 8 r) : HerR S (S 1).toNat r := by
  rcases h with a | a | a | a | a | a | a | a | a | a | a | a
  all_goals first | exact a.2 | exact absurd a.1 (by omega)
theorem hin_1 {p : Nat} {r : Int} (g : thr S (p : Int)) (h : HinR S p 1 r) : r = (if 0 < hT S (od S) (S 1).toNat 48 p then 1 else 0 : Nat) := by
  rcases h with ⟨h1, h2⟩ | ⟨h1, h2⟩
  · exact absurd ⟨g, by omega⟩ h1
  · rw [h2]
    show ((0 + (if hB S (od S) p then 1 else 0) : Nat) : Int) = _
    unfold hB
    by_cases z : 0 < hT S (od S) (S 1).toNat 48 p
    · simp [z]
    · simp [z]
abbrev A1 (S : Nat → Int) (k : Nat) : Nat := sm (fun p => if thr S (p : Int) then lns S p 48 else 0) k
abbrev A2 (S : Nat → Int) (k : Nat) : Nat := sm (fun p => if thr S (p : Int) then hT S (od S) (S 1).toNat 48 p else 0) k
abbrev A3 (S : Nat → Int) (k : Nat) : Nat := sm (fun p => if thr S (p : Int) then (if 0 < hT S (od S) (S 1).toNat 48 p then 1 else 0) else 0) k
def mn (S : Nat → Int) (y : Nat) : Nat := if (cn S (od S) y (S 1).toNat : Int) < S 2 then cn S (od S) y (S 1).toNat else (S 2).toNat
theorem mn_i (hW : WF S) (y : Nat) : (mn S y : Int) = if (cn S (od S) y (S 1).toNat : Int) < S 2 then (cn S (od S) y (S 1).toNat : Int) else S 2 := by
  have := hW.lim
  unfold mn
  split <;> omega
abbrev B1 (S : Nat → Int) (k : Nat) : Nat := sm (fun l : Nat => cn S (od S) l (S 1).toNat) k
abbrev B2 (S : Nat → Int) (k : Nat) : Nat := sm (mn S) k
theorem B12 (hW : WF S) : ∀ k, B1 S k = B2 S k + sm (hdL S) k
  | 0 => rfl
  | k + 1 => by
    have ih := B12 hW k
    have h1 := hdL_is hW k
    have h2 := mn_i hW k
    show B1 S k + cn S (od S) (k : Nat) (S 1).toNat = B2 S k + mn S k + (sm (hdL S) k + hdL S k)
    omega
theorem mn_le (hW : WF S) (y : Nat) : mn S y ≤ 20 := by
  have h1 := cn_le S (od S) y (S 1).toNat
  have h2 := hW.lim
  have h3 := hW.n
  unfold mn
  split <;> omega
set_option maxHeartbeats 8000000 in
theorem c_L_addsUp (hI : CI S n H N T f G h) (hW : WF S) (hX : PX S) (hQ : ∀ h', Fr 15 38 h h' → Q (some (.int 1)) h') : SC y_L_addsUp [.ref 0] h Q := by
  have hn := hW.n
  have hlim := hW.lim
  have h5 := hW.2.2.2.2.2.1
  refine w_call IS_ok [21] ok_L_addsUp rfl rfl ?_
  have a1 : ∀ k, k ≤ 20 → A1 S k ≤ 20 * 48 := fun k hk => Nat.le_trans (sm_le (b := 48) (fun i _ => by split; exact lns_le S i 48; omega)) (by omega)
  have a2 : ∀ k, k ≤ 20 → A2 S k ≤ 20 * 2000 := fun k hk => Nat.le_trans (sm_le (b := 2000) (fun i _ => by split; exact Nat.le_of_lt (hT_b S hW i); omega)) (by omega)
  have a3 : ∀ k, k ≤ 20 → A3 S k ≤ 20 * 1 := fun k hk => Nat.le_trans (sm_le (b := 1) (fun i _ => by split; (split <;> omega); omega)) (by omega)
  have b1 : ∀ k, k ≤ 48 → B1 S k ≤ 48 * 20 := fun k hk => Nat.le_trans (sm_le (b := 20) (fun i _ => Nat.le_trans (cn_le S (od S) i (S 1).toNat) hn.2.1)) (by omega)
  have b2 : ∀ k, k ≤ 48 → B2 S k ≤ 48 * 20 := fun k hk => Nat.le_trans (sm_le (b := 20) (fun i _ => mn_le hW i)) (by omega)
  have hdt := fun k => adt_le S k
  -- the end
  have fin : ∀ (hc : St) (z1 z2 z3 z4 z5 z6 z7 z8 : Int32), Fr 15 38 h hc → z1 = iI (B1 S 48 : Nat) → z2 = iI (B2 S 48 : Nat) → z3 = iI (A1 S (S 0).toNat : Nat) → z4 = iI (A2 S (S 0).toNat : Nat) → z5 = iI (A3 S (S 0).toNat : Nat) → z6 = iI (PB S (S 0).toNat : Nat) → z7 = iI (adt S 48 : Nat) → SR y_L_addsUp 281 [some (.ref 0), some (.int z1), some (.int z2), some (.int z3), some (.int z4), some (.int z5), some (.int z6), some (.int z7), some (.int z8)] [] hc Q := by
    intro hc z1 z2 z3 z4 z5 z6 z7 z8 fr e1 e2 e3 e4 e5 e6 e7
    have k1 := b1 48 (by omega)
    have k2 := b2 48 (by omega)
    have k3 := a1 (S 0).toNat (by omega)
    have k4 := a2 (S 0).toNat (by omega)
    have k5 := a3 (S 0).toNat (by omega)
    have s1 : A1 S (S 0).toNat = B1 S 48 := lns_sum hW
    have s2 : A2 S (S 0).toNat = sm (hdL S) 48 := hT_sum hW
    have s3 : A3 S (S 0).toNat = hidN S := hid_sum hW
    have s4 := B12 hW 48
    have s5 := hidN_le S
    have k7 := hdt 48
    refine w_loop IS_ok [] ok_L_addsUp ?_
    refine w_eq (B1 S 48 : Nat) (A1 S (S 0).toNat : Nat) (fun _ => ?_) (fun g => absurd (by omega) g) e1 e3
    refine w_eq ((B1 S 48 : Nat) - (B2 S 48 : Nat)) (A2 S (S 0).toNat : Nat) (fun _ => ?_) (fun g => absurd (by omega) g) (by rw [e1, e2]; exact iI_sub _ _) e4
    refine c_P_count (hI.lk fr) hW 6 (fun h2 r f2 hr => ?_) rfl (by omega)
    rw [cnt_6 hr]
    refine w_eq (A3 S (S 0).toNat : Nat) (hidN S : Nat) (fun _ => ?_) (fun g => absurd (by omega) g) e5 rfl
    refine c_P_count (hI.lk (fr.t f2)) hW 0 (fun h3 r3 f3 hr3 => ?_) rfl (by omega)
    rw [cnt_0 hr3]
    have hp : ((1 : Int32) <<< (iI (S 1) &&& 31)) - 1 = iI ((2 ^ (S 1).toNat - 1 : Nat) : Int) := by
      have e := shN (a := 1) (c := (S 1).toNat) (by have := Nat.pow_le_pow_right (n := 2) (by decide) hn.2.1; omega) (by omega)
      have e8 : iI (S 1) = nI (S 1).toNat := congrArg iI hn.1
      rw [e8]
      show (nI 1 <<< (nI (S 1).toNat &&& 31)) - nI 1 = _
      rw [e, Nat.one_mul]
      exact pk_sub (Nat.one_le_two_pow)
    have hpb := PB_b hW (S 0).toNat
    have hpa := PB_all hW
    rw [← hpa] at hp
    refine w_eq (PB S (S 0).toNat : Nat) (PB S (S 0).toNat : Nat) (fun _ => ?_) (fun g => absurd rfl g) e6 hp
    refine c_P_count (hI.lk ((fr.t f2).t f3)) hW 7 (fun h4 r4 f4 hr4 => ?_) rfl (by omega)
    rw [cnt_7 hr4]
    refine w_eq (adt S 48 : Nat) (adt S 48 : Nat) (fun _ => ?_) (fun g => absurd rfl g) e7 rfl
    refine c_P_worstLine (hI.lk (((fr.t f2).t f3).t f4)) hW (fun h5' r5 m5 f5 hr5 => ?_)
    have hfr := (((fr.t f2).t f3).t f4).t f5
    have hno := hid_none hW
    have r5b : r5 = -109 ∨ (0 ≤ r5 ∧ r5 < 48) := by
      rcases hr5 with ⟨w, -⟩ | ⟨y, w1, w2, -⟩
      · exact Or.inl w
      · exact Or.inr (by omega)
    have hiff : r5 = -109 ↔ hidN S = 0 := by
      rw [hno]
      rcases hr5 with ⟨w1, w2, w3⟩ | ⟨y, w1, w2, w3, w4, -⟩
      · exact ⟨fun _ => w3, fun _ => w1⟩
      · exact ⟨fun z => by omega, fun z => by have := z y w1; omega⟩
    refine w_eq r5 (-109) (fun g => ?_) (fun g => ?_) rfl rfl (by omega)
    · have g2 := hiff.mp g
      refine w_eq (A3 S (S 0).toNat : Nat) 0 (fun _ => ?_) (fun g3 => absurd (by omega) g3) e5 rfl
      first | exact ⟨Or.inr rfl, hQ _ hfr⟩ | (refine w_t rfl ?_; exact ⟨Or.inr rfl, hQ _ hfr⟩)
    · have g2 : ¬ hidN S = 0 := fun z => g (hiff.mpr z)
      refine w_eq (A3 S (S 0).toNat : Nat) 0 (fun g3 => absurd (by omega) g2) (fun _ => ?_) e5 rfl
      first | exact ⟨Or.inr rfl, hQ _ hfr⟩ | (refine w_t rfl ?_; exact ⟨Or.inr rfl, hQ _ hfr⟩)
  have loop2 : ∀ (m y : Nat) (hc : St) (z1 z2 z3 z4 z5 z6 z7 z8 : Int32), y + m = 48 → Fr 15 38 h hc → z1 = iI (B1 S y : Nat) → z2 = iI (B2 S y : Nat) → z3 = iI (A1 S (S 0).toNat : Nat) → z4 = iI (A2 S (S 0).toNat : Nat) → z5 = iI (A3 S (S 0).toNat : Nat) → z6 = iI (PB S (S 0).toNat : Nat) → z7 = iI (adt S y : Nat) → z8 = iI (y : Nat) → SR y_L_addsUp 194 [some (.ref 0), some (.int z1), some (.int z2), some (.int z3), some (.int z4), some (.int z5), some (.int z6), some (.int z7), some (.int z8)] [] hc Q := by
    intro m
    induction m with
    | zero =>
      intro y hc z1 z2 z3 z4 z5 z6 z7 z8 hm fr e1 e2 e3 e4 e5 e6 e7 e8
      have hy : y = 48 := by omega
      subst hy
      refine w_loop IS_ok [194, 281] ok_L_addsUp ?_
      exact w_le 48 48 (fun _ => fin hc _ _ _ _ _ _ _ _ fr e1 e2 e3 e4 e5 e6 e7) (fun _ => by omega) rfl e8
    | succ m ih =>
      intro y hc z1 z2 z3 z4 z5 z6 z7 z8 hm fr e1 e2 e3 e4 e5 e6 e7 e8
      refine w_loop IS_ok [194, 281] ok_L_addsUp ?_
      refine w_le 48 y (fun _ => by omega) (fun _ => ?_) rfl e8
      refine c_P_line (hI.lk fr) hW y 0 (fun h2 r2 f2 hr2 => ?_) e8 rfl (by omega) (by omega)
      rw [lin_0 (by omega) hr2]
      refine c_P_line (hI.lk (fr.t f2)) hW y 1 (fun h3 r3 f3 hr3 => ?_) e8 rfl (by omega) (by omega)
      rw [lin_1 (by omega) hr3, ← mn_i hW]
      refine c_P_line (hI.lk ((fr.t f2).t f3)) hW y 2 (fun h4 r4 f4 hr4 => ?_) e8 rfl (by omega) (by omega)
      rw [lin_2 (by omega) hr4]
      refine c_P_line (hI.lk (((fr.t f2).t f3).t f4)) hW y 1 (fun h5' r5 f5 hr5 => ?_) e8 rfl (by omega) (by omega)
      rw [lin_1 (by omega) hr5, ← mn_i hW]
      refine c_P_line (hI.lk ((((fr.t f2).t f3).t f4).t f5)) hW y 0 (fun h6 r6 f6 hr6 => ?_) e8 rfl (by omega) (by omega)
      rw [lin_0 (by omega) hr6]
      refine c_P_count (hI.lk (((((fr.t f2).t f3).t f4).t f5).t f6)) hW 2 (fun h7 r7 f7 hr7 => ?_) rfl (by omega)
      rw [cnt_2 hr7]
      have fr7 := (((((fr.t f2).t f3).t f4).t f5).t f6).t f7
      have hc1 := cn_le S (od S) y (S 1).toNat
      have hmn := mn_i hW y
      have hml := mn_le hW y
      have nx : ∀ (hc' : St), Fr 15 38 h hc' → SR y_L_addsUp 194 [some (.ref 0), some (.int (z1 + iI (cn S (od S) y (S 1).toNat : Nat))), some (.int (z2 + iI (mn S y : Nat))), some (.int z3), some (.int z4), some (.int z5), some (.int z6), some (.int (z7 + iI (dts S y 64 : Nat))), some (.int (z8 + 1))] [] hc' Q := by
        intro hc' fr'
        refine ih (y + 1) hc' _ _ _ _ _ _ _ _ (by omega) fr' ?_ ?_ e3 e4 e5 e6 ?_ (iI_1 e8)
        · rw [e1]; exact (iI_add _ _).trans (congrArg iI (by show _ = ((B1 S y + cn S (od S) (y : Nat) (S 1).toNat : Nat) : Int); omega))
        · rw [e2]; exact (iI_add _ _).trans (congrArg iI (by show _ = ((B2 S y + mn S y : Nat) : Int); omega))
        · rw [e7]; exact (iI_add _ _).trans (congrArg iI (by show _ = ((adt S y + dts S (y : Nat) 64 : Nat) : Int); omega))
      refine w_le (S 2) (cn S (od S) y (S 1).toNat : Nat) (fun g => ?_) (fun g => ?_) rfl rfl
      · refine c_P_count (hI.lk fr7) hW 2 (fun h8 r8 f8 hr8 => ?_) rfl (by omega)
        rw [cnt_2 hr8]
        rw [if_neg (by omega)] at hmn
        exact w_eq (mn S y : Nat) (S 2) (fun _ => nx _ (fr7.t f8)) (fun z => absurd hmn z) rfl rfl
      · refine c_P_line (hI.lk fr7) hW y 0 (fun h8 r8 f8 hr8 => ?_) e8 rfl (by omega) (by omega)
        rw [lin_0 (by omega) hr8]
        rw [if_pos (by omega)] at hmn
        exact w_eq (mn S y : Nat) (cn S (od S) y (S 1).toNat : Nat) (fun _ => nx _ (fr7.t f8)) (fun z => absurd hmn z) rfl rfl
  have loop1 : ∀ (m k : Nat) (hc : St) (z3 z4 z5 z6 z8 : Int32), k + m = (S 0).toNat → Fr 15 38 h hc → z3 = iI (A1 S k : Nat) → z4 = iI (A2 S k : Nat) → z5 = iI (A3 S k : Nat) → z6 = iI (PB S k : Nat) → z8 = iI (k : Nat) → SR y_L_addsUp 21 [some (.ref 0), some (.int 0), some (.int 0), some (.int z3), some (.int z4), some (.int z5), some (.int z6), some (.int 0), some (.int z8)] [] hc Q := by
    intro m
    induction m with
    | zero =>
      intro k hc z3 z4 z5 z6 z8 hm fr e3 e4 e5 e6 e8
      have hk : k = (S 0).toNat := by omega
      refine w_loop IS_ok [21, 194] ok_L_addsUp ?_
      refine c_P_count (hI.lk fr) hW 1 (fun h2 r2 f2 hr2 => ?_) rfl (by omega)
      rw [cnt1 hr2]
      refine w_le (S 0) k (fun _ => ?_) (fun _ => by omega) rfl e8
      rw [hk] at e3 e4 e5 e6
      exact loop2 48 0 h2 _ _ _ _ _ _ _ _ rfl (fr.t f2) rfl rfl e3 e4 e5 e6 rfl rfl
    | succ m ih =>
      intro k hc z3 z4 z5 z6 z8 hm fr e3 e4 e5 e6 e8
      refine w_loop IS_ok [21, 88, 194] ok_L_addsUp ?_
      refine c_P_count (hI.lk fr) hW 1 (fun h2 r2 f2 hr2 => ?_) rfl (by omega)
      rw [cnt1 hr2]
      refine w_le (S 0) k (fun _ => by omega) (fun _ => ?_) rfl e8
      have fr2 := fr.t f2
      refine c_P_puppet (hI.lk fr2) hW k 0 (fun h3 r3 f3 hr3 => ?_) e8 rfl (by omega) (by omega)
      obtain ⟨p1, p2⟩ := pup_x hW hr3
      have fr3 := fr2.t f3
      have s1 : A1 S (k + 1) = A1 S k + (if thr S (k : Int) then lns S k 48 else 0) := rfl
      have s2 : A2 S (k + 1) = A2 S k + (if thr S (k : Int) then hT S (od S) (S 1).toNat 48 k else 0) := rfl
      have s3 : A3 S (k + 1) = A3 S k + (if thr S (k : Int) then (if 0 < hT S (od S) (S 1).toNat 48 k then 1 else 0) else 0) := rfl
      have s6 : PB S (k + 1) = if thr S (k : Int) then PB S k ||| 2 ^ (pos S (k : Int) (S 1).toNat).toNat else PB S k := rfl
      refine w_eq r3 (-101) (fun g => ?_) (fun g => ?_) rfl rfl p2
      · have g := p1.mp g
        rw [if_neg g] at s1 s2 s3 s6
        exact ih (k + 1) _ _ _ _ _ _ (by omega) fr3 (by rw [s1]; exact e3) (by rw [s2]; exact e4) (by rw [s3]; exact e5) (by rw [s6]; exact e6) (iI_1 e8)
      have g : thr S (k : Int) := Classical.byContradiction (fun z => g (p1.mpr z))
      rw [if_pos g] at s1 s2 s3 s6
      have hk20 : k < 20 := by omega
      have hpos := thr_pos g
      have hx := hX k hk20
      have hw := hW.wp k hk20
      have l48 := lns_le S k 48
      have l20 := hT_b S hW k
      refine c_P_puppet (hI.lk fr3) hW k 7 (fun h4 r4 f4 hr4 => ?_) e8 rfl (by omega) (by omega)
      rw [pup_7 g hr4]
      have fr4 := fr3.t f4
      refine c_P_puppet (hI.lk fr4) hW k 8 (fun h5' r5 f5 hr5 => ?_) e8 rfl (by omega) (by omega)
      rw [pup_8 g hr5]
      have fr5 := fr4.t f5
      refine c_P_puppet (hI.lk fr5) hW k 8 (fun h6 r6 f6 hr6 => ?_) e8 rfl (by omega) (by omega)
      rw [pup_8 g hr6]
      have fr6 := fr5.t f6
      -- what is left of a turn: many and one is known
      have rest : ∀ (hc' : St) (v5 : Int32), Fr 15 38 h hc' → v5 = iI (if 0 < hT S (od S) (S 1).toNat 48 k then 1 else 0 : Nat) → SR y_L_addsUp 88 [some (.ref 0), some (.int 0), some (.int 0), some (.int (z3 + iI (lns S k 48 : Nat))), some (.int (z4 + iI (hT S (od S) (S 1).toNat 48 k : Nat))), some (.int (z5 + v5)), some (.int z6), some (.int 0), some (.int z8)] [] hc' Q := by
        intro hc' v5 fr' ev
        refine w_loop IS_ok [21, 194] ok_L_addsUp ?_
        refine c_P_puppet (hI.lk fr') hW k 6 (fun h7 r7 f7 hr7 => ?_) e8 rfl (by omega) (by omega)
        rw [pup_6 g hr7]
        have fr7 := fr'.t f7
        refine c_P_puppet (hI.lk fr7) hW k 10 (fun h8 r8 f8 hr8 => ?_) e8 rfl (by omega) (by omega)
        have v8 : r8 = S (26 + 9 * k + 7) := pup_hi g (by omega) hr8
        rw [v8]
        have fr8 := fr7.t f8
        refine c_P_puppet (hI.lk fr8) hW k 11 (fun h9 r9 f9 hr9 => ?_) e8 rfl (by omega) (by omega)
        have v9 : r9 = S (26 + 9 * k + 8) := pup_hi g (by omega) hr9
        rw [v9]
        have fr9 := fr8.t f9
        refine w_lt (S (26 + 9 * k + 8)) (S (26 + 9 * k + 7)) (fun z => by omega) (fun _ => ?_) rfl rfl
        refine c_P_puppet (hI.lk fr9) hW k 11 (fun h10 r10 f10 hr10 => ?_) e8 rfl (by omega) (by omega)
        have v10 : r10 = S (26 + 9 * k + 8) := pup_hi g (by omega) hr10
        rw [v10]
        have fr10 := fr9.t f10
        refine c_P_puppet (hI.lk fr10) hW k 9 (fun h11 r11 f11 hr11 => ?_) e8 rfl (by omega) (by omega)
        have v11 : r11 = S (26 + 9 * k + 6) := pup_hi g (by omega) hr11
        rw [v11]
        have fr11 := fr10.t f11
        refine w_lt (S (26 + 9 * k + 6)) (S (26 + 9 * k + 8)) (fun z => by omega) (fun _ => ?_) rfl rfl
        refine c_P_puppet (hI.lk fr11) hW k 9 (fun h12 r12 f12 hr12 => ?_) e8 rfl (by omega) (by omega)
        have v12 : r12 = S (26 + 9 * k + 6) := pup_hi g (by omega) hr12
        rw [v12]
        have fr12 := fr11.t f12
        refine c_P_count (hI.lk fr12) hW 5 (fun h13 r13 f13 hr13 => ?_) rfl (by omega)
        rw [cnt_5 hr13]
        have fr13 := fr12.t f13
        refine w_lt (S 5) (S (26 + 9 * k + 6)) (fun z => by omega) (fun _ => ?_) rfl rfl
        refine c_P_hiddenIn (hI.lk fr13) hW k 1 (fun h14 r14 f14 hr14 => ?_) e8 rfl (by omega) (by omega)
        rw [hin_1 g hr14]
        have fr14 := fr13.t f14
        refine c_P_puppet (hI.lk fr14) hW k 8 (fun h15 r15 f15 hr15 => ?_) e8 rfl (by omega) (by omega)
        rw [pup_8 g hr15]
        have fr15 := fr14.t f15
        have nx : ∀ (w6 : Int32), w6 = iI (PB S (k + 1) : Nat) → SR y_L_addsUp 21 [some (.ref 0), some (.int 0), some (.int 0), some (.int (z3 + iI (lns S k 48 : Nat))), some (.int (z4 + iI (hT S (od S) (S 1).toNat 48 k : Nat))), some (.int (z5 + v5)), some (.int w6), some (.int 0), some (.int (z8 + 1))] [] h15 Q := by
          intro w6 ew
          refine ih (k + 1) h15 _ _ _ _ _ (by omega) fr15 ?_ ?_ ?_ ew (iI_1 e8)
          · rw [e3, s1]; exact (iI_add _ _).trans (congrArg iI (by omega))
          · rw [e4, s2]; exact (iI_add _ _).trans (congrArg iI (by omega))
          · rw [e5, s3, ev]; exact (iI_add _ _).trans (congrArg iI (by omega))
        have ew : z6 ||| ((1 : Int32) <<< (iI (pos S (k : Int) (S 1).toNat) &&& 31)) = iI (PB S (k + 1) : Nat) := by
          rw [e6, s6]
          have e9 : iI (pos S (k : Int) (S 1).toNat) = iI ((pos S (k : Int) (S 1).toNat).toNat : Nat) := congrArg iI (by omega)
          rw [e9]
          exact bit_or (by omega)
        have nx' := nx _ ew
        refine w_le (hT S (od S) (S 1).toNat 48 k : Nat) 0 (fun z => ?_) (fun z => ?_) rfl rfl
        · refine w_eq (if 0 < hT S (od S) (S 1).toNat 48 k then 1 else 0 : Nat) 0 (fun _ => nx') (fun w => absurd (by rw [if_neg (by omega)]; rfl) w) rfl rfl (by split <;> omega)
        · refine w_eq (if 0 < hT S (od S) (S 1).toNat 48 k then 1 else 0 : Nat) 1 (fun _ => nx') (fun w => absurd (by rw [if_pos (by omega)]; rfl) w) rfl rfl (by split <;> omega)
      refine w_le (hT S (od S) (S 1).toNat 48 k : Nat) 0 (fun z => ?_) (fun z => ?_) rfl rfl
      · exact rest _ 0 fr6 (by rw [if_neg (by omega)]; rfl)
      · exact rest _ 1 fr6 (by rw [if_pos (by omega)]; rfl)
  exact loop1 (S 0).toNat 0 h _ _ _ _ _ (by omega) Fr.rf rfl rfl rfl rfl rfl
end
end
section
/-! a line, puppet by puppet and dot by dot -/
theorem cn_ex {S : Nat → Int} {o : Nat → Nat} {y : Int} {i : Nat} : ∀ {m : Nat}, i < cn S o y m → ∃ j, j < m ∧ stn S (o j) y ∧ cn S o y j = i
  | 0, h => by simp [cn, sm] at h
  | m + 1, h => by
    by_cases z : i < cn S o y m
    · obtain ⟨j, h1, h2⟩ := cn_ex z
      exact ⟨j, by omega, h2⟩
    · by_cases z2 : stn S (o m) y
      · rw [cn_t z2] at h
        exact ⟨m, by omega, z2, by omega⟩
      · rw [cn_f z2] at h
        omega
section
variable {S : Nat → Int} {n : Nat} {H : Nat → Nat → Int} {N : Nat} {T : Nat → Nat} {f : Nat} {G : Nat → Int} {h : St} {Q : Option Value → St → Prop}
theorem mn_b (hW : WF S) (y : Nat) : (mn S y : Int) ≤ S 2 ∧ mn S y ≤ cn S (od S) y (S 1).toNat := by
  have := mn_i hW y
  have h2 := hW.lim
  by_cases z : (cn S (od S) y (S 1).toNat : Int) < S 2
  · rw [if_pos z] at this; omega
  · rw [if_neg z] at this; omega
theorem shn_at (hW : WF S) {y i : Nat} (hy : y < 48) (hi : i < mn S y) {r : Int} (h : ShnR S y i r) : ∃ j, j < (S 1).toNat ∧ vis S y j ∧ cn S (od S) y j = i ∧ r = (od S j : Int) := by
  obtain ⟨b1, b2⟩ := mn_b hW y
  obtain ⟨j, j1, j2, j3⟩ := cn_ex (S := S) (o := od S) (y := (y : Int)) (i := i) (m := (S 1).toNat) (by omega)
  rcases h with ⟨h1, -⟩ | ⟨h1, ⟨k, k1, k2, k3, k4⟩ | ⟨-, k2⟩⟩
  · exact absurd ⟨by omega, by omega⟩ h1
  · exact ⟨k, k1, k2, by omega, by rw [k4]; exact (hW.od k1).1⟩
  · exact absurd (by omega) (k2 j j1 ⟨j2, by omega⟩)
theorem shn_no (hW : WF S) {y : Nat} (hy : y < 48) {r : Int} (h : ShnR S y (mn S y : Nat) r) : r = -109 := by
  have hm := mn_i hW y
  rcases h with ⟨h1, -⟩ | ⟨h1, ⟨k, k1, k2, k3, k4⟩ | ⟨k1, -⟩⟩
  · exact absurd ⟨by omega, by omega⟩ h1
  · have h3 := cn_lt (S := S) (o := od S) (y := (y : Int)) k1 k2.1
    have h4 := k2.2
    by_cases z : (cn S (od S) y (S 1).toNat : Int) < S 2
    · rw [if_pos z] at hm; omega
    · rw [if_neg z] at hm; omega
  · exact k1
theorem dot_c (hW : WF S) {x y : Nat} (hx : x < 64) (hy : y < 48) {c : Int} (h : DotR S x y c) : ((0 < c ↔ lit S x y) ∧ 0 ≤ c ∧ c ≤ 9) ∧ (c ≠ 0 → ∃ j, j < (S 1).toNat ∧ vis S y j ∧ setp S (od S j) x y ∧ c = S (26 + 9 * od S j + 4)) := by
  rcases h with ⟨h1, -⟩ | ⟨-, h2⟩
  · exact absurd ⟨by omega, by omega⟩ h1
  · refine ⟨ColR_pos hW h2, fun hc => ?_⟩
    obtain ⟨r, hr, e⟩ := h2
    by_cases z : r = -109
    · rw [if_pos z] at e; exact absurd e hc
    · rw [if_neg z] at e
      rcases hr with ⟨k, k1, k2, -, k4, -, k6⟩ | ⟨k1, -⟩
      · refine ⟨k, k1, k2, k4, ?_⟩
        rw [e, k6]
      · exact absurd k1 z
theorem od_thr (hW : WF S) {j : Nat} (hj : j < (S 1).toNat) : thr S (od S j : Int) := (thr_od hW).mpr ⟨j, hj, rfl⟩
theorem mn_lt {y i j : Nat} (hW : WF S) (hj : j < (S 1).toNat) (hv : vis S y j) (hi : cn S (od S) y j = i) : i < mn S y := by
  have hm := mn_i hW y
  have h3 := cn_lt (S := S) (o := od S) (y := (y : Int)) hj hv.1
  have h4 := hv.2
  by_cases z : (cn S (od S) y (S 1).toNat : Int) < S 2
  · rw [if_pos z] at hm; omega
  · rw [if_neg z] at hm; omega
set_option maxHeartbeats 8000000 in
theorem c_L_isLine {x : Int32} (hI : CI S n H N T f G h) (hW : WF S) (y : Nat) (hy : y < 48) (hx : x = iI (y : Nat)) (hQ : ∀ h', Fr 15 38 h h' → Q (some (.int 1)) h') : SC y_L_isLine [.ref 0, .int x] h Q := by
  have hn := hW.n
  have hml := mn_le hW y
  refine w_call IS_ok [15] ok_L_isLine rfl rfl ?_
  refine c_P_line hI hW y 1 (fun h1 r1 f1 hr1 => ?_) hx rfl (by omega) (by omega)
  rw [lin_1 hy hr1, ← mn_i hW]
  have fin : ∀ (hc : St) (z2 z4 z5 : Int32) (L6 L7 L8 : Option Value), Fr 15 38 h hc → z4 = iI (dts S y 64 : Nat) → SR y_L_isLine 178 [some (.ref 0), some (.int x), some (.int z2), some (.int (iI (mn S y : Nat))), some (.int z4), some (.int z5), L6, L7, L8] [] hc Q := by
    intro hc z2 z4 z5 L6 L7 L8 fr e4
    have hd := dts_le S y 64
    refine w_loop IS_ok [] ok_L_isLine ?_
    refine c_P_shown (hI.lk fr) hW y (mn S y : Nat) (fun h2 r2 f2 hr2 => ?_) hx rfl (by omega) (by omega)
    have er := shn_no hW hy hr2
    refine w_eq r2 (-109) (fun _ => ?_) (fun g => absurd er g) rfl rfl
    refine c_P_line (hI.lk (fr.t f2)) hW y 2 (fun h3 r3 f3 hr3 => ?_) hx rfl (by omega) (by omega)
    rw [lin_2 hy hr3]
    refine w_eq (dts S y 64 : Nat) (dts S y 64 : Nat) (fun _ => ?_) (fun g => absurd rfl g) e4 rfl
    exact ⟨Or.inr rfl, hQ _ ((fr.t f2).t f3)⟩
  have loop2 : ∀ (m a : Nat) (hc : St) (z2 z4 z5 : Int32) (L6 L7 L8 : Option Value), a + m = 64 → Fr 15 38 h hc → z4 = iI (dts S y a : Nat) → z5 = iI (a : Nat) → SR y_L_isLine 78 [some (.ref 0), some (.int x), some (.int z2), some (.int (iI (mn S y : Nat))), some (.int z4), some (.int z5), L6, L7, L8] [] hc Q := by
    intro m
    induction m with
    | zero =>
      intro a hc z2 z4 z5 L6 L7 L8 hm fr e4 e5
      have ha : a = 64 := by omega
      subst ha
      refine w_loop IS_ok [78, 178] ok_L_isLine ?_
      exact w_le 64 64 (fun _ => fin hc _ _ _ _ _ _ fr e4) (fun _ => by omega) rfl e5
    | succ m ih =>
      intro a hc z2 z4 z5 L6 L7 L8 hm fr e4 e5
      refine w_loop IS_ok [78, 109, 178] ok_L_isLine ?_
      refine w_le 64 a (fun _ => by omega) (fun _ => ?_) rfl e5
      refine c_P_dot (hI.lk fr) hW a y (fun h2 c f2 hr2 => ?_) e5 hx (by omega) (by omega)
      have fr2 := fr.t f2
      obtain ⟨⟨d1, d2, d3⟩, d4⟩ := dot_c hW (by omega) hy hr2
      -- behind the inner loop
      have nx : ∀ (h3 : St) (z8 : Int32), Fr 15 38 h h3 → SR y_L_isLine 150 [some (.ref 0), some (.int x), some (.int z2), some (.int (iI (mn S y : Nat))), some (.int z4), some (.int z5), some (.int (iI c)), some (.int 1), some (.int z8)] [] h3 Q := by
        intro h3 z8 fr3
        have hda := dts_le S y a
        refine w_loop IS_ok [78, 178] ok_L_isLine ?_
        have key : ∀ v : Int32, v = iI (cI (lit S a y) : Nat) → SR y_L_isLine 78 [some (.ref 0), some (.int x), some (.int z2), some (.int (iI (mn S y : Nat))), some (.int (z4 + v)), some (.int (z5 + 1)), some (.int (iI c)), some (.int 1), some (.int z8)] [] h3 Q := by
          intro v hv
          refine ih (a + 1) h3 _ _ _ _ _ _ (by omega) fr3 ?_ (iI_1 e5)
          rw [e4, hv]
          exact (iI_add _ _).trans (congrArg iI (by show _ = ((dts S y a + cI (lit S (a : Nat) y) : Nat) : Int); omega))
        refine w_le c 0 (fun g => ?_) (fun g => ?_) rfl rfl
        · exact key 0 (by rw [cI_f (fun z => by have := d1.mpr z; omega)]; rfl)
        · exact key 1 (by rw [cI_t (d1.mp g)]; rfl)
      have inner : ∀ (mm k : Nat) (h3 : St) (z7 z8 : Int32), k + mm = mn S y → Fr 15 38 h h3 → z8 = iI (k : Nat) → (z7 = 1 ∨ (z7 = 0 ∧ ∃ j, j < (S 1).toNat ∧ vis S y j ∧ k ≤ cn S (od S) y j ∧ c = S (26 + 9 * od S j + 4))) → SR y_L_isLine 109 [some (.ref 0), some (.int x), some (.int z2), some (.int (iI (mn S y : Nat))), some (.int z4), some (.int z5), some (.int (iI c)), some (.int z7), some (.int z8)] [] h3 Q := by
        intro mm
        induction mm with
        | zero =>
          intro k h3 z7 z8 hk fr3 e8 inv
          refine w_loop IS_ok [109, 150] ok_L_isLine ?_
          refine w_le (mn S y : Nat) k (fun _ => ?_) (fun _ => by omega) rfl e8
          rcases inv with e7 | ⟨-, j, j1, j2, j3, j4⟩
          · subst e7; exact nx h3 _ fr3
          · have := mn_lt hW j1 j2 rfl
            omega
        | succ mm ih2 =>
          intro k h3 z7 z8 hk fr3 e8 inv
          refine w_loop IS_ok [109, 150] ok_L_isLine ?_
          refine w_le (mn S y : Nat) k (fun _ => by omega) (fun _ => ?_) rfl e8
          rcases inv with e7 | ⟨e7, j, j1, j2, j3, j4⟩
          · subst e7
            exact ih2 (k + 1) h3 1 _ (by omega) fr3 (iI_1 e8) (Or.inl rfl)
          · subst e7
            refine c_P_shown (hI.lk fr3) hW y k (fun h4 r4 f4 hr4 => ?_) hx e8 (by omega) (by omega)
            obtain ⟨q, q1, q2, q3, q4⟩ := shn_at hW hy (by omega) hr4
            subst q4
            have hq := (hW.od q1).2.1
            refine c_P_puppet (hI.lk (fr3.t f4)) hW (od S q : Nat) 4 (fun h5 r5 f5 hr5 => ?_) rfl rfl (by omega) (by omega)
            have v5 : r5 = S (26 + 9 * od S q + 4) := pup_lo (od_thr hW q1) (by omega) hr5
            have hwq := (hW.wp _ hq).2.2.2.2.1
            rw [v5]
            have fr5 := (fr3.t f4).t f5
            refine w_eq (S (26 + 9 * od S q + 4)) c (fun g => ?_) (fun g => ?_) rfl rfl
            · exact ih2 (k + 1) h5 1 _ (by omega) fr5 (iI_1 e8) (Or.inl rfl)
            · refine ih2 (k + 1) h5 0 _ (by omega) fr5 (iI_1 e8) (Or.inr ⟨rfl, j, j1, j2, ?_, j4⟩)
              by_cases z : cn S (od S) y j = k
              · have := cn_inj (S := S) (o := od S) (y := (y : Int)) q2.1 j2.1 (by omega)
                subst this
                exact absurd j4.symm g
              · omega
      refine w_eq c 0 (fun g => ?_) (fun g => ?_) rfl rfl
      · exact inner (mn S y) 0 h2 1 0 (by omega) fr2 rfl (Or.inl rfl)
      · obtain ⟨j, j1, j2, -, j4⟩ := d4 g
        exact inner (mn S y) 0 h2 0 0 (by omega) fr2 rfl (Or.inr ⟨rfl, j, j1, j2, by omega, j4⟩)
  have loop1 : ∀ (m k : Nat) (hc : St) (b : Int) (z2 z5 : Int32) (L6 : Option Value), k + m = mn S y → Fr 15 38 h hc → z2 = iI b → z5 = iI (k : Nat) → ((k = 0 ∧ b = -1) ∨ ∃ j : Nat, j < (S 1).toNat ∧ b = j ∧ vis S y j ∧ cn S (od S) y j + 1 = k) → SR y_L_isLine 15 [some (.ref 0), some (.int x), some (.int z2), some (.int (iI (mn S y : Nat))), some (.int 0), some (.int z5), L6, none, none] [] hc Q := by
    intro m
    induction m with
    | zero =>
      intro k hc b z2 z5 L6 hm fr e2 e5 inv
      refine w_loop IS_ok [15, 78] ok_L_isLine ?_
      refine w_le (mn S y : Nat) k (fun _ => ?_) (fun _ => by omega) rfl e5
      exact loop2 64 0 hc _ _ _ _ _ _ rfl fr rfl rfl
    | succ m ih =>
      intro k hc b z2 z5 L6 hm fr e2 e5 inv
      refine w_loop IS_ok [15, 78] ok_L_isLine ?_
      refine w_le (mn S y : Nat) k (fun _ => by omega) (fun _ => ?_) rfl e5
      refine c_P_shown (hI.lk fr) hW y k (fun h2 r2 f2 hr2 => ?_) hx e5 (by omega) (by omega)
      obtain ⟨q, q1, q2, q3, q4⟩ := shn_at hW hy (by omega) hr2
      subst q4
      have hq := hW.od q1
      have fr2 := fr.t f2
      have g := od_thr hW q1
      have hpos : pos S (od S q : Int) (S 1).toNat = q := pos_is hW q1 hq.1
      refine w_lt (od S q : Nat) 0 (fun z => by omega) (fun _ => ?_) rfl rfl
      refine c_P_puppet (hI.lk fr2) hW (od S q : Nat) 6 (fun h3 r3 f3 hr3 => ?_) rfl rfl (by omega) (by omega)
      rw [pup_6 g hr3, hpos]
      have fr3 := fr2.t f3
      have hbq : b < q ∧ -1 ≤ b ∧ b < 20 := by
        rcases inv with ⟨i1, i2⟩ | ⟨j, j1, j2, j3, j4⟩
        · omega
        · refine ⟨?_, by omega, by omega⟩
          by_cases z : q ≤ j
          · have := cn_mono (S := S) (o := od S) (y := (y : Int)) z
            omega
          · omega
      refine w_le q b (fun z => by omega) (fun _ => ?_) rfl e2
      refine c_P_puppet (hI.lk fr3) hW (od S q : Nat) 1 (fun h4 r4 f4 hr4 => ?_) rfl rfl (by omega) (by omega)
      have v4 : r4 = S (26 + 9 * od S q + 1) := pup_lo g (by omega) hr4
      have hwq := (hW.wp _ hq.2.1).2.1
      rw [v4]
      have fr4 := fr3.t f4
      have hst := q2.1.1
      refine w_le (S (26 + 9 * od S q + 1)) y (fun _ => ?_) (fun z => by omega) rfl hx
      refine c_P_puppet (hI.lk fr4) hW (od S q : Nat) 6 (fun h5 r5 f5 hr5 => ?_) rfl rfl (by omega) (by omega)
      rw [pup_6 g hr5, hpos]
      exact ih (k + 1) h5 q _ _ _ (by omega) (fr4.t f5) rfl (iI_1 e5) (Or.inr ⟨q, q1, rfl, q2, by omega⟩)
  exact loop1 (mn S y) 0 h1 (-1) _ _ _ (by omega) f1 rfl rfl (Or.inl ⟨rfl, rfl⟩)
end
end
section
/-! the face of objects in the making: the shapes are those that they will have -/
abbrev Kt : Type := Nat × (Nat → Nat → Option Nat) × (Nat → Nat → Int32) × (Nat → Nat → Int32)
def k_emb (h : Kt) : Sg := ((h.1, e_SH), h.2)
def k_put : Kt → Nat → Nat → Nat → Value → Option Kt
  | (n, G, F, R), o, c, k, v => bif Nat.blt o n && Nat.beq (e_SH o).1 c then (match v with
    | .int x => bif e_isI (e_fty c k) then some (n, G, u2 F o k x, R) else none
    | .ref j => bif e_isI (e_fty c k) then none else some (n, u2 G o k (some j), F, R)
    | _ => none) else none
def k_wr : Kt → Nat → (Nat → Int32) → Kt
  | (n, G, F, R), a, f => (n, G, F, u1 R a f)
def k_rput : Kt → Nat → Nat → Value → Option Kt
  | (n, G, F, R), a, j, v => bif Nat.blt a n && (Nat.beq (e_SH a).1 101 && (Nat.blt j (e_SH a).2 && Nat.blt (e_SH a).2 2147483648)) then (match v with
    | .ref o => bif Nat.blt o n && Nat.beq (e_SH o).1 5 then some (n, u2 G a j (some o), F, R) else none
    | _ => none) else none
def k_new : Kt → Nat → Option (Nat × Kt)
  | (n, G, F, R), c => bif Nat.beq (e_SH n).1 c && (Nat.beq (e_SH n).2 0 && Nat.blt c 12) then some (n, (n + 1, u1 G n (fun _ => none), u1 F n (fun _ => 0), R)) else none
def k_newI : Kt → Nat → Option (Nat × Kt)
  | (n, G, F, R), c => bif Nat.beq (e_SH n).1 100 && Nat.beq (e_SH n).2 c then some (n, (n + 1, G, F, u1 R n (fun _ => 0))) else none
def k_newR : Kt → Nat → Option (Nat × Kt)
  | (n, G, F, R), c => bif Nat.beq (e_SH n).1 101 && Nat.beq (e_SH n).2 c then some (n, (n + 1, u1 G n (fun _ => none), F, R)) else none
def k_get : Kt → Nat → Nat → Nat → Option Value
  | (n, G, F, _), o, c, k => bif Nat.blt o n && Nat.beq (e_SH o).1 c then some (bif e_isI (e_fty c k) then .int (F o k) else va_rf (G o k)) else none
def k_row : Kt → Nat → Nat → Int32
  | (_, _, _, R), a, j => R a j
def IC : e_IT Kt := (k_emb, k_get, k_put, fun h => g_len (k_emb h), k_row, k_wr, fun h => g_rget (k_emb h), k_rput, k_new, k_newI, k_newR)
theorem k_sh {n a b : Nat} (h1 : (e_SH n).1 = a) (h2 : (e_SH n).2 = b) : u1 e_SH n (a, b) = e_SH := by
  funext j
  by_cases hj : j = n
  · subst hj; rw [u1_s, ← h1, ← h2]
  · rw [u1_n _ _ hj]
theorem IC_ok : e_IOk IC := by
  refine ⟨?_, ?_, fun h a n z => z, ?_, ?_, fun _ _ _ _ z => z, ?_, ?_, ?_, ?_⟩
  · rintro ⟨n, G, F, R⟩ o c k v z; exact z
  · rintro ⟨n, G, F, R⟩ o c k v h' z
    change k_put (n, G, F, R) o c k v = some h' at z
    show g_put ((n, e_SH), G, F, R) o c k v = some (k_emb h')
    unfold k_put at z
    unfold g_put
    dsimp only at z ⊢
    cases hq : (Nat.blt o n && Nat.beq (e_SH o).1 c) with
    | false => rw [hq] at z; cases z
    | true =>
      rw [hq] at z
      simp only [cond_true] at z ⊢
      cases v <;> try cases z
      all_goals
        dsimp only at z ⊢
        cases hi : e_isI (e_fty c k) <;> rw [hi] at z <;> cases z <;> rfl
  · rintro ⟨n, G, F, R⟩ a j; rfl
  · rintro ⟨n, G, F, R⟩ a f; rfl
  · rintro ⟨n, G, F, R⟩ a j v h' z
    change k_rput (n, G, F, R) a j v = some h' at z
    show g_rput ((n, e_SH), G, F, R) a j v = some (k_emb h')
    unfold k_rput at z
    unfold g_rput
    dsimp only at z ⊢
    cases hq : (Nat.blt a n && (Nat.beq (e_SH a).1 101 && (Nat.blt j (e_SH a).2 && Nat.blt (e_SH a).2 2147483648))) with
    | false => rw [hq] at z; cases z
    | true =>
      rw [hq] at z
      simp only [cond_true] at z ⊢
      cases v <;> try cases z
      next o =>
      dsimp only at z ⊢
      cases hi : (Nat.blt o n && Nat.beq (e_SH o).1 5) <;> rw [hi] at z <;> cases z <;> rfl
  · rintro ⟨n, G, F, R⟩ c r z
    change k_new (n, G, F, R) c = some r at z
    show g_new ((n, e_SH), G, F, R) c = some (r.1, k_emb r.2)
    unfold k_new at z
    unfold g_new
    dsimp only at z ⊢
    cases hq : (Nat.beq (e_SH n).1 c && (Nat.beq (e_SH n).2 0 && Nat.blt c 12)) with
    | false => rw [hq] at z; cases z
    | true =>
      rw [hq] at z
      simp only [Bool.and_eq_true] at hq
      obtain ⟨q1, q2, q3⟩ := hq
      rw [q3]
      cases z
      simp only [cond_true]
      rw [k_sh (Nat.eq_of_beq_eq_true q1) (Nat.eq_of_beq_eq_true q2)]
      rfl
  · rintro ⟨n, G, F, R⟩ c r z
    change k_newI (n, G, F, R) c = some r at z
    show g_newI ((n, e_SH), G, F, R) c = some (r.1, k_emb r.2)
    unfold k_newI at z
    unfold g_newI
    dsimp only at z ⊢
    cases hq : (Nat.beq (e_SH n).1 100 && Nat.beq (e_SH n).2 c) with
    | false => rw [hq] at z; cases z
    | true =>
      rw [hq] at z
      simp only [Bool.and_eq_true] at hq
      obtain ⟨q1, q2⟩ := hq
      cases z
      rw [k_sh (Nat.eq_of_beq_eq_true q1) (Nat.eq_of_beq_eq_true q2)]
      rfl
  · rintro ⟨n, G, F, R⟩ c r z
    change k_newR (n, G, F, R) c = some r at z
    show g_newR ((n, e_SH), G, F, R) c = some (r.1, k_emb r.2)
    unfold k_newR at z
    unfold g_newR
    dsimp only at z ⊢
    cases hq : (Nat.beq (e_SH n).1 101 && Nat.beq (e_SH n).2 c) with
    | false => rw [hq] at z; cases z
    | true =>
      rw [hq] at z
      simp only [Bool.and_eq_true] at hq
      obtain ⟨q1, q2⟩ := hq
      cases z
      rw [k_sh (Nat.eq_of_beq_eq_true q1) (Nat.eq_of_beq_eq_true q2)]
      rfl
abbrev CC (y : Nat) (as : List Value) (h : Kt) (Q : Option Value → Kt → Prop) : Prop := e_CallI IC y as h Q
abbrev CR (y pc : Nat) (L : List (Option Value)) (st : List Value) (B : Nat × Nat) (h : Kt) (Q : Option Value → Kt → Prop) : Prop := e_RunI IC y pc L st B h Q
theorem k_putR {n : Nat} {G : Nat → Nat → Option Nat} {F R : Nat → Nat → Int32} {o c k j : Nat} (hq : (Nat.blt o n && Nat.beq (e_SH o).1 c) = true) (hi : e_isI (e_fty c k) = false) : k_put (n, G, F, R) o c k (.ref j) = some (n, u2 G o k (some j), F, R) := by
  unfold k_put; dsimp only; rw [hq, hi]; rfl
theorem k_putI {n : Nat} {G : Nat → Nat → Option Nat} {F R : Nat → Nat → Int32} {o c k : Nat} {x : Int32} (hq : (Nat.blt o n && Nat.beq (e_SH o).1 c) = true) (hi : e_isI (e_fty c k) = true) : k_put (n, G, F, R) o c k (.int x) = some (n, G, u2 F o k x, R) := by
  unfold k_put; dsimp only; rw [hq, hi]; rfl
theorem k_nI {n len : Nat} {G : Nat → Nat → Option Nat} {F R : Nat → Nat → Int32} (hs : (Nat.beq (e_SH n).1 100 && Nat.beq (e_SH n).2 len) = true) : k_newI (n, G, F, R) len = some (n, (n + 1, G, F, u1 R n (fun _ => 0))) := by
  unfold k_newI; dsimp only; rw [hs]; rfl
theorem k_J_max {x y : Int32} {h : Kt} {Q : Option Value → Kt → Prop} (hQ : Q (some (.int x)) h) (hx : y ≤ x) : CC y_J_max [.int x, .int y] h Q := by
  refine w_callF IC_ok [] ok_J_max pf_98 rfl ?_
  refine w_if (fun g => ?_) (fun g => ?_)
  · exact absurd (Int32.lt_of_lt_of_le g hx) (Int32.lt_irrefl)
  · exact hQ
theorem w_mx {α : Type} {x : Option α} {K : α → Prop} (v : α) : x = some v → K v → (match x with
  | some v => K v
  | none => False) := fun hx k => by subst hx; exact k
theorem w_mo {η : Type} {x : Option (Nat × η)} {K : Nat → η → Prop} (v : Nat) (h : η) : x = some (v, h) → K v h → (match x with
  | some (v, h) => K v h
  | none => False) := fun hx k => by subst hx; exact k
theorem w_bf {c : Bool} {A : Prop} (hc : c = true) (k : A) : bif c then A else False := by subst hc; exact k
set_option maxHeartbeats 1000000 in
theorem k_Cells_init {a n : Nat} {G : Nat → Nat → Option Nat} {F R : Nat → Nat → Int32} {x w : Int32} {Q : Option Value → Kt → Prop} (len : Nat) (ha : (Nat.blt a (n + 1) && Nat.beq (e_SH a).1 0) = true) (hs : (Nat.beq (e_SH n).1 100 && Nat.beq (e_SH n).2 len) = true) (hx : x * w = nI len) (hl : Nat.ble len 600 = true) (kk : Q none (n + 1, u2 G a 0 (some n), u2 F a 1 w, u1 R n (fun _ => 0))) : CC y_Cells_init [.ref a, .int x, .int w] (n, G, F, R) Q := by
  have hl6 := Nat.le_of_ble_eq_true hl
  refine w_call IC_ok [] ok_Cells_init rfl rfl ?_
  refine k_J_max ?_ ?_
  · refine ⟨len, hx, ?_⟩
    refine w_mo n (n + 1, G, F, u1 R n (fun _ => 0)) (k_nI hs) ?_
    refine w_bf (by rw [Bool.and_eq_true, Bool.and_eq_true]; exact ⟨rfl, hl, by simp only [Nat.blt_eq]; omega⟩) ?_
    refine w_mx (n + 1, u2 G a 0 (some n), F, u1 R n (fun _ => 0)) (k_putR ha rfl) ?_
    refine w_mx (n + 1, u2 G a 0 (some n), u2 F a 1 w, u1 R n (fun _ => 0)) (k_putI ha rfl) ?_
    exact kk
  · rw [hx]
    exact (iI_le (a := (0 : Int)) (b := (len : Int)) (by omega) (by omega)).mpr (by omega)
end
section
/-! the constructors of the class -/
theorem k_gr {n o c k a : Nat} {G : Nat → Nat → Option Nat} {F R : Nat → Nat → Int32} (hq : (Nat.blt o n && Nat.beq (e_SH o).1 c) = true) (hi : e_isI (e_fty c k) = false) (hG : G o k = some a) : k_get (n, G, F, R) o c k = some (.ref a) := by
  unfold k_get; dsimp only; rw [hq, hi, hG]; rfl
theorem k_ln {n a len : Nat} {G : Nat → Nat → Option Nat} {F R : Nat → Nat → Int32} (hl : (Nat.blt a n && (Nat.beq (e_SH a).1 100 && Nat.blt (e_SH a).2 2147483648)) = true) (hln : (e_SH a).2 = len) : g_len (k_emb (n, G, F, R)) a = some len := by
  unfold g_len k_emb; dsimp only; rw [hl, hln]; rfl
theorem k_fill {o a n len : Nat} {G : Nat → Nat → Option Nat} {F R : Nat → Nat → Int32} {v : Int32} {Q : Option Value → Kt → Prop} (ho : (Nat.blt o n && Nat.beq (e_SH o).1 0) = true) (hG : G o 0 = some a) (hl : (Nat.blt a n && (Nat.beq (e_SH a).1 100 && Nat.blt (e_SH a).2 2147483648)) = true) (hln : (e_SH a).2 = len) (hlen : len < 1000) (kk : Q none (n, G, F, u1 R a (fun j => if j < len then v else R a j))) : CC y_Cells_fill [.ref o, .int v] (n, G, F, R) Q := by
  refine w_call IC_ok [2] ok_Cells_fill rfl rfl ?_
  have loop : ∀ (m k : Nat) (R' : Nat → Nat → Int32) (z : Int32), len ≤ k + m → k ≤ len → R' = u1 R a (fun j => if j < k then v else R a j) → z = iI k → CR y_Cells_fill 2 [some (.ref o), some (.int v), some (.int z)] [] (0, 0) (n, G, F, R') Q := by
    intro m
    induction m with
    | zero =>
      intro k R' z hm hk hs hz
      refine w_loop IC_ok [2] ok_Cells_fill ?_
      refine w_m _ (k_gr (R := R') ho rfl hG) ?_
      refine w_mn _ (k_ln (R := R') hl hln) ?_
      refine w_le len k (fun _ => ?_) (fun _ => by omega) rfl hz
      have : k = len := by omega
      subst this
      subst hs
      exact kk
    | succ m ih =>
      intro k R' z hm hk hs hz
      refine w_loop IC_ok [2] ok_Cells_fill ?_
      refine w_m _ (k_gr (R := R') ho rfl hG) ?_
      refine w_mn _ (k_ln (R := R') hl hln) ?_
      refine w_le len k (fun _ => ?_) (fun _ => ?_) rfl hz
      · have : k = len := by omega
        subst this
        subst hs
        exact kk
      refine w_m _ (k_gr (R := R') ho rfl hG) ?_
      refine w_mn _ (k_ln (R := R') hl hln) ?_
      refine w_ix k ?_ hz (by omega)
      refine ih (k + 1) (u1 R' a (u1 (R' a) k v)) _ (by omega) (by omega) ?_ (iI_1 hz)
      subst hs
      funext o2 j
      by_cases h1 : o2 = a
      · subst h1
        rw [u1_s, u1_s]
        by_cases h2 : j = k
        · subst h2; rw [u1_s, u1_s, if_pos (by omega)]
        · rw [u1_n _ _ h2, u1_s]
          by_cases h3 : j < k
          · rw [if_pos h3, if_pos (by omega)]
          · rw [if_neg h3, if_neg (by omega)]
      · rw [u1_n _ _ h1, u1_n _ _ h1, u1_n _ _ h1]
  refine loop len 0 R _ (by omega) (by omega) ?_ rfl
  funext o2 j
  by_cases h1 : o2 = a
  · subst h1; rw [u1_s, if_neg (by omega)]
  · rw [u1_n _ _ h1]
def gScene_1 (G : Nat → Nat → Option Nat) : Nat → Nat → Option Nat := (u2 (u2 (u1 (u2 (u2 (u1 (u2 (u2 (u1 G 2 (fun _ => none)) 2 0 (some 3)) 1 0 (some 2)) 4 (fun _ => none)) 4 0 (some 5)) 1 1 (some 4)) 6 (fun _ => none)) 6 0 (some 7)) 1 2 (some 6))
def fScene_1 (F : Nat → Nat → Int32) : Nat → Nat → Int32 := (u2 (u2 (u2 (u2 (u2 (u2 (u2 (u1 (u2 (u1 (u2 (u1 F 2 (fun _ => 0)) 2 1 8) 4 (fun _ => 0)) 4 1 10) 6 (fun _ => 0)) 6 1 1) 1 3 0) 1 4 0) 1 5 8) 1 6 0) 1 7 1) 1 8 0)
def rScene_1 (R : Nat → Nat → Int32) : Nat → Nat → Int32 := (u1 (u1 (u1 (u1 R 3 (fun _ => 0)) 5 (fun _ => 0)) 7 (fun _ => 0)) 3 (fun j => if j < 64 then 255 else (u1 (u1 (u1 R 3 (fun _ => 0)) 5 (fun _ => 0)) 7 (fun _ => 0)) 3 j))
set_option maxRecDepth 100000 in
set_option maxHeartbeats 4000000 in
theorem k_Scene_1 {G : Nat → Nat → Option Nat} {F R : Nat → Nat → Int32} {Q : Option Value → Kt → Prop} (kk : Q none (8, gScene_1 G, fScene_1 F, rScene_1 R)) : CC y_Scene_init [.ref 1] (2, G, F, R) Q := by
  refine w_call IC_ok [] ok_Scene_init rfl rfl ?_
  refine k_Cells_init 64 rfl rfl (by decide) rfl ?_
  refine k_Cells_init 200 rfl rfl (by decide) rfl ?_
  refine k_Cells_init 20 rfl rfl (by decide) rfl ?_
  refine k_fill (a := 3) rfl rfl rfl rfl (by decide) ?_
  exact kk
def gScene_8 (G : Nat → Nat → Option Nat) : Nat → Nat → Option Nat := (u2 (u2 (u1 (u2 (u2 (u1 (u2 (u2 (u1 G 9 (fun _ => none)) 9 0 (some 10)) 8 0 (some 9)) 11 (fun _ => none)) 11 0 (some 12)) 8 1 (some 11)) 13 (fun _ => none)) 13 0 (some 14)) 8 2 (some 13))
def fScene_8 (F : Nat → Nat → Int32) : Nat → Nat → Int32 := (u2 (u2 (u2 (u2 (u2 (u2 (u2 (u1 (u2 (u1 (u2 (u1 F 9 (fun _ => 0)) 9 1 8) 11 (fun _ => 0)) 11 1 10) 13 (fun _ => 0)) 13 1 1) 8 3 0) 8 4 0) 8 5 8) 8 6 0) 8 7 1) 8 8 0)
def rScene_8 (R : Nat → Nat → Int32) : Nat → Nat → Int32 := (u1 (u1 (u1 (u1 R 10 (fun _ => 0)) 12 (fun _ => 0)) 14 (fun _ => 0)) 10 (fun j => if j < 64 then 255 else (u1 (u1 (u1 R 10 (fun _ => 0)) 12 (fun _ => 0)) 14 (fun _ => 0)) 10 j))
set_option maxRecDepth 100000 in
set_option maxHeartbeats 4000000 in
theorem k_Scene_8 {G : Nat → Nat → Option Nat} {F R : Nat → Nat → Int32} {Q : Option Value → Kt → Prop} (kk : Q none (15, gScene_8 G, fScene_8 F, rScene_8 R)) : CC y_Scene_init [.ref 8] (9, G, F, R) Q := by
  refine w_call IC_ok [] ok_Scene_init rfl rfl ?_
  refine k_Cells_init 64 rfl rfl (by decide) rfl ?_
  refine k_Cells_init 200 rfl rfl (by decide) rfl ?_
  refine k_Cells_init 20 rfl rfl (by decide) rfl ?_
  refine k_fill (a := 10) rfl rfl rfl rfl (by decide) ?_
  exact kk
def gSurv_15 (G : Nat → Nat → Option Nat) : Nat → Nat → Option Nat := (u2 (u2 (u1 (u2 (u2 (u1 G 16 (fun _ => none)) 16 0 (some 17)) 15 0 (some 16)) 18 (fun _ => none)) 18 0 (some 19)) 15 1 (some 18))
def fSurv_15 (F : Nat → Nat → Int32) : Nat → Nat → Int32 := (u2 (u1 (u2 (u1 F 16 (fun _ => 0)) 16 1 1) 18 (fun _ => 0)) 18 1 1)
def rSurv_15 (R : Nat → Nat → Int32) : Nat → Nat → Int32 := (u1 (u1 R 17 (fun _ => 0)) 19 (fun _ => 0))
set_option maxRecDepth 100000 in
set_option maxHeartbeats 4000000 in
theorem k_Surv_15 {G : Nat → Nat → Option Nat} {F R : Nat → Nat → Int32} {Q : Option Value → Kt → Prop} (kk : Q none (20, gSurv_15 G, fSurv_15 F, rSurv_15 R)) : CC y_Surv_init [.ref 15] (16, G, F, R) Q := by
  refine w_call IC_ok [] ok_Surv_init rfl rfl ?_
  refine k_Cells_init 48 rfl rfl (by decide) rfl ?_
  refine k_Cells_init 20 rfl rfl (by decide) rfl ?_
  exact kk
def gSight_20 (G : Nat → Nat → Option Nat) : Nat → Nat → Option Nat := (u2 (u2 (u1 G 21 (fun _ => none)) 21 0 (some 22)) 20 0 (some 21))
def fSight_20 (F : Nat → Nat → Int32) : Nat → Nat → Int32 := (u2 (u2 (u1 F 21 (fun _ => 0)) 21 1 1) 20 1 0)
def rSight_20 (R : Nat → Nat → Int32) : Nat → Nat → Int32 := (u1 R 22 (fun _ => 0))
set_option maxRecDepth 100000 in
set_option maxHeartbeats 4000000 in
theorem k_Sight_20 {G : Nat → Nat → Option Nat} {F R : Nat → Nat → Int32} {Q : Option Value → Kt → Prop} (kk : Q none (23, gSight_20 G, fSight_20 F, rSight_20 R)) : CC y_Sight_init [.ref 20] (21, G, F, R) Q := by
  refine w_call IC_ok [] ok_Sight_init rfl rfl ?_
  refine k_Cells_init 8 rfl rfl (by decide) rfl ?_
  exact kk
def gScene_24 (G : Nat → Nat → Option Nat) : Nat → Nat → Option Nat := (u2 (u2 (u1 (u2 (u2 (u1 (u2 (u2 (u1 G 25 (fun _ => none)) 25 0 (some 26)) 24 0 (some 25)) 27 (fun _ => none)) 27 0 (some 28)) 24 1 (some 27)) 29 (fun _ => none)) 29 0 (some 30)) 24 2 (some 29))
def fScene_24 (F : Nat → Nat → Int32) : Nat → Nat → Int32 := (u2 (u2 (u2 (u2 (u2 (u2 (u2 (u1 (u2 (u1 (u2 (u1 F 25 (fun _ => 0)) 25 1 8) 27 (fun _ => 0)) 27 1 10) 29 (fun _ => 0)) 29 1 1) 24 3 0) 24 4 0) 24 5 8) 24 6 0) 24 7 1) 24 8 0)
def rScene_24 (R : Nat → Nat → Int32) : Nat → Nat → Int32 := (u1 (u1 (u1 (u1 R 26 (fun _ => 0)) 28 (fun _ => 0)) 30 (fun _ => 0)) 26 (fun j => if j < 64 then 255 else (u1 (u1 (u1 R 26 (fun _ => 0)) 28 (fun _ => 0)) 30 (fun _ => 0)) 26 j))
set_option maxRecDepth 100000 in
set_option maxHeartbeats 4000000 in
theorem k_Scene_24 {G : Nat → Nat → Option Nat} {F R : Nat → Nat → Int32} {Q : Option Value → Kt → Prop} (kk : Q none (31, gScene_24 G, fScene_24 F, rScene_24 R)) : CC y_Scene_init [.ref 24] (25, G, F, R) Q := by
  refine w_call IC_ok [] ok_Scene_init rfl rfl ?_
  refine k_Cells_init 64 rfl rfl (by decide) rfl ?_
  refine k_Cells_init 200 rfl rfl (by decide) rfl ?_
  refine k_Cells_init 20 rfl rfl (by decide) rfl ?_
  refine k_fill (a := 26) rfl rfl rfl rfl (by decide) ?_
  exact kk
def gSurv_31 (G : Nat → Nat → Option Nat) : Nat → Nat → Option Nat := (u2 (u2 (u1 (u2 (u2 (u1 G 32 (fun _ => none)) 32 0 (some 33)) 31 0 (some 32)) 34 (fun _ => none)) 34 0 (some 35)) 31 1 (some 34))
def fSurv_31 (F : Nat → Nat → Int32) : Nat → Nat → Int32 := (u2 (u1 (u2 (u1 F 32 (fun _ => 0)) 32 1 1) 34 (fun _ => 0)) 34 1 1)
def rSurv_31 (R : Nat → Nat → Int32) : Nat → Nat → Int32 := (u1 (u1 R 33 (fun _ => 0)) 35 (fun _ => 0))
set_option maxRecDepth 100000 in
set_option maxHeartbeats 4000000 in
theorem k_Surv_31 {G : Nat → Nat → Option Nat} {F R : Nat → Nat → Int32} {Q : Option Value → Kt → Prop} (kk : Q none (36, gSurv_31 G, fSurv_31 F, rSurv_31 R)) : CC y_Surv_init [.ref 31] (32, G, F, R) Q := by
  refine w_call IC_ok [] ok_Surv_init rfl rfl ?_
  refine k_Cells_init 48 rfl rfl (by decide) rfl ?_
  refine k_Cells_init 20 rfl rfl (by decide) rfl ?_
  exact kk
def gFore_23 (G : Nat → Nat → Option Nat) : Nat → Nat → Option Nat := (u2 (u2 (u1 (u2 (gSurv_31 (u1 (u2 (gScene_24 (u1 G 24 (fun _ => none))) 23 0 (some 24)) 31 (fun _ => none))) 23 1 (some 31)) 36 (fun _ => none)) 36 0 (some 37)) 23 2 (some 36))
def fFore_23 (F : Nat → Nat → Int32) : Nat → Nat → Int32 := (u2 (u2 (u2 (u1 (fSurv_31 (u1 (fScene_24 (u1 F 24 (fun _ => 0))) 31 (fun _ => 0))) 36 (fun _ => 0)) 36 1 1) 23 3 1) 23 4 0)
def rFore_23 (R : Nat → Nat → Int32) : Nat → Nat → Int32 := (u1 (rSurv_31 (rScene_24 R)) 37 (fun _ => 0))
set_option maxRecDepth 100000 in
set_option maxHeartbeats 4000000 in
theorem k_Fore_23 {G : Nat → Nat → Option Nat} {F R : Nat → Nat → Int32} {Q : Option Value → Kt → Prop} (kk : Q none (38, gFore_23 G, fFore_23 F, rFore_23 R)) : CC y_Fore_init [.ref 23] (24, G, F, R) Q := by
  refine w_call IC_ok [] ok_Fore_init rfl rfl ?_
  refine k_Scene_24 ?_
  refine k_Surv_31 ?_
  refine k_Cells_init 20 rfl rfl (by decide) rfl ?_
  exact kk
def gScene_40 (G : Nat → Nat → Option Nat) : Nat → Nat → Option Nat := (u2 (u2 (u1 (u2 (u2 (u1 (u2 (u2 (u1 G 41 (fun _ => none)) 41 0 (some 42)) 40 0 (some 41)) 43 (fun _ => none)) 43 0 (some 44)) 40 1 (some 43)) 45 (fun _ => none)) 45 0 (some 46)) 40 2 (some 45))
def fScene_40 (F : Nat → Nat → Int32) : Nat → Nat → Int32 := (u2 (u2 (u2 (u2 (u2 (u2 (u2 (u1 (u2 (u1 (u2 (u1 F 41 (fun _ => 0)) 41 1 8) 43 (fun _ => 0)) 43 1 10) 45 (fun _ => 0)) 45 1 1) 40 3 0) 40 4 0) 40 5 8) 40 6 0) 40 7 1) 40 8 0)
def rScene_40 (R : Nat → Nat → Int32) : Nat → Nat → Int32 := (u1 (u1 (u1 (u1 R 42 (fun _ => 0)) 44 (fun _ => 0)) 46 (fun _ => 0)) 42 (fun j => if j < 64 then 255 else (u1 (u1 (u1 R 42 (fun _ => 0)) 44 (fun _ => 0)) 46 (fun _ => 0)) 42 j))
set_option maxRecDepth 100000 in
set_option maxHeartbeats 4000000 in
theorem k_Scene_40 {G : Nat → Nat → Option Nat} {F R : Nat → Nat → Int32} {Q : Option Value → Kt → Prop} (kk : Q none (47, gScene_40 G, fScene_40 F, rScene_40 R)) : CC y_Scene_init [.ref 40] (41, G, F, R) Q := by
  refine w_call IC_ok [] ok_Scene_init rfl rfl ?_
  refine k_Cells_init 64 rfl rfl (by decide) rfl ?_
  refine k_Cells_init 200 rfl rfl (by decide) rfl ?_
  refine k_Cells_init 20 rfl rfl (by decide) rfl ?_
  refine k_fill (a := 42) rfl rfl rfl rfl (by decide) ?_
  exact kk
def gScene_47 (G : Nat → Nat → Option Nat) : Nat → Nat → Option Nat := (u2 (u2 (u1 (u2 (u2 (u1 (u2 (u2 (u1 G 48 (fun _ => none)) 48 0 (some 49)) 47 0 (some 48)) 50 (fun _ => none)) 50 0 (some 51)) 47 1 (some 50)) 52 (fun _ => none)) 52 0 (some 53)) 47 2 (some 52))
def fScene_47 (F : Nat → Nat → Int32) : Nat → Nat → Int32 := (u2 (u2 (u2 (u2 (u2 (u2 (u2 (u1 (u2 (u1 (u2 (u1 F 48 (fun _ => 0)) 48 1 8) 50 (fun _ => 0)) 50 1 10) 52 (fun _ => 0)) 52 1 1) 47 3 0) 47 4 0) 47 5 8) 47 6 0) 47 7 1) 47 8 0)
def rScene_47 (R : Nat → Nat → Int32) : Nat → Nat → Int32 := (u1 (u1 (u1 (u1 R 49 (fun _ => 0)) 51 (fun _ => 0)) 53 (fun _ => 0)) 49 (fun j => if j < 64 then 255 else (u1 (u1 (u1 R 49 (fun _ => 0)) 51 (fun _ => 0)) 53 (fun _ => 0)) 49 j))
set_option maxRecDepth 100000 in
set_option maxHeartbeats 4000000 in
theorem k_Scene_47 {G : Nat → Nat → Option Nat} {F R : Nat → Nat → Int32} {Q : Option Value → Kt → Prop} (kk : Q none (54, gScene_47 G, fScene_47 F, rScene_47 R)) : CC y_Scene_init [.ref 47] (48, G, F, R) Q := by
  refine w_call IC_ok [] ok_Scene_init rfl rfl ?_
  refine k_Cells_init 64 rfl rfl (by decide) rfl ?_
  refine k_Cells_init 200 rfl rfl (by decide) rfl ?_
  refine k_Cells_init 20 rfl rfl (by decide) rfl ?_
  refine k_fill (a := 49) rfl rfl rfl rfl (by decide) ?_
  exact kk
def gScene_54 (G : Nat → Nat → Option Nat) : Nat → Nat → Option Nat := (u2 (u2 (u1 (u2 (u2 (u1 (u2 (u2 (u1 G 55 (fun _ => none)) 55 0 (some 56)) 54 0 (some 55)) 57 (fun _ => none)) 57 0 (some 58)) 54 1 (some 57)) 59 (fun _ => none)) 59 0 (some 60)) 54 2 (some 59))
def fScene_54 (F : Nat → Nat → Int32) : Nat → Nat → Int32 := (u2 (u2 (u2 (u2 (u2 (u2 (u2 (u1 (u2 (u1 (u2 (u1 F 55 (fun _ => 0)) 55 1 8) 57 (fun _ => 0)) 57 1 10) 59 (fun _ => 0)) 59 1 1) 54 3 0) 54 4 0) 54 5 8) 54 6 0) 54 7 1) 54 8 0)
def rScene_54 (R : Nat → Nat → Int32) : Nat → Nat → Int32 := (u1 (u1 (u1 (u1 R 56 (fun _ => 0)) 58 (fun _ => 0)) 60 (fun _ => 0)) 56 (fun j => if j < 64 then 255 else (u1 (u1 (u1 R 56 (fun _ => 0)) 58 (fun _ => 0)) 60 (fun _ => 0)) 56 j))
set_option maxRecDepth 100000 in
set_option maxHeartbeats 4000000 in
theorem k_Scene_54 {G : Nat → Nat → Option Nat} {F R : Nat → Nat → Int32} {Q : Option Value → Kt → Prop} (kk : Q none (61, gScene_54 G, fScene_54 F, rScene_54 R)) : CC y_Scene_init [.ref 54] (55, G, F, R) Q := by
  refine w_call IC_ok [] ok_Scene_init rfl rfl ?_
  refine k_Cells_init 64 rfl rfl (by decide) rfl ?_
  refine k_Cells_init 200 rfl rfl (by decide) rfl ?_
  refine k_Cells_init 20 rfl rfl (by decide) rfl ?_
  refine k_fill (a := 56) rfl rfl rfl rfl (by decide) ?_
  exact kk
def gScene_61 (G : Nat → Nat → Option Nat) : Nat → Nat → Option Nat := (u2 (u2 (u1 (u2 (u2 (u1 (u2 (u2 (u1 G 62 (fun _ => none)) 62 0 (some 63)) 61 0 (some 62)) 64 (fun _ => none)) 64 0 (some 65)) 61 1 (some 64)) 66 (fun _ => none)) 66 0 (some 67)) 61 2 (some 66))
def fScene_61 (F : Nat → Nat → Int32) : Nat → Nat → Int32 := (u2 (u2 (u2 (u2 (u2 (u2 (u2 (u1 (u2 (u1 (u2 (u1 F 62 (fun _ => 0)) 62 1 8) 64 (fun _ => 0)) 64 1 10) 66 (fun _ => 0)) 66 1 1) 61 3 0) 61 4 0) 61 5 8) 61 6 0) 61 7 1) 61 8 0)
def rScene_61 (R : Nat → Nat → Int32) : Nat → Nat → Int32 := (u1 (u1 (u1 (u1 R 63 (fun _ => 0)) 65 (fun _ => 0)) 67 (fun _ => 0)) 63 (fun j => if j < 64 then 255 else (u1 (u1 (u1 R 63 (fun _ => 0)) 65 (fun _ => 0)) 67 (fun _ => 0)) 63 j))
set_option maxRecDepth 100000 in
set_option maxHeartbeats 4000000 in
theorem k_Scene_61 {G : Nat → Nat → Option Nat} {F R : Nat → Nat → Int32} {Q : Option Value → Kt → Prop} (kk : Q none (68, gScene_61 G, fScene_61 F, rScene_61 R)) : CC y_Scene_init [.ref 61] (62, G, F, R) Q := by
  refine w_call IC_ok [] ok_Scene_init rfl rfl ?_
  refine k_Cells_init 64 rfl rfl (by decide) rfl ?_
  refine k_Cells_init 200 rfl rfl (by decide) rfl ?_
  refine k_Cells_init 20 rfl rfl (by decide) rfl ?_
  refine k_fill (a := 63) rfl rfl rfl rfl (by decide) ?_
  exact kk
def gScene_68 (G : Nat → Nat → Option Nat) : Nat → Nat → Option Nat := (u2 (u2 (u1 (u2 (u2 (u1 (u2 (u2 (u1 G 69 (fun _ => none)) 69 0 (some 70)) 68 0 (some 69)) 71 (fun _ => none)) 71 0 (some 72)) 68 1 (some 71)) 73 (fun _ => none)) 73 0 (some 74)) 68 2 (some 73))
def fScene_68 (F : Nat → Nat → Int32) : Nat → Nat → Int32 := (u2 (u2 (u2 (u2 (u2 (u2 (u2 (u1 (u2 (u1 (u2 (u1 F 69 (fun _ => 0)) 69 1 8) 71 (fun _ => 0)) 71 1 10) 73 (fun _ => 0)) 73 1 1) 68 3 0) 68 4 0) 68 5 8) 68 6 0) 68 7 1) 68 8 0)
def rScene_68 (R : Nat → Nat → Int32) : Nat → Nat → Int32 := (u1 (u1 (u1 (u1 R 70 (fun _ => 0)) 72 (fun _ => 0)) 74 (fun _ => 0)) 70 (fun j => if j < 64 then 255 else (u1 (u1 (u1 R 70 (fun _ => 0)) 72 (fun _ => 0)) 74 (fun _ => 0)) 70 j))
set_option maxRecDepth 100000 in
set_option maxHeartbeats 4000000 in
theorem k_Scene_68 {G : Nat → Nat → Option Nat} {F R : Nat → Nat → Int32} {Q : Option Value → Kt → Prop} (kk : Q none (75, gScene_68 G, fScene_68 F, rScene_68 R)) : CC y_Scene_init [.ref 68] (69, G, F, R) Q := by
  refine w_call IC_ok [] ok_Scene_init rfl rfl ?_
  refine k_Cells_init 64 rfl rfl (by decide) rfl ?_
  refine k_Cells_init 200 rfl rfl (by decide) rfl ?_
  refine k_Cells_init 20 rfl rfl (by decide) rfl ?_
  refine k_fill (a := 70) rfl rfl rfl rfl (by decide) ?_
  exact kk
def gHist_38 (G : Nat → Nat → Option Nat) : Nat → Nat → Option Nat := (u2 (gScene_68 (u1 (u2 (gScene_61 (u1 (u2 (gScene_54 (u1 (u2 (gScene_47 (u1 (u2 (gScene_40 (u1 (u2 (u1 G 39 (fun _ => none)) 38 0 (some 39)) 40 (fun _ => none))) 39 0 (some 40)) 47 (fun _ => none))) 39 1 (some 47)) 54 (fun _ => none))) 39 2 (some 54)) 61 (fun _ => none))) 39 3 (some 61)) 68 (fun _ => none))) 39 4 (some 68))
def fHist_38 (F : Nat → Nat → Int32) : Nat → Nat → Int32 := (fScene_68 (u1 (fScene_61 (u1 (fScene_54 (u1 (fScene_47 (u1 (fScene_40 (u1 (u2 (u2 F 38 1 0) 38 2 0) 40 (fun _ => 0))) 47 (fun _ => 0))) 54 (fun _ => 0))) 61 (fun _ => 0))) 68 (fun _ => 0)))
def rHist_38 (R : Nat → Nat → Int32) : Nat → Nat → Int32 := (rScene_68 (rScene_61 (rScene_54 (rScene_47 (rScene_40 R)))))
set_option maxRecDepth 100000 in
set_option maxHeartbeats 4000000 in
theorem k_Hist_38 {G : Nat → Nat → Option Nat} {F R : Nat → Nat → Int32} {Q : Option Value → Kt → Prop} (kk : Q none (75, gHist_38 G, fHist_38 F, rHist_38 R)) : CC y_Hist_init [.ref 38] (39, G, F, R) Q := by
  refine w_call IC_ok [] ok_Hist_init rfl rfl ?_
  refine ⟨5, by decide, ?_⟩
  refine k_Scene_40 ?_
  refine ⟨0, by decide, ?_⟩
  refine k_Scene_47 ?_
  refine ⟨1, by decide, ?_⟩
  refine k_Scene_54 ?_
  refine ⟨2, by decide, ?_⟩
  refine k_Scene_61 ?_
  refine ⟨3, by decide, ?_⟩
  refine k_Scene_68 ?_
  refine ⟨4, by decide, ?_⟩
  exact kk
def gScript_76 (G : Nat → Nat → Option Nat) : Nat → Nat → Option Nat := (u2 (u2 (u1 G 77 (fun _ => none)) 77 0 (some 78)) 76 0 (some 77))
def fScript_76 (F : Nat → Nat → Int32) : Nat → Nat → Int32 := (u2 (u2 (u1 F 77 (fun _ => 0)) 77 1 1) 76 1 0)
def rScript_76 (R : Nat → Nat → Int32) : Nat → Nat → Int32 := (u1 R 78 (fun _ => 0))
set_option maxRecDepth 100000 in
set_option maxHeartbeats 4000000 in
theorem k_Script_76 {G : Nat → Nat → Option Nat} {F R : Nat → Nat → Int32} {Q : Option Value → Kt → Prop} (kk : Q none (79, gScript_76 G, fScript_76 F, rScript_76 R)) : CC y_Script_init [.ref 76] (77, G, F, R) Q := by
  refine w_call IC_ok [] ok_Script_init rfl rfl ?_
  refine k_Cells_init 100 rfl rfl (by decide) rfl ?_
  exact kk
def gSteps_79 (G : Nat → Nat → Option Nat) : Nat → Nat → Option Nat := (u2 (u2 (u1 G 80 (fun _ => none)) 80 0 (some 81)) 79 0 (some 80))
def fSteps_79 (F : Nat → Nat → Int32) : Nat → Nat → Int32 := (u2 (u2 (u1 F 80 (fun _ => 0)) 80 1 6) 79 1 0)
def rSteps_79 (R : Nat → Nat → Int32) : Nat → Nat → Int32 := (u1 R 81 (fun _ => 0))
set_option maxRecDepth 100000 in
set_option maxHeartbeats 4000000 in
theorem k_Steps_79 {G : Nat → Nat → Option Nat} {F R : Nat → Nat → Int32} {Q : Option Value → Kt → Prop} (kk : Q none (82, gSteps_79 G, fSteps_79 F, rSteps_79 R)) : CC y_Steps_init [.ref 79] (80, G, F, R) Q := by
  refine w_call IC_ok [] ok_Steps_init rfl rfl ?_
  refine k_Cells_init 600 rfl rfl (by decide) rfl ?_
  exact kk
def gRead_75 (G : Nat → Nat → Option Nat) : Nat → Nat → Option Nat := (u2 (u2 (u1 (u2 (gSteps_79 (u1 (u2 (gScript_76 (u1 G 76 (fun _ => none))) 75 0 (some 76)) 79 (fun _ => none))) 75 1 (some 79)) 82 (fun _ => none)) 82 0 (some 83)) 75 2 (some 82))
def fRead_75 (F : Nat → Nat → Int32) : Nat → Nat → Int32 := (u2 (u2 (u2 (u2 (u1 (fSteps_79 (u1 (fScript_76 (u1 F 76 (fun _ => 0))) 79 (fun _ => 0))) 82 (fun _ => 0)) 82 1 1) 75 3 0) 75 4 0) 75 5 (-1))
def rRead_75 (R : Nat → Nat → Int32) : Nat → Nat → Int32 := (u1 (rSteps_79 (rScript_76 R)) 83 (fun _ => 0))
set_option maxRecDepth 100000 in
set_option maxHeartbeats 4000000 in
theorem k_Read_75 {G : Nat → Nat → Option Nat} {F R : Nat → Nat → Int32} {Q : Option Value → Kt → Prop} (kk : Q none (84, gRead_75 G, fRead_75 F, rRead_75 R)) : CC y_Read_init [.ref 75] (76, G, F, R) Q := by
  refine w_call IC_ok [] ok_Read_init rfl rfl ?_
  refine k_Script_76 ?_
  refine k_Steps_79 ?_
  refine k_Cells_init 4 rfl rfl (by decide) rfl ?_
  exact kk
def gSched_84 (G : Nat → Nat → Option Nat) : Nat → Nat → Option Nat := (u2 (u2 (u1 (u2 (u2 (u1 G 85 (fun _ => none)) 85 0 (some 86)) 84 0 (some 85)) 87 (fun _ => none)) 87 0 (some 88)) 84 1 (some 87))
def fSched_84 (F : Nat → Nat → Int32) : Nat → Nat → Int32 := (u2 (u2 (u2 (u2 (u1 (u2 (u1 F 85 (fun _ => 0)) 85 1 1) 87 (fun _ => 0)) 87 1 1) 84 2 0) 84 3 0) 84 4 (-1))
def rSched_84 (R : Nat → Nat → Int32) : Nat → Nat → Int32 := (u1 (u1 R 86 (fun _ => 0)) 88 (fun _ => 0))
set_option maxRecDepth 100000 in
set_option maxHeartbeats 4000000 in
theorem k_Sched_84 {G : Nat → Nat → Option Nat} {F R : Nat → Nat → Int32} {Q : Option Value → Kt → Prop} (kk : Q none (89, gSched_84 G, fSched_84 F, rSched_84 R)) : CC y_Sched_init [.ref 84] (85, G, F, R) Q := by
  refine w_call IC_ok [] ok_Sched_init rfl rfl ?_
  refine k_Cells_init 200 rfl rfl (by decide) rfl ?_
  refine k_Cells_init 4 rfl rfl (by decide) rfl ?_
  exact kk
def gFail_89 (G : Nat → Nat → Option Nat) : Nat → Nat → Option Nat := G
def fFail_89 (F : Nat → Nat → Int32) : Nat → Nat → Int32 := (u2 (u2 (u2 (u2 (u2 (u2 F 89 0 0) 89 1 0) 89 2 0) 89 3 0) 89 4 0) 89 5 (-109))
def rFail_89 (R : Nat → Nat → Int32) : Nat → Nat → Int32 := R
set_option maxRecDepth 100000 in
set_option maxHeartbeats 4000000 in
theorem k_Fail_89 {G : Nat → Nat → Option Nat} {F R : Nat → Nat → Int32} {Q : Option Value → Kt → Prop} (kk : Q none (90, gFail_89 G, fFail_89 F, rFail_89 R)) : CC y_Fail_init [.ref 89] (90, G, F, R) Q := by
  refine w_call IC_ok [] ok_Fail_init rfl rfl ?_
  refine ⟨Or.inl rfl, ?_⟩
  exact kk
def gP_0 (G : Nat → Nat → Option Nat) : Nat → Nat → Option Nat := (u2 (gFail_89 (u1 (u2 (gSched_84 (u1 (u2 (gRead_75 (u1 (u2 (gHist_38 (u1 (u2 (gFore_23 (u1 (u2 (gSight_20 (u1 (u2 (gSurv_15 (u1 (u2 (gScene_8 (u1 (u2 (gScene_1 (u1 G 1 (fun _ => none))) 0 0 (some 1)) 8 (fun _ => none))) 0 1 (some 8)) 15 (fun _ => none))) 0 2 (some 15)) 20 (fun _ => none))) 0 3 (some 20)) 23 (fun _ => none))) 0 4 (some 23)) 38 (fun _ => none))) 0 5 (some 38)) 75 (fun _ => none))) 0 6 (some 75)) 84 (fun _ => none))) 0 7 (some 84)) 89 (fun _ => none))) 0 8 (some 89))
def fP_0 (F : Nat → Nat → Int32) : Nat → Nat → Int32 := (fFail_89 (u1 (fSched_84 (u1 (fRead_75 (u1 (fHist_38 (u1 (fFore_23 (u1 (fSight_20 (u1 (fSurv_15 (u1 (fScene_8 (u1 (fScene_1 (u1 F 1 (fun _ => 0))) 8 (fun _ => 0))) 15 (fun _ => 0))) 20 (fun _ => 0))) 23 (fun _ => 0))) 38 (fun _ => 0))) 75 (fun _ => 0))) 84 (fun _ => 0))) 89 (fun _ => 0)))
def rP_0 (R : Nat → Nat → Int32) : Nat → Nat → Int32 := (rFail_89 (rSched_84 (rRead_75 (rHist_38 (rFore_23 (rSight_20 (rSurv_15 (rScene_8 (rScene_1 R)))))))))
set_option maxRecDepth 100000 in
set_option maxHeartbeats 4000000 in
theorem k_P_0 {G : Nat → Nat → Option Nat} {F R : Nat → Nat → Int32} {Q : Option Value → Kt → Prop} (kk : Q none (90, gP_0 G, fP_0 F, rP_0 R)) : CC y_P_init [.ref 0] (1, G, F, R) Q := by
  refine w_call IC_ok [] ok_P_init rfl rfl ?_
  refine k_Scene_1 ?_
  refine k_Scene_8 ?_
  refine k_Surv_15 ?_
  refine k_Sight_20 ?_
  refine k_Fore_23 ?_
  refine k_Hist_38 ?_
  refine k_Read_75 ?_
  refine k_Sched_84 ?_
  refine k_Fail_89 ?_
  exact kk
end
section
/-! once they are made -/
def G9 : Nat → Nat → Option Nat := gP_0 (u1 (fun _ _ => none) 0 (fun _ => none))
def F9 : Nat → Nat → Int32 := fP_0 (u1 (fun _ _ => 0) 0 (fun _ => 0))
def R9 : Nat → Nat → Int32 := rP_0 (fun _ _ => 0)
def h9 : St := (F9, R9)
set_option maxRecDepth 100000 in
theorem k_chk : (List.range 90).all (fun o => Nat.ble 12 (e_SH o).1 || (List.range (e_ct (e_SH o).1).2.2.1).all (fun k => bif e_isI (e_fty (e_SH o).1 k) then decide (F9 o k = FF F9 o k) else decide (G9 o k = e_GG o k))) = true := by decide +kernel
set_option maxRecDepth 100000 in
theorem k_chk2 : ∀ j, j < 5 → G9 39 j = e_GG 39 j := by decide +kernel
set_option maxRecDepth 100000 in
theorem k_chk3 : (List.range 90).all (fun o => Nat.blt (e_SH o).1 12 || (Nat.beq (e_SH o).1 100 || (Nat.beq (e_SH o).1 101 && (Nat.beq o 39 && Nat.beq (e_SH o).2 5)))) = true := by decide +kernel
theorem k_FF : ∀ o, o < 90 → FF F9 o = fun k => bif Nat.beq (e_SH o).1 0 && Nat.beq k 1 then e_WD o else F9 o k := fun o ho => by
  funext k
  unfold FF
  have : Nat.beq o 90 = false := Bool.eq_false_iff.mpr (fun z => by have := Nat.eq_of_beq_eq_true z; omega)
  rw [this]
  rfl
theorem s_n9 : s_n h9 = 90 := if_neg (by decide +kernel)
theorem k_ent {D : va_G} {b : Nat} {cI cS : ClassId} {H : Heap} {o : Nat} (ho : o < 90) (h : va_at D e_cls (b + o, e_ent b cI cS (k_emb (90, G9, F9, R9)) o) H) : va_at D e_cls (b + o, e_ent b cI cS (IS.1 h9) o) H := by
  have q3 := List.all_eq_true.mp k_chk3 o (List.mem_range.mpr ho)
  simp only [Bool.or_eq_true, Bool.and_eq_true] at q3
  rcases q3 with q3 | q3 | ⟨q3, q4, q5⟩
  · have hc : (e_SH o).1 < 12 := by simpa [Nat.blt_eq] using q3
    have q := List.all_eq_true.mp k_chk o (List.mem_range.mpr ho)
    rw [Bool.or_eq_true] at q
    rcases q with q | q
    · exact absurd (Nat.le_of_ble_eq_true q) (by omega)
    · rw [e_ent_obj (σ := IS.1 h9) (c := (e_SH o).1) rfl hc]
      rw [e_ent_obj (σ := k_emb (90, G9, F9, R9)) (c := (e_SH o).1) rfl hc] at h
      have e : e_fl b (IS.1 h9) (e_SH o).1 o = e_fl b (k_emb (90, G9, F9, R9)) (e_SH o).1 o := by
        unfold e_fl
        refine List.map_congr_left (fun k hk => ?_)
        have z := List.all_eq_true.mp q k hk
        unfold e_fv
        show (bif e_isI (e_fty (e_SH o).1 k) then Value.int (FF F9 o k) else va_rf ((e_GG o k).map (fun j => b + j))) = (bif e_isI (e_fty (e_SH o).1 k) then Value.int (F9 o k) else va_rf ((G9 o k).map (fun j => b + j)))
        cases hi : e_isI (e_fty (e_SH o).1 k) with
        | true =>
          rw [hi] at z
          have z2 : F9 o k = FF F9 o k := of_decide_eq_true z
          rw [← z2]
          rfl
        | false =>
          rw [hi] at z
          have z1 : G9 o k = e_GG o k := of_decide_eq_true z
          rw [← z1]
          rfl
      rw [e]
      exact h
  · have hc := Nat.eq_of_beq_eq_true q3
    rw [e_ent_int (σ := IS.1 h9) hc]
    rw [e_ent_int (σ := k_emb (90, G9, F9, R9)) hc] at h
    exact h
  · have hc := Nat.eq_of_beq_eq_true q3
    have ho39 := Nat.eq_of_beq_eq_true q4
    subst ho39
    rw [e_ent_ref (σ := IS.1 h9) hc]
    rw [e_ent_ref (σ := k_emb (90, G9, F9, R9)) hc] at h
    change H[b + 39]? = some (arrV cS 5 (fun j => va_rf ((G9 39 j).map (fun i => b + i)))) at h
    show H[b + 39]? = some (arrV cS 5 (fun j => va_rf ((e_GG 39 j).map (fun i => b + i))))
    rw [h]
    unfold arrV
    congr 3
    funext j
    dsimp only
    rw [k_chk2 j.val j.isLt]
theorem k_end {D : va_G} {b : Nat} {cI cS : ClassId} {H0 H : Heap} (h : e_Sim D b cI cS H0 (k_emb (90, G9, F9, R9)) H) : e_Sim D b cI cS H0 (IS.1 h9) H := ⟨by show _ = b + s_n h9; rw [s_n9]; exact h.1, h.2.1, fun o ho => by
  have ho' : o < s_n h9 := ho
  rw [s_n9] at ho'
  exact k_ent ho' (h.2.2 o ho')⟩
/-! what it shows -/
def S9 : Nat → Int := fun i => if i = 2 then 8 else if i = 4 then 1 else if 206 ≤ i ∧ i < 270 then 255 else 0
theorem S9_n {i : Nat} (h : 5 ≤ i) (h2 : ¬ (206 ≤ i ∧ i < 270)) : S9 i = 0 := by
  unfold S9; rw [if_neg (by omega), if_neg (by omega), if_neg h2]
theorem S9_p {i : Nat} (h : i < 64) : S9 (206 + i) = 255 := by
  unfold S9; rw [if_neg (by omega), if_neg (by omega), if_pos (by omega)]
theorem S9_W : WF S9 := by
  refine ⟨by decide, by decide, by decide, by decide, by decide, by decide, fun k hk => ?_, fun j k hj hk => ?_, fun p hp => ?_, fun i hi => ?_, fun p hp => ?_, fun p hp _ j hj => S9_n (by omega) (by omega)⟩
  · exact absurd hk (Nat.not_lt_zero _)
  · exact absurd hk (Nat.not_lt_zero _)
  · rw [S9_n (by omega) (by omega), S9_n (i := 26 + 9 * p + 1) (by omega) (by omega), S9_n (i := 26 + 9 * p + 2) (by omega) (by omega), S9_n (i := 26 + 9 * p + 3) (by omega) (by omega), S9_n (i := 26 + 9 * p + 4) (by omega) (by omega), S9_n (i := 26 + 9 * p + 5) (by omega) (by omega), S9_n (i := 26 + 9 * p + 6) (by omega) (by omega), S9_n (i := 26 + 9 * p + 7) (by omega) (by omega), S9_n (i := 26 + 9 * p + 8) (by omega) (by omega), S9_n (i := 5) (by omega) (by omega)]
    omega
  · rw [S9_p hi]; omega
  · have : S9 0 = 0 := by decide
    omega
set_option maxRecDepth 100000 in
theorem R9_c : (∀ i, i < 64 → R9 3 i = iI (S9 (206 + i))) ∧ (∀ p, p < 20 → ∀ j, j < 6 → R9 5 (p * 10 + j) = iI (S9 (26 + 9 * p + j))) ∧ (∀ p, p < 20 → ∀ j, j < 3 → R9 5 (p * 10 + (7 + j)) = iI (S9 (26 + 9 * p + (6 + j)))) := by decide +kernel
set_option maxRecDepth 100000 in
theorem F9_c : (F9 1 3 = iI (S9 1) ∧ F9 1 4 = iI (S9 0) ∧ F9 1 5 = iI (S9 2) ∧ F9 1 6 = iI (S9 3) ∧ F9 1 7 = iI (S9 4) ∧ F9 1 8 = iI (S9 5)) ∧ F9 38 1 = iI 0 ∧ F9 38 2 = iI 0 ∧ F9 76 1 = iI 0 ∧ F9 89 0 = iI 0 ∧ F9 90 0 = 0 := by decide +kernel
set_option maxRecDepth 100000 in
theorem J9 : CI S9 0 (fun _ _ => 0) 0 (fun _ => 0) 0 (fun _ => 0) h9 := by
  obtain ⟨r1, r2, r3⟩ := R9_c
  obtain ⟨f1, f2, f3, f4, f5, f6⟩ := F9_c
  refine ⟨⟨f1, r1, fun k hk => absurd hk (Nat.not_lt_zero _), r2, fun p _ hp => ?_, r3⟩, ⟨0, by omega, f2, f3, fun j hj => absurd hj (Nat.not_lt_zero _)⟩, ⟨f4, fun j hj => absurd hj (Nat.not_lt_zero _)⟩, ⟨f5, fun z => by omega⟩⟩
  have : S9 0 = 0 := by decide
  omega
theorem PX9 : PX S9 := fun p hp => by
  rw [S9_n (by omega) (by omega), S9_n (i := 26 + 9 * p + 8) (by omega) (by omega), S9_n (i := 26 + 9 * p + 6) (by omega) (by omega)]
  omega
theorem WX9 : WX S9 0 := ⟨S9_W, PX9, by decide⟩
end
section
/-! the law's script: cell, and the places that call it -/
theorem m_d {y pc : Nat} {i : Instr} {len r1 r2 : Nat} {nest : Bool} {hh : List Nat} {sw : List (Int32 × Nat)} (hM : OkM y) (ho : e_op y pc = some (i, len, r1, r2, nest, hh, sw)) : decode (mBy y) pc = .ok (i, len) := by
  obtain ⟨hok, -⟩ := okm_at hM ho
  exact (okb_dec hok).1
def xPc (sA n : Nat) (xs : Nat → Int32) (i : Int32) (H : Heap) : Array Value → State → Prop := fun a U => a = ([Value.ref sA, .int i] : List Value).toArray ∧ U.heap = H ∧ va_X sA n xs U H ∧ sA < H.size
def xQc (H : Heap) : Array Value → State → Outcome → State → Prop := fun _ _ oc t => ∃ v : Int32, oc = .returned (some (.int v)) ∧ t.heap = H
theorem xPc_blind {sA n : Nat} {xs : Nat → Int32} {i : Int32} {H : Heap} : FrameBlind (xPc sA n xs i H) := fun a U g mk q => by
  obtain ⟨q0, q1, q2, q3⟩ := q
  exact ⟨q0, q1, va_X.moved (u := U) (U := U.calling g mk a) (Vm.Alike.refl U.vm) q2, q3⟩
set_option maxRecDepth 100000 in
set_option maxHeartbeats 4000000 in
theorem c_L_cell (l : Launch) (b sA n : Nat) (xs : Nat → Int32) (j : Nat) (H : Heap) (hj : j ≤ 18) (hn : n ≤ 260) : Met l (mNm y_L_cell) (mWs y_L_cell) (mRm y_L_cell) (xPc sA n xs (nI j) H) (xQc H) 0 0 (fun q => b ≤ q) := by
  refine Met.ofW (cc := mBy y_L_cell) (maxL := mML y_L_cell) (ret := mRet y_L_cell) rfl rfl ?_
  intro p e s m args below meth c s₁ B hml hv
  obtain ⟨rfl, rfl, hX, hsz⟩ := hv
  have hx := B.exec
  have hb := B.bytes
  have hr := B.returns
  have hlocks := B.notSynchronized
  rw [lg_entry_eq]
  have hl := lv_entry [Value.ref sA, .int (nI j)] (n := 2) (Nat.le_of_ble_eq_true rfl)
  have hS : va_S (fun q => s.heap.size ≤ q) s.heap s.heap [] := ⟨Nat.le_refl _, fun _ _ _ => rfl, fun q hq => by cases hq⟩
  have fin : ∀ (ls : Array Slot) (v : Int32), W p l e (headSpec (mWs y_L_cell) (mRm y_L_cell)).room s m ([Value.ref sA, .int (nI j)] : List Value).toArray below meth c s.heap [] 0 0 (MQ below (xQc s.heap) ([Value.ref sA, .int (nI j)] : List Value).toArray s 0 0 (fun q => b ≤ q)) (F0 m 24 ls [.int v]) := fun ls v =>
    W.iret hx hb hr (fun t ht _ => ⟨v, rfl, ht⟩) (fun q hq => by cases hq) (m_d ok_L_cell (pc := 24) rfl)
  refine lv_iload_n hx hb (m_d ok_L_cell (pc := 0) rfl) rfl (lv_at hl 1 rfl) ?_
  refine lv_aload_n hx hb (m_d ok_L_cell (pc := 1) rfl) rfl (lv_at hl 0 rfl) ?_
  refine va_slen (A := fun q => s.heap.size ≤ q) hx hb hX hsz (by omega) hS (m_d ok_L_cell (pc := 2) rfl) ?_
  refine lv_icmp_ge hx hb (m_d ok_L_cell (pc := 3) rfl) (tgt := 12) rfl (fun _ => ?_) (fun g => ?_)
  · refine lv_sipush hx hb (v := 7919) (m_d ok_L_cell (pc := 12) rfl) (by decide) ?_
    refine lv_iload_n hx hb (m_d ok_L_cell (pc := 15) rfl) rfl (lv_at hl 1 rfl) ?_
    refine lv_iconst hx hb (v := 3) (m_d ok_L_cell (pc := 16) rfl) (by decide) ?_
    refine lv_iadd hx hb (m_d ok_L_cell (pc := 17) rfl) ?_
    refine lv_imul hx hb (m_d ok_L_cell (pc := 18) rfl) ?_
    refine lv_iload_n hx hb (m_d ok_L_cell (pc := 19) rfl) rfl (lv_at hl 1 rfl) ?_
    refine lv_bipush hx hb (v := 11) (m_d ok_L_cell (pc := 20) rfl) (by decide) ?_
    refine lv_iadd hx hb (m_d ok_L_cell (pc := 22) rfl) ?_
    refine lv_imul hx hb (m_d ok_L_cell (pc := 23) rfl) ?_
    exact fin _ _
  · have hjn : j < n := by
      refine Nat.not_le.mp (fun z => g ?_)
      exact nI_le z (by omega)
    refine lv_aload_n hx hb (m_d ok_L_cell (pc := 6) rfl) rfl (lv_at hl 0 rfl) ?_
    refine lv_iload_n hx hb (m_d ok_L_cell (pc := 7) rfl) rfl (lv_at hl 1 rfl) ?_
    refine va_sld (A := fun q => s.heap.size ≤ q) hx hb hX hsz (by omega) hS (vp_in_nI hjn (by omega)) (m_d ok_L_cell (pc := 8) rfl) ?_
    refine lv_goto hx hb (m_d ok_L_cell (pc := 9) rfl) (tgt := 24) rfl ?_
    exact fin _ _
/-- behind a call of cell: any int -/
theorem s_call {pc : Nat} {hh : List Nat} {L : List (Option Value)} {B : Nat × Nat} {h : St} {Q : Option Value → St → Prop} (ho : e_op 107 pc = some (.invokestatic 92, 3, 100, 2, false, hh, [])) (kk : ∀ v : Int32, e_RunI IS y_L_law (pc + 3) L [.int v] B h Q)
    {p : Program} {l : Launch} {e : Env} {R : Room} {s : State} {m : MethodId} {args : Array Value} {below : List Frame} {meth : Method} {c : Code} {D : va_G} {b : Nat} {cI cS : ClassId} {H0 : Heap} {Z : State → Prop} (Cx : e_Cx p l e R s m args below meth c D b cI cS H0 Z y_L_law (fun r σ => ∃ h', σ = IS.1 h' ∧ Q r h'))
    {H : Heap} {locs : List Loc} {cells slots : Nat} {ls : Array Slot} (hS : e_Sim D b cI cS H0 (IS.1 h) H) (hlo : ∀ q ∈ locs, b ≤ q.base) (hc1 : cells + B.1 ≤ R.cells) (hc2 : slots + B.2 ≤ R.slots) (hL : e_LH b (e_x0 y_L_law args) ls (mML y_L_law) L)
    {sA n : Nat} {xs : Nat → Int32} (hsA : sA < b) (hn : n ≤ 260) (hX : va_X sA n xs s H0) (j : Nat) (hj : j ≤ 18) : W p l e R s m args below meth c H locs cells slots Z (F0 m pc ls [.int (nI j), .ref sA]) := by
  obtain ⟨hx, hb, hml, hown, hts, hK, hfr, hlc, hnm, hret, hscr⟩ := id Cx
  obtain ⟨hok, hneed⟩ := okm_at ok_L_law ho
  obtain ⟨hdg, hsw⟩ := okb_dec hok
  dsimp only at hdg hsw
  have hnw : ∀ w ∈ ([e_link 107 100 92 false, .initialized (mNm 100).cls, .code (mNm 100) (mBy 100) (mML 100) (mRet 100), .static (mNm 100)] : List Cond), w ∈ e_WS := hneed
  have hcall : e_callOk 107 100 2 = true := by decide +kernel
  obtain ⟨CB, CN⟩ := e_calls (y := 107) (R := R) (x := 92) (n := 2) (nest := false) hts hcall (hnw _ (by simp)) (hnw _ (by simp)) (hnw _ (by simp)) hfr hlc
  have hM := c_L_cell l b sA n xs j H hj hn
  have S : CallFix p m c (mBy 107) (mML 107) s args e_WS (mNm 107).cls := ⟨hx, hb, hml, hown, hts⟩
  have hXH : va_X sA n xs s H := hX.kept (hS.2.1 sA hsA)
  have hPc : ∀ U : State, U.heap = H → s.WarmedH U.vm → xPc sA n xs (nI j) H ([Value.ref sA, .int (nI j)] : List Value).toArray U := fun U hU hW => ⟨rfl, hU, hXH.moved hW.alike, by rw [hS.1]; omega⟩
  have hsz : ls.size = mML 107 := by obtain ⟨-, lv, h1, -⟩ := hL; exact h1.1
  have hr := va_runS (l := l) (cells := cells) (slots := slots) (locs := locs) (below := below) (meth := meth) (e := e) (H := H) (g := F0 m pc ls [.int (nI j), .ref sA]) (As := [Value.ref sA, .int (nI j)]) (rest := []) S hM ⟨CB rfl, hts _ (hnw _ (by simp))⟩ ⟨xPc_blind, hPc⟩ rfl rfl hsz rfl (show 2 * 0 + 0 ≤ 8 by decide) hdg ⟨by show cells + 0 ≤ _; omega, by show slots + 0 ≤ _; omega⟩
  intro T hT X
  obtain ⟨v, st₀, t, T', Lc, h0, X', hLc, e1, e2, ⟨w, hv, hQ⟩, st⟩ := hr T hT X
  have hv : v = some (.int w) := by
    injection hv
  subst hv
  have hH : T'.heap = H := e1.trans hQ
  obtain ⟨t2, a1, b1⟩ := kk w p l e R s m args below meth c D b cI cS H0 Z Cx T'.heap (locs ++ Lc) (cells + 0) (slots + 0) ls (by rw [hH]; exact hS) (fun q hq => (List.mem_append.mp hq).elim (hlo q) (hLc q)) hc1 hc2 hL T' rfl X'
  exact ⟨t2, st t2 a1, b1⟩
theorem x0_law {sA : Nat} : e_x0 y_L_law #[.ref sA] = some sA := rfl
/-- the two places in the loop -/
theorem s_cellA {pc : Nat} {hh h1 h2 : List Nat} {L : List (Option Value)} {B : Nat × Nat} {h : St} {Q : Option Value → St → Prop} (o0 : e_op 107 pc = some (.aload_n 0, 1, 0, 0, false, h1, [])) (o1 : e_op 107 (pc + 1) = some (.iload_n 2, 1, 0, 0, false, h2, [])) (ho : e_op 107 (pc + 2) = some (.invokestatic 92, 3, 100, 2, false, hh, [])) (j : Nat) (hj : j ≤ 18) (g0 : e_get L 0 = some (.float 0)) (g2 : e_get L 2 = some (.int (nI j))) (kk : ∀ v : Int32, e_RunI IS y_L_law (pc + 5) L [.int v] B h Q) : e_RunI IS y_L_law pc L [] B h Q := by
  intro p l e R s m args below meth c D b cI cS H0 Z Cx H locs cells slots ls hS hlo hc1 hc2 hL
  obtain ⟨hx, hb, hml, hown, hts, hK, hfr, hlc, hnm, hret, hscr⟩ := id Cx
  obtain ⟨sA, n, xs, ha, hsA, hn, hX⟩ := hscr rfl
  have q0 := e_LH_get hL g0
  have q2 := e_LH_get hL g2
  rw [ha, x0_law] at q0
  refine lv_aload_n hx hb (m_d ok_L_law o0) rfl q0 ?_
  refine lv_iload_n hx hb (m_d ok_L_law o1) rfl q2 ?_
  exact s_call ho kk Cx hS hlo hc1 hc2 hL hsA hn hX j hj
/-- the place behind the loop -/
theorem s_cellB {L : List (Option Value)} {B : Nat × Nat} {h : St} {Q : Option Value → St → Prop} (g0 : e_get L 0 = some (.float 0)) (kk : ∀ v : Int32, e_RunI IS y_L_law 209 L [.int v] B h Q) : e_RunI IS y_L_law 203 L [] B h Q := by
  intro p l e R s m args below meth c D b cI cS H0 Z Cx H locs cells slots ls hS hlo hc1 hc2 hL
  obtain ⟨hx, hb, hml, hown, hts, hK, hfr, hlc, hnm, hret, hscr⟩ := id Cx
  obtain ⟨sA, n, xs, ha, hsA, hn, hX⟩ := hscr rfl
  have q0 := e_LH_get hL g0
  rw [ha, x0_law] at q0
  refine lv_aload_n hx hb (m_d ok_L_law (pc := 203) rfl) rfl q0 ?_
  refine lv_bipush hx hb (v := 18) (m_d ok_L_law (pc := 204) rfl) (by decide) ?_
  exact s_call (pc := 206) rfl kk Cx hS hlo hc1 hc2 hL hsA hn hX 18 (by omega)
end
section
/-! what the law asks of answers that belong together -/
section
variable {S : Nat → Int} {n : Nat} {H : Nat → Nat → Int} {N : Nat} {T : Nat → Nat} {f : Nat} {G : Nat → Int} {h h1 : St}
theorem CI.up (hI : CI S n H N T f G h) {hi : Nat} (a : Fr 90 hi h h1) : CI S n H N T f G h1 := ⟨hI.1.fr a (by omega), hI.2.1.fr a (by omega), hI.2.2.1.fr a (by omega), hI.2.2.2.fr a (by omega)⟩
end
theorem lg_self (x : Int64) : lg_cmp x x = 0 := by
  unfold lg_cmp
  rw [if_neg (fun z => Int64.lt_irrefl z), if_pos rfl]
/-! clashes -/
def Cl1 (S : Nat → Int) (hr : Int) (p : Nat) : Prop := p < 3072 ∧ clq S hr ((p % 64 : Nat) : Int) ((p / 64 : Nat) : Int) ∧ ∀ q : Nat, q < p → ¬ clq S hr ((q % 64 : Nat) : Int) ((q / 64 : Nat) : Int)
theorem Cl1_u {S : Nat → Int} {hr : Int} {p q : Nat} (a : Cl1 S hr p) (b : Cl1 S hr q) : p = q := by
  rcases Nat.lt_trichotomy p q with h | h | h
  · exact absurd a.2.1 (b.2.2 p h)
  · exact h
  · exact absurd b.2.1 (a.2.2 q h)
theorem cla_0 {S : Nat → Int} {r : Int} (h : ClaR S 0 r) : ∃ hr, HerR S (S 1).toNat hr ∧ r = clN S hr 3072 := by
  rcases h with ⟨h1, -⟩ | ⟨-, hr, h2, h3⟩
  · exact absurd (by omega) h1
  · refine ⟨hr, h2, ?_⟩
    rcases h3 with h3 | ⟨h3, -⟩ | ⟨h3, -⟩
    · exact h3.2
    · exact absurd rfl h3
    · exact absurd rfl h3
theorem cl_some {S : Nat → Int} {hr : Int} (h : 0 < clN S hr 3072) : ∃ p : Nat, p < 3072 ∧ clq S hr ((p % 64 : Nat) : Int) ((p / 64 : Nat) : Int) := by
  refine Classical.byContradiction (fun z => ?_)
  have : clN S hr 3072 = 0 := sm_zero.mpr (fun p hp => cI_f (fun w => z ⟨p, hp, w⟩))
  omega
theorem cla_w {S : Nat → Int} {w r hr : Int} (hw : 1 ≤ w ∧ w ≤ 3) (hh : HerR S (S 1).toNat hr) (hc : ∃ p : Nat, p < 3072 ∧ clq S hr ((p % 64 : Nat) : Int) ((p / 64 : Nat) : Int)) (h : ClaR S w r) : ∃ p, Cl1 S hr p ∧ (w = 1 → r = ((p % 64 : Nat) : Int)) ∧ (w = 2 → r = ((p / 64 : Nat) : Int)) ∧ (w = 3 → FirR S ((p % 64 : Nat) : Int) ((p / 64 : Nat) : Int) hr r) := by
  rcases h with ⟨h1, -⟩ | ⟨-, hr', h2, h3⟩
  · exact absurd (by omega) h1
  · have e := HerR_u h2 hh
    subst e
    rcases h3 with h3 | ⟨-, -, h3⟩ | ⟨-, p, p1, p2, p3, p4⟩
    · omega
    · obtain ⟨p, p1, p2⟩ := hc
      exact absurd p2 (h3 p p1)
    · refine ⟨p, ⟨p1, p2, p3⟩, fun z => ?_, fun z => ?_, fun z => ?_⟩
      · rcases p4 with p4 | p4 | p4
        · exact p4.2
        · omega
        · omega
      · rcases p4 with p4 | p4 | p4
        · omega
        · exact p4.2
        · omega
      · rcases p4 with p4 | p4 | p4
        · omega
        · omega
        · exact p4.2
theorem clq_lit {S : Nat → Int} {hr x y : Int} (h : clq S hr x y) : lit S x y := by
  obtain ⟨-, -, -, k, k1, k2, -, k4⟩ := h
  exact ⟨k, k1, k2, k4⟩
theorem clq_fir {S : Nat → Int} (hW : WF S) {hr x y r : Int} (h : clq S hr x y) (hf : FirR S x y hr r) : r ≠ hr ∧ 0 ≤ r ∧ r < 20 := by
  obtain ⟨-, -, -, k, k1, k2, k3, k4⟩ := h
  rcases hf with ⟨j, j1, j2, j3, -, -, j6⟩ | ⟨-, j2⟩
  · have := hW.od j1
    exact ⟨by rw [j6]; exact j3, by omega, by omega⟩
  · exact absurd k4 (j2 k k1 k2 k3)
/-! the best step; until all have been shown -/
theorem bsF_lo (g : Nat → Nat) : ∀ k : Nat, 1 ≤ (bsF g k).1
  | 0 => Nat.le_refl 1
  | k + 1 => by
    have := bsF_lo g k
    unfold bsF
    split
    · exact Nat.le_add_left 1 (k + 1)
    · exact this
theorem bsF_z {g : Nat → Nat} (h : ∀ s, g s = 0) : ∀ k : Nat, bsF g k = (1, 0)
  | 0 => by unfold bsF; rw [h]
  | k + 1 => by
    have := bsF_z h k
    unfold bsF
    rw [this, if_neg (by rw [h]; decide)]
theorem all_1 {S : Nat → Int} (hW : WF S) (h : hidN S = 0) : allS S 1 := by
  intro k hk
  have ho := hW.od hk
  refine ⟨0, by omega, ?_⟩
  have h1 := sm_zero.mp h (od S k) ho.2.1
  show decide (0 < hT S (od S) (S 1).toNat 48 (od S k)) = false
  cases hd : hdd S (od S k) with
  | false => exact hd
  | true => rw [hd] at h1; cases h1
theorem all_le1 {S : Nat → Int} {r : Int} (h1 : allS S 1) (h : AllR S r) : r ≤ 1 := by
  rcases h with ⟨t, t1, t2, t3, t4⟩ | ⟨t1, t2⟩
  · by_cases z : t ≤ 1
    · omega
    · exact absurd h1 (t4 1 (by omega))
  · exact absurd h1 (t2 1 (by omega))
theorem all_n0 {S : Nat → Int} {r : Int} (h1 : 0 < (S 1).toNat) (h : AllR S r) : r ≠ 0 := by
  intro z
  rcases h with ⟨t, t1, t2, t3, t4⟩ | ⟨t1, t2⟩
  · have ht : t = 0 := by omega
    subst ht
    obtain ⟨i, i1, -⟩ := t3 0 h1
    omega
  · omega
theorem all_rg {S : Nat → Int} {r : Int} (h : AllR S r) : -109 ≤ r ∧ r ≤ 60 := by
  rcases h with ⟨t, t1, t2, -⟩ | ⟨t1, -⟩ <;> omega
/-! who is there stays there -/
theorem thr_ex {S : Nat → Int} {p : Int} : thr S p ↔ ∃ k, k < (S 1).toNat ∧ S (6 + k) = p := by
  constructor
  · intro g
    obtain ⟨g1, -, g3⟩ := thr_pos g
    exact ⟨_, g1, g3⟩
  · rintro ⟨k, hk, e⟩ z
    exact pos_no.mp z k hk e
theorem thr_cg {S S' : Nat → Int} (h1 : S' 1 = S 1) (ho : ∀ k, k < (S 1).toNat → S' (6 + k) = S (6 + k)) {p : Int} (g : thr S p) : thr S' p := by
  obtain ⟨k, hk, e⟩ := thr_ex.mp g
  exact thr_ex.mpr ⟨k, by rw [h1]; exact hk, by rw [ho k hk]; exact e⟩
theorem turnL_in {B : Nat → Bool} {rule : Int} {step n : Nat} {o : Nat → Nat} {k : Nat} (hk : k < n) : o k ∈ turnL B rule step n o := by
  have ho : o k ∈ ol o n := List.mem_map.mpr ⟨k, List.mem_range.mpr hk, rfl⟩
  unfold turnL
  by_cases h2 : rule = 2
  · rw [if_pos h2]
    cases hb : B (o k) with
    | true => exact List.mem_append_left _ (List.mem_filter.mpr ⟨ho, hb⟩)
    | false => exact List.mem_append_right _ (List.mem_filter.mpr ⟨ho, by simp [hb]⟩)
  · rw [if_neg h2]
    by_cases h1 : rule = 1
    · rw [if_pos h1]
      have hs : step % n < n := Nat.mod_lt _ (by omega)
      by_cases z : step % n ≤ k
      · refine List.mem_map.mpr ⟨k - step % n, List.mem_range.mpr (by omega), ?_⟩
        rw [Nat.add_mod, Nat.mod_eq_of_lt (a := k - step % n) (by omega), show k - step % n + step % n = k by omega, Nat.mod_eq_of_lt hk]
      · refine List.mem_map.mpr ⟨k + n - step % n, List.mem_range.mpr (by omega), ?_⟩
        rw [Nat.add_mod, Nat.mod_eq_of_lt (a := k + n - step % n) (by omega), show k + n - step % n + step % n = k + n by omega, Nat.add_mod_right, Nat.mod_eq_of_lt hk]
    · rw [if_neg h1]; exact ho
theorem thr_fr {S : Nat → Int} (hW : WF S) {p : Nat} (g : thr S (p : Int)) : thr (frS S) (p : Int) := by
  obtain ⟨k, hk, e⟩ := (thr_od hW).mp g
  have hm := turnL_in (B := hdd S) (rule := S 3) (step := (S 4).toNat) (o := od S) hk
  rw [e] at hm
  obtain ⟨j, hj, ej⟩ := List.getElem_of_mem hm
  have hl := turnL_len (hdd S) (S 3) (S 4).toNat (S 1).toNat (od S)
  have hn := hW.n
  refine thr_ex.mpr ⟨j, by rw [frS_1 hW]; omega, ?_⟩
  have hx : frS S (6 + j) = (fl (turnL (hdd S) (S 3) (S 4).toNat (S 1).toNat (od S)) j : Int) := by unfold frS; rw [if_neg (by omega), if_pos (by omega), show 6 + j - 6 = j by omega]
  rw [hx]
  congr 1
  unfold fl
  rw [List.getD_eq_getElem?_getD, List.getElem?_eq_getElem hj]
  exact ej
/-! one puppet alone is shown -/
theorem solo {S : Nat → Int} {p : Nat} {x l c : Int} (h2 : S 2 = 1) (hn : 0 < (S 1).toNat) (h0 : S 6 = (p : Int)) (hs : stn S p l) (h : ColR S x l c) : c = if setp S p x l then S (26 + 9 * p + 4) else 0 := by
  have ho : od S 0 = p := by show (S 6).toNat = p; rw [h0]; rfl
  have hv : ∀ k, vis S l k → k = 0 := by
    intro k hk
    by_cases z : k = 0
    · exact z
    · have h3 := cn_lt (S := S) (o := od S) (y := l) (j := 0) (k := k) (by omega) (by rw [ho]; exact hs)
      have h4 := hk.2
      omega
  have hv0 : vis S l 0 := ⟨by rw [ho]; exact hs, by rw [h2]; show ((0 : Nat) : Int) < 1; omega⟩
  obtain ⟨r, hr, e⟩ := h
  rcases hr with ⟨k, k1, k2, k3, k4, k5, k6⟩ | ⟨k1, k2⟩
  · have hk := hv k k2
    subst hk
    rw [ho] at k4
    have k6 : r = (p : Int) := k6.trans h0
    rw [if_pos k4]
    rw [if_neg (by omega)] at e
    rw [e, k6, Int.toNat_natCast]
  · have hz : ¬ setp S p x l := fun z => k2 0 hn hv0 (by show S 6 ≠ -109; omega) (by rw [ho]; exact z)
    rw [if_neg hz]
    rw [if_pos k1] at e
    exact e
theorem pix_0 {S : Nat → Int} {p dx dy : Nat} (h : S (26 + 9 * p + 5) = 0) : pix S p dx dy = (S (206 + 8 * (((S (26 + 9 * p + 3)).toNat + dy / 8) % 8) + dy % 8)).toNat.testBit (7 - dx) := by
  unfold pix pxD pxC pxR
  rw [h, if_neg (by decide), if_neg (by decide)]
theorem pix_3 {S : Nat → Int} {p dx dy : Nat} (h : S (26 + 9 * p + 5) = 3) : pix S p dx dy = (S (206 + 8 * (((S (26 + 9 * p + 3)).toNat + (hghN S p - 1 - dy) / 8) % 8) + (hghN S p - 1 - dy) % 8)).toNat.testBit (7 - (7 - dx)) := by
  unfold pix pxD pxC pxR
  rw [h, if_pos (by decide), if_pos (by decide)]
theorem pix_flip {S : Nat → Int} {p b k : Nat} (hp : p < 20) (h : S (26 + 9 * p + 5) = 0) (hb : b < 8) (hk : k < hghN S p) : pix (u1 S (26 + 9 * p + 5) 3) p (7 - b) (hghN S p - 1 - k) = pix S p b k := by
  have e2 : hghN (u1 S (26 + 9 * p + 5) 3) p = hghN S p := by unfold hghN; rw [u1_n _ _ (by omega)]
  have e3 : u1 S (26 + 9 * p + 5) 3 (26 + 9 * p + 3) = S (26 + 9 * p + 3) := u1_n _ _ (by omega)
  rw [pix_3 (u1_s _ _ _), pix_0 h, e2, e3, show hghN S p - 1 - (hghN S p - 1 - k) = k by omega, show 7 - (7 - (7 - b)) = 7 - b by omega, u1_n _ _ (by omega)]
/-- a row of dots, from the left to the right, as bits from the lowest on -/
def RB (S : Nat → Int) (p y : Nat) : Nat → Nat
  | 0 => 0
  | x + 1 => if pix S p x y = true then RB S p y x ||| 2 ^ x else RB S p y x
theorem RB_b (S : Nat → Int) (p y : Nat) : ∀ x, x ≤ 8 → RB S p y x < 2 ^ 20
  | 0, _ => show 0 < 2 ^ 20 by decide
  | x + 1, hx => by
    unfold RB
    split
    · exact bit_or_b (RB_b S p y x (by omega)) (by omega)
    · exact RB_b S p y x (by omega)
theorem RB_t (S : Nat → Int) (p y b : Nat) : ∀ x, (RB S p y x).testBit b = true → pix S p b y = true
  | 0, h => by simp [RB] at h
  | x + 1, h => by
    unfold RB at h
    by_cases z : pix S p x y = true
    · rw [if_pos z, bit_or_t, Bool.or_eq_true] at h
      rcases h with h | h
      · exact RB_t S p y b x h
      · have := of_decide_eq_true h
        subst this
        exact z
    · rw [if_neg z] at h
      exact RB_t S p y b x h
end
section
/-! the law's end: refused calls -/
def QL : Option Value → St → Prop := fun r _ => r = some (.int 1)
abbrev LR (pc : Nat) (L : List (Option Value)) (st : List Value) (B : Nat × Nat) (h : St) : Prop := e_RunI IS y_L_law pc L st B h QL
section
variable {S : Nat → Int} {n : Nat} {H : Nat → Nat → Int} {N : Nat} {T : Nat → Nat} {f : Nat} {G : Nat → Int} {h : St}
set_option maxRecDepth 100000 in
set_option maxHeartbeats 4000000 in
theorem l_end {L2 L3 L4 L5 L6 L7 L9 L10 L11 L12 L13 : Option Value} {z8 : Int32} {B : Nat × Nat} (hI : CI S n H N T f G h) (hW : WF S) (hn : n ≤ 5) : LR 681 [some (.float 0), some (.ref 0), L2, L3, L4, L5, L6, L7, some (.int z8), L9, L10, L11, L12, L13] [] B h := by
  refine w_loop IS_ok [] ok_L_law ?_
  refine c_L_digest hI hW (fun h1 f1 => ?_)
  have I1 := hI.lk f1
  refine c_P_setRow I1 hW hn 8 0 0 (fun _ h2 f2 I2 => ?_) (fun g => absurd g (by omega)) rfl rfl rfl (by omega) (by omega) (by omega)
  refine c_P_come I2 hW hn 64 0 0 0 1 (fun _ h3 f3 I3 => ?_) (fun g => absurd g (by omega)) (fun g => absurd g (by omega)) rfl rfl rfl rfl rfl (by omega) (by omega) (by omega) (by omega) (by omega)
  refine c_P_setLimit I3 hW hn 9 (fun _ h4 f4 I4 => ?_) (fun g => absurd g (by omega)) rfl (by omega)
  refine c_P_setRule I4 hW hn 3 1 (fun _ h5 f5 I5 => ?_) (fun g => absurd g (by omega)) rfl rfl (by omega) (by omega)
  refine c_P_dot I5 hW 64 0 (fun h6 r6 f6 hr6 => ?_) rfl rfl (by omega) (by omega)
  have e6 : r6 = -101 := by
    rcases hr6 with ⟨-, e⟩ | ⟨g, -⟩
    · exact e
    · exact absurd g (by omega)
  refine w_eq r6 (-101) (fun _ => ?_) (fun g => absurd e6 g) rfl rfl
  have I6 := I5.lk f6
  refine c_P_line I6 hW 48 0 (fun h7 r7 f7 hr7 => ?_) rfl rfl (by omega) (by omega)
  have e7 : r7 = -101 := by
    rcases hr7 with ⟨-, e⟩ | ⟨g, -⟩
    · exact e
    · exact absurd g (by omega)
  refine w_eq r7 (-101) (fun _ => ?_) (fun g => absurd e7 g) rfl rfl
  have I7 := I6.lk f7
  refine c_P_clash I7 hW 4 (fun h8 r8 f8 hr8 => ?_) rfl (by omega)
  have e8 : r8 = -101 := by
    rcases hr8 with ⟨-, e⟩ | ⟨g, -⟩
    · exact e
    · exact absurd g (by omega)
  refine w_eq r8 (-101) (fun _ => ?_) (fun g => absurd e8 g) rfl rfl
  have I8 := I7.lk f8
  refine c_P_bestStep I8 hW 2 (fun h9 r9 f9 hr9 => ?_) rfl (by omega)
  have e9 : r9 = -101 := by
    rcases hr9 with ⟨-, e⟩ | ⟨g, -⟩ | ⟨g, -⟩
    · exact e
    · exact absurd g (by omega)
    · exact absurd g (by omega)
  refine w_eq r9 (-101) (fun _ => ?_) (fun g => absurd e9 g) rfl rfl
  have I9 := I8.lk f9
  refine c_L_digest I9 hW (fun h10 f10 => ?_)
  refine w_t (lg_self _) ?_
  exact ⟨Or.inr rfl, rfl⟩
end
end
section
/-! the law: one puppet, seen from both sides -/
def SP (S : Nat → Int) (p : Nat) : Prop := S 2 = 1 ∧ 0 < (S 1).toNat ∧ S 6 = (p : Int) ∧ S (26 + 9 * p) = 20 ∧ S (26 + 9 * p + 1) = 20 ∧ 1 ≤ S (26 + 9 * p + 4)
theorem hghN_b (S : Nat → Int) (p : Nat) : hghN S p = 8 ∨ hghN S p = 16 := by unfold hghN; split <;> omega
theorem solo_dot {S : Nat → Int} {p x y : Nat} {c X Y : Int} (hp : SP S p) (hx : x < 8) (hy : y < hghN S p) (eX : X = 20 + x) (eY : Y = 20 + y) (h : DotR S X Y c) : c = if pix S p x y = true then S (26 + 9 * p + 4) else 0 := by
  obtain ⟨p1, p2, p3, p4, p5, p6⟩ := hp
  have hb := hghN_b S p
  have hi := hghN_i S p
  subst eX; subst eY
  have hs : stn S p ((20 : Int) + y) := ⟨by omega, by omega⟩
  rcases h with ⟨h1, -⟩ | ⟨-, h2⟩
  · exact absurd ⟨by omega, by omega⟩ h1
  · have e := solo p1 p2 p3 hs h2
    have e1 : ((20 : Int) + x - S (26 + 9 * p)).toNat = x := by omega
    have e2 : ((20 : Int) + y - S (26 + 9 * p + 1)).toNat = y := by omega
    by_cases z : pix S p x y = true
    · rw [if_pos z]
      rw [if_pos ⟨⟨by omega, by omega⟩, ⟨by omega, by omega⟩, by rw [e1, e2]; exact z⟩] at e
      exact e
    · rw [if_neg z]
      rw [if_neg (fun w => z (by have := w.2.2; rw [e1, e2] at this; exact this))] at e
      exact e
theorem s_len90 {h : St} (hf : h.1 90 0 = 1) : s_len h 90 = some 16 := by
  unfold s_len
  exact if_pos hf
theorem s_newI90 {h : St} (hf : h.1 90 0 = 0) : s_newI h 16 = some (90, (u2 h.1 90 0 1, u1 h.2 90 (fun _ => 0))) := by
  unfold s_newI
  exact if_pos hf
theorem fr_wr {h : St} (j : Nat) (x : Int32) : Fr 90 91 h (wa h 90 j x) := ⟨fun _ _ => rfl, fun o ho => wa_o h 90 j x (by omega)⟩
theorem fr_new {h : St} : Fr 90 91 h (u2 h.1 90 0 1, u1 h.2 90 (fun _ => 0)) := ⟨fun o ho => u1_n _ _ (by omega), fun o ho => u1_n _ _ (by omega)⟩
section
variable {S : Nat → Int} {n : Nat} {H : Nat → Nat → Int} {N : Nat} {T : Nat → Nat} {f : Nat} {G : Nat → Int} {h : St}
set_option maxRecDepth 100000 in
set_option maxHeartbeats 8000000 in
/-- the last loop: the turned puppet -/
theorem l_back {p : Nat} {v z8 z11 : Int32} {B : Nat × Nat} {L3 L4 L6 L7 L13 : Option Value} (hW : WF S) (hn : n ≤ 5) (hp20 : p < 20) (hp : SP S p) (V : Nat → Int) (hS : S = u1 V (26 + 9 * p + 5) 3) (hV : V (26 + 9 * p + 5) = 0) : ∀ (m k : Nat) (hc : St) (z12 : Int32), k + m = hghN V p → CI S n H N T f G hc → hc.1 90 0 = 1 → (∀ y, y < hghN V p → hc.2 90 y = nI (RB V p y 8)) → z12 = iI (k : Nat) → LR 624 [some (.float 0), some (.ref 0), some (.int v), L3, L4, some (.int (iI (p : Nat))), L6, L7, some (.int z8), some (.int (iI (hghN V p : Nat))), some (.ref 90), some (.int z11), some (.int z12), L13] [] B hc := by
  have hb := hghN_b V p
  have eh : hghN S p = hghN V p := by rw [hS]; unfold hghN; rw [u1_n _ _ (by omega)]
  have hl := lowN_lt v (n := 8) (by omega)
  intro m
  induction m with
  | zero =>
    intro k hc z12 hm hI hfl hrow e12
    refine w_loop IS_ok [624, 681] ok_L_law ?_
    exact w_le (hghN V p : Nat) k (fun _ => l_end hI hW hn) (fun _ => by omega) rfl e12
  | succ m ih =>
    intro k hc z12 hm hI hfl hrow e12
    have nx : ∀ hc' : St, Fr 15 38 hc hc' → LR 675 [some (.float 0), some (.ref 0), some (.int v), L3, L4, some (.int (iI (p : Nat))), L6, L7, some (.int z8), some (.int (iI (hghN V p : Nat))), some (.ref 90), some (.int z11), some (.int z12), L13] [] B hc' := by
      intro hc' fr
      refine w_loop IS_ok [624] ok_L_law ?_
      exact ih (k + 1) hc' _ (by omega) (hI.lk fr) (by rw [fr.1 90 (by omega)]; exact hfl) (fun y hy => by rw [fr.2 90 (by omega)]; exact hrow y hy) (iI_1 e12)
    refine w_loop IS_ok [624, 675, 681] ok_L_law ?_
    refine w_le (hghN V p : Nat) k (fun _ => by omega) (fun _ => ?_) rfl e12
    refine w_mn 16 (s_len90 hfl) ?_
    refine w_ix k ?_ e12 (by omega)
    refine c_L_low 8 (by omega) (by omega) ?_ rfl
    have hrb := RB_b V p k 8 (by omega)
    have ev : (hc.2 90 k >>> (iI (lowN v 8 : Nat) &&& 31)) &&& 1 = iI (if (RB V p k 8).testBit (lowN v 8) then 1 else 0) := by
      rw [hrow k (by omega)]
      exact bit_at hrb (by omega)
    refine w_eq (if (RB V p k 8).testBit (lowN v 8) then 1 else 0) 1 (fun g => ?_) (fun _ => nx hc Fr.rf) ev rfl (by split <;> omega)
    have hpix : pix V p (lowN v 8) k = true := by
      refine RB_t V p k (lowN v 8) 8 ?_
      cases hz : (RB V p k 8).testBit (lowN v 8) with
      | true => rfl
      | false => rw [hz] at g; exact absurd g (by decide)
    refine c_L_low 8 (by omega) (by omega) ?_ rfl
    refine c_P_dot hI hW (27 - (lowN v 8 : Nat)) (19 + (hghN V p : Nat) - k) (fun h2 r f2 hr => ?_) (iI_sub 27 ((lowN v 8 : Nat) : Int)) ?_ (by omega) (by omega)
    · have e := solo_dot (x := 7 - lowN v 8) (y := hghN V p - 1 - k) hp (by omega) (by omega) (by omega) (by omega) hr
      have hf := pix_flip hp20 hV hl (k := k) (by omega)
      rw [← hS, hpix] at hf
      rw [if_pos hf] at e
      have h1 := hp.2.2.2.2.2
      have h9 := (hW.wp p hp20).2.2.2.2.1
      refine w_eq r 0 (fun z => by omega) (fun _ => nx h2 f2) rfl rfl (by omega)
    · rw [e12]
      exact ((congrArg (fun q => q - iI (k : Nat)) (iI_add 19 ((hghN V p : Nat) : Int))).trans (iI_sub (19 + ((hghN V p : Nat) : Int)) (k : Int)))
end
end
section
/-! the law: one puppet, its dots read into a row -/
theorem or_z (w : Nat) : nI w ||| 0 = nI w := by
  have := fa_or w 0
  rw [Nat.or_zero] at this
  exact this
section
variable {S : Nat → Int} {n : Nat} {H : Nat → Nat → Int} {N : Nat} {T : Nat → Nat} {f : Nat} {G : Nat → Int} {h : St}
set_option maxRecDepth 100000 in
set_option maxHeartbeats 8000000 in
/-- from the reading loop on -/
theorem l_rows {p : Nat} {v z8 : Int32} {B : Nat × Nat} {L3 L4 L6 L7 : Option Value} (hW : WF S) (hn : n ≤ 5) (hp20 : p < 20) (g : thr S (p : Int)) (hp : SP S p) (hV : S (26 + 9 * p + 5) = 0) : ∀ (m y : Nat) (hc : St) (z12 : Int32) (L13 : Option Value), y + m = hghN S p → CI S n H N T f G hc → hc.1 90 0 = 1 → (∀ q, q < y → hc.2 90 q = nI (RB S p q 8)) → (∀ q, y ≤ q → hc.2 90 q = 0) → z12 = iI (y : Nat) → LR 549 [some (.float 0), some (.ref 0), some (.int v), L3, L4, some (.int (iI (p : Nat))), L6, L7, some (.int z8), some (.int (iI (hghN S p : Nat))), some (.ref 90), some (.int (iI (S (26 + 9 * p + 4)))), some (.int z12), L13] [] B hc := by
  have hb := hghN_b S p
  have hcol := (hW.wp p hp20).2.2.2.2.1
  have h1 := hp.2.2.2.2.2
  have hpb := thr_b hW g
  intro m
  induction m with
  | zero =>
    intro y hc z12 L13 hm hI hfl hrow hrest e12
    refine w_loop IS_ok [549, 624] ok_L_law ?_
    refine w_le (hghN S p : Nat) y (fun _ => ?_) (fun _ => by omega) rfl e12
    refine c_P_turn hI hW hn (p : Nat) 3 (fun z => absurd ⟨g, by omega⟩ z) (fun _ h2 f2 I2 => ?_) rfl rfl (by omega) (by omega)
    have eh : hghN (u1 S (26 + 9 * p + 5) 3) p = hghN S p := by unfold hghN; rw [u1_n _ _ (by omega)]
    obtain ⟨p1, p2, p3, p4, p5, p6⟩ := hp
    refine l_back (S := u1 S (26 + 9 * p + 5) 3) (hW.tu (by omega) (by omega)) (psN_le hn) hp20 ⟨?_, ?_, ?_, ?_, ?_, ?_⟩ S rfl hV (hghN S p) 0 h2 _ (by omega) I2 (by rw [f2.1 90 (by omega)]; exact hfl) (fun q hq => by rw [f2.2 90 (by omega)]; exact hrow q (by omega)) rfl
    · rw [u1_n _ _ (by omega)]; exact p1
    · rw [u1_n _ _ (by omega)]; exact p2
    · rw [u1_n _ _ (by omega)]; exact p3
    · rw [u1_n _ _ (by omega)]; exact p4
    · rw [u1_n _ _ (by omega)]; exact p5
    · rw [u1_n _ _ (by omega)]; exact p6
  | succ m ih =>
    intro y hc z12 L13 hm hI hfl hrow hrest e12
    refine w_loop IS_ok [549, 559, 624] ok_L_law ?_
    refine w_le (hghN S p : Nat) y (fun _ => by omega) (fun _ => ?_) rfl e12
    -- the columns
    have inner : ∀ (mm x : Nat) (h2 : St) (z13 : Int32), x + mm = 8 → CI S n H N T f G h2 → h2.1 90 0 = 1 → (∀ q, q < y → h2.2 90 q = nI (RB S p q 8)) → h2.2 90 y = nI (RB S p y x) → (∀ q, y < q → h2.2 90 q = 0) → z13 = iI (x : Nat) → LR 559 [some (.float 0), some (.ref 0), some (.int v), L3, L4, some (.int (iI (p : Nat))), L6, L7, some (.int z8), some (.int (iI (hghN S p : Nat))), some (.ref 90), some (.int (iI (S (26 + 9 * p + 4)))), some (.int z12), some (.int z13)] [] B h2 := by
      intro mm
      induction mm with
      | zero =>
        intro x h2 z13 hx I2 fl2 r1 r2 r3 e13
        have hx8 : x = 8 := by omega
        subst hx8
        refine w_loop IS_ok [549, 559] ok_L_law ?_
        refine w_le 8 8 (fun _ => ?_) (fun _ => by omega) rfl e13
        refine ih (y + 1) h2 _ _ (by omega) I2 fl2 (fun q hq => ?_) (fun q hq => r3 q (by omega)) (iI_1 e12)
        by_cases z : q = y
        · subst z; exact r2
        · exact r1 q (by omega)
      | succ mm ih2 =>
        intro x h2 z13 hx I2 fl2 r1 r2 r3 e13
        refine w_loop IS_ok [559, 599] ok_L_law ?_
        refine w_le 8 x (fun _ => by omega) (fun _ => ?_) rfl e13
        refine w_mn 16 (s_len90 fl2) ?_
        refine w_ix y ?_ e12 (by omega)
        refine c_P_dot I2 hW (20 + (x : Nat)) (20 + (y : Nat)) (fun h3 c f3 hr => ?_) (by rw [e13]; exact iI_add 20 (x : Int)) (by rw [e12]; exact iI_add 20 (y : Int)) (by omega) (by omega)
        have e := solo_dot (x := x) (y := y) hp (by omega) (by omega) rfl rfl hr
        have I3 := I2.lk f3
        have fl3 : h3.1 90 0 = 1 := by rw [f3.1 90 (by omega)]; exact fl2
        have q3 : h3.2 90 = h2.2 90 := f3.2 90 (by omega)
        have hcr : 0 ≤ c ∧ c ≤ 9 := by
          rw [e]
          split <;> omega
        -- the bit is put in
        have put : ∀ w : Int32, nI (RB S p y x) ||| w = nI (RB S p y (x + 1)) → LR 599 [some (.float 0), some (.ref 0), some (.int v), L3, L4, some (.int (iI (p : Nat))), L6, L7, some (.int z8), some (.int (iI (hghN S p : Nat))), some (.ref 90), some (.int (iI (S (26 + 9 * p + 4)))), some (.int z12), some (.int z13)] [.int w, .int (h2.2 90 y), .int z12, .ref 90] B h3 := by
          intro w hw
          refine w_loop IS_ok [559] ok_L_law ?_
          refine w_mn 16 (s_len90 fl3) ?_
          refine w_ix y ?_ e12 (by omega)
          have fw := fr_wr (h := h3) y (h2.2 90 y ||| w)
          refine ih2 (x + 1) (wa h3 90 y (h2.2 90 y ||| w)) _ (by omega) (I3.up fw) fl3 (fun q hq => ?_) ?_ (fun q hq => ?_) (iI_1 e13)
          · rw [wa_n _ _ _ _ (by omega), q3]; exact r1 q hq
          · rw [wa_s, r2]; exact hw
          · rw [wa_n _ _ _ _ (by omega), q3]; exact r3 q hq
        have erb : RB S p y (x + 1) = if pix S p x y = true then RB S p y x ||| 2 ^ x else RB S p y x := rfl
        refine w_eq c (S (26 + 9 * p + 4)) (fun z => ?_) (fun z => ?_) rfl rfl
        · have hp1 : pix S p x y = true := Classical.byContradiction (fun w => by rw [if_neg w] at e; omega)
          rw [if_pos hp1] at erb
          refine put _ ?_
          rw [erb, e13]
          exact bit_or (by omega)
        · have hp0 : ¬ pix S p x y = true := fun w => by rw [if_pos w] at e; exact z e
          rw [if_neg hp0] at erb
          refine put _ ?_
          rw [erb]
          exact or_z _
    exact inner 8 0 hc _ rfl hI hfl hrow (by rw [hrest y (by omega)]; rfl) (fun q hq => hrest q (by omega)) rfl
end
end
section
/-! the law: a puppet is made the first one, alone, at a place of its own -/
section
variable {S : Nat → Int} {n : Nat} {H : Nat → Nat → Int} {N : Nat} {T : Nat → Nat} {f : Nat} {G : Nat → Int} {h : St}
set_option maxRecDepth 100000 in
set_option maxHeartbeats 8000000 in
theorem l_flip {p : Nat} {v z7 z8 : Int32} {L3 L4 L6 L9 L10 L11 L12 L13 : Option Value} (hI : CI S n H N T f G h) (hW : WF S) (hn : n ≤ 5) (g : thr S (p : Int)) (hfl : h.1 90 0 = 0) : LR 479 [some (.float 0), some (.ref 0), some (.int v), L3, L4, some (.int (iI (p : Nat))), L6, some (.int z7), some (.int z8), L9, L10, L11, L12, L13] [] (1, 16) h := by
  have hpb := thr_b hW g
  have hN := hW.n
  have hp20 : p < 20 := by omega
  have hcol := hW.col (p := p) (by omega)
  refine w_loop IS_ok [521, 549] ok_L_law ?_
  refine c_P_setLimit hI hW hn 1 (fun z => absurd (by omega) z) (fun _ h1 f1 I1 => ?_) rfl (by omega)
  have W1 := hW.li (l := 1) (by omega)
  have g1 : thr (u1 S 2 1) (p : Int) := thr_cg (u1_n _ _ (by omega)) (fun k _ => u1_n _ _ (by omega)) g
  refine c_P_lift I1 W1 (psN_le hn) (p : Nat) (fun z => absurd g1 z) (fun _ h2 f2 I2 => ?_) rfl (by omega)
  have W2 := W1.ord W1.n.2.1 (fun S' hR => wf_lft W1 (thr_pos g1).1 hR)
  have tp := thr_pos g1
  have e21 : ordS (u1 S 2 1) ((u1 S 2 1) 1).toNat (lftO (od (u1 S 2 1)) (pos (u1 S 2 1) (p : Int) ((u1 S 2 1) 1).toNat).toNat) 1 = S 1 := by
    show (((u1 S 2 1 1).toNat : Nat) : Int) = S 1
    rw [u1_n _ _ (by omega)]
    exact hN.1.symm
  have e22 : ordS (u1 S 2 1) ((u1 S 2 1) 1).toNat (lftO (od (u1 S 2 1)) (pos (u1 S 2 1) (p : Int) ((u1 S 2 1) 1).toNat).toNat) 2 = 1 := rfl
  have e26 : ordS (u1 S 2 1) ((u1 S 2 1) 1).toNat (lftO (od (u1 S 2 1)) (pos (u1 S 2 1) (p : Int) ((u1 S 2 1) 1).toNat).toNat) 6 = (p : Int) := by
    show ((od (u1 S 2 1) (pos (u1 S 2 1) (p : Int) ((u1 S 2 1) 1).toNat).toNat : Nat) : Int) = p
    rw [← (W1.od tp.1).1]
    exact tp.2.2
  have ehi : ∀ i, 26 ≤ i → ordS (u1 S 2 1) ((u1 S 2 1) 1).toNat (lftO (od (u1 S 2 1)) (pos (u1 S 2 1) (p : Int) ((u1 S 2 1) 1).toNat).toNat) i = S i := fun i hi => by
    unfold ordS
    rw [if_neg (by omega), if_neg (by omega), u1_n _ _ (by omega)]
  have e20 : ordS (u1 S 2 1) ((u1 S 2 1) 1).toNat (lftO (od (u1 S 2 1)) (pos (u1 S 2 1) (p : Int) ((u1 S 2 1) 1).toNat).toNat) 0 = S 0 := by
    unfold ordS
    rw [if_neg (by omega), if_neg (by omega), u1_n _ _ (by omega)]
  generalize ordS (u1 S 2 1) ((u1 S 2 1) 1).toNat (lftO (od (u1 S 2 1)) (pos (u1 S 2 1) (p : Int) ((u1 S 2 1) 1).toNat).toNat) = Y at *
  have hn0 : 0 < (S 1).toNat := by
    obtain ⟨k, hk, -⟩ := thr_ex.mp g
    omega
  have g2 : thr Y (p : Int) := thr_ex.mpr ⟨0, by rw [e21]; exact hn0, e26⟩
  refine c_P_move I2 W2 (psN_le (psN_le hn)) (p : Nat) 20 20 (fun z => absurd ⟨g2, by omega, by omega⟩ z) (fun _ h3 f3 I3 => ?_) rfl rfl rfl (by omega) (by omega) (by omega)
  have W3 : WF (mvS Y p 20 20) := W2.mv (by rw [e20]; omega) (by omega) (by omega)
  have I3 : CI (mvS Y p 20 20) _ _ N T f G h3 := I3
  have g3 : thr (mvS Y p 20 20) (p : Int) := thr_cg (mvS_n (by omega) (by omega)) (fun k hk => mvS_n (by have := W2.n; omega) (by have := W2.n; omega)) g2
  refine c_P_puppet I3 W3 (p : Nat) 2 (fun h4 r4 f4 hr4 => ?_) rfl rfl (by omega) (by omega)
  have v4 : r4 = mvS Y p 20 20 (26 + 9 * p + 2) := pup_lo g3 (by omega) hr4
  have hw3 := (W3.wp p hp20).2.2.1
  have I4 := I3.lk f4
  have key : ∀ z : Int32, z = iI (hghN (mvS Y p 20 20) p : Nat) → LR 521 [some (.float 0), some (.ref 0), some (.int v), L3, L4, some (.int (iI (p : Nat))), L6, some (.int z7), some (.int z8), L9, L10, L11, L12, L13] [.int z] (1, 16) h4 := by
    intro z hz
    have hb := hghN_b (mvS Y p 20 20) p
    refine w_loop IS_ok [549] ok_L_law ?_
    refine c_P_turn I4 W3 (psN_le (psN_le (psN_le hn))) (p : Nat) 0 (fun w => absurd ⟨g3, by omega⟩ w) (fun _ h5 f5 I5 => ?_) rfl rfl (by omega) (by omega)
    have I5 : CI (u1 (mvS Y p 20 20) (26 + 9 * p + 5) 0) _ _ N T f G h5 := I5
    have W5 : WF (u1 (mvS Y p 20 20) (26 + 9 * p + 5) 0) := W3.tu (by rw [mvS_n (by omega) (by omega), e20]; omega) (by omega)
    have g5 : thr (u1 (mvS Y p 20 20) (26 + 9 * p + 5) 0) (p : Int) := thr_cg (u1_n _ _ (by omega)) (fun k hk => u1_n _ _ (by have := W3.n; omega)) g3
    have eh : hghN (u1 (mvS Y p 20 20) (26 + 9 * p + 5) 0) p = hghN (mvS Y p 20 20) p := by unfold hghN; rw [u1_n _ _ (by omega)]
    have fl5 : h5.1 90 0 = 0 := by
      rw [f5.1 90 (by omega), f4.1 90 (by omega), f3.1 90 (by omega), f2.1 90 (by omega), f1.1 90 (by omega)]
      exact hfl
    refine ⟨16, by decide, ?_⟩
    refine w_mo 90 _ (s_newI90 fl5) ?_
    have I6 := I5.up (fr_new (h := h5))
    refine c_P_puppet I6 W5 (p : Nat) 4 (fun h7 r7 f7 hr7 => ?_) rfl rfl (by omega) (by omega)
    have v7 : r7 = u1 (mvS Y p 20 20) (26 + 9 * p + 5) 0 (26 + 9 * p + 4) := pup_lo g5 (by omega) hr7
    rw [v7]
    have I7 := I6.lk f7
    rw [← eh] at hz
    subst hz
    refine l_rows W5 (psN_le (psN_le (psN_le (psN_le hn)))) hp20 g5 ⟨?_, ?_, ?_, ?_, ?_, ?_⟩ (u1_s _ _ _) _ 0 h7 _ _ (Nat.zero_add _) I7 ?_ (fun q hq => absurd hq (Nat.not_lt_zero _)) (fun q _ => ?_) rfl
    · rw [u1_n _ _ (by omega), mvS_n (by omega) (by omega)]; exact e22
    · rw [u1_n _ _ (by omega), mvS_n (by omega) (by omega), e21]; exact hn0
    · rw [u1_n _ _ (by omega), mvS_n (by omega) (by omega)]; exact e26
    · rw [u1_n _ _ (by omega)]; unfold mvS; rw [u1_n _ _ (by omega), u1_s]
    · rw [u1_n _ _ (by omega)]; unfold mvS; rw [u1_s]
    · rw [u1_n _ _ (by omega), mvS_n (by omega) (by omega), ehi _ (by omega)]; exact hcol
    · rw [f7.1 90 (by omega)]
      show u2 h5.1 90 0 1 90 0 = 1
      unfold u2
      rw [u1_s, u1_s]
    · rw [f7.2 90 (by omega)]
      show u1 h5.2 90 (fun _ => 0) 90 q = 0
      rw [u1_s]
  rw [v4]
  refine w_eq (mvS Y p 20 20 (26 + 9 * p + 2)) 1 (fun z => key _ ?_) (fun z => key _ ?_) rfl rfl
  · unfold hghN; rw [if_pos z]; rfl
  · unfold hghN; rw [if_neg z]; rfl
end
end
section
/-! the law: a forecast, and the frames themselves -/
section
variable {S : Nat → Int} {n : Nat} {H : Nat → Nat → Int} {N : Nat} {T : Nat → Nat} {f : Nat} {G : Nat → Int} {h : St}
theorem fut_0 {S : Nat → Int} (hW : WF S) : Fut S (S 3) (S 4).toNat 0 S := by
  have h4 := hW.2.2.2.2.1
  exact ⟨⟨rfl, rfl, rfl, by omega, by omega⟩, fun _ _ => ⟨rfl, rfl⟩, fun _ _ => rfl, fun p _ => by show _ = _ + ((0 : Nat) : Int); omega⟩
set_option maxRecDepth 100000 in
set_option maxHeartbeats 8000000 in
theorem l_told {p fr : Nat} {r w : Int} {v z4 z5 z6 : Int32} {L3 L10 L11 L12 L13 : Option Value} {h3 : St} (I3 : CI S n H N T f G h3) (hW : WF S) (hn : n ≤ 5) (h5 : S 5 ≤ 100) (fl3 : h3.1 90 0 = 0) (hp20 : p < 20) (hfr0 : 0 < fr) (hfr9 : fr < 9) (hr : HinR S (p : Nat) (fr : Nat) r) (hw : PupR S (p : Nat) 9 w) (e5 : z5 = iI (p : Nat)) (e6 : z6 = iI (fr : Nat)) : LR 420 [some (.float 0), some (.ref 0), some (.int v), L3, some (.int z4), some (.int z5), some (.int z6), some (.int (iI r)), some (.int (iI w)), some (.int 0), L10, L11, L12, L13] [] (1, 16) h3 := by
  subst e5; subst e6
  have hN := hW.n
  by_cases g : thr S (p : Int)
  · have er : r = (ofn S (S 3) (S 4).toNat p fr : Nat) := by
      rcases hr with ⟨z, -⟩ | ⟨-, z⟩
      · exact absurd ⟨g, by omega⟩ z
      · exact z
    have ew : w = S (26 + 9 * p + 6) := pup_hi g (by omega) hw
    have hle := ofn_le S (S 3) (S 4).toNat p fr
    have hwp := (hW.wp p hp20).2.2.2.2.2.2.1
    have h5' := hW.2.2.2.2.2.1
    -- behind the frames
    have fin : ∀ (X : Nat → Int) (nX : Nat) (HX : Nat → Nat → Int) (hc : St) (z9 : Int32), CI X nX HX N T f G hc → WF X → nX ≤ 5 → Fut S (S 3) (S 4).toNat fr X → thr X (p : Int) → hc.1 90 0 = 0 → LR 443 [some (.float 0), some (.ref 0), some (.int v), L3, some (.int z4), some (.int (iI (p : Nat))), some (.int (iI (fr : Nat))), some (.int (iI r)), some (.int (iI w)), some (.int z9), L10, L11, L12, L13] [] (1, 16) hc := by
      intro X nX HX hc z9 IX WX' hnX hF gX flX
      have hX6 := hF.2.2.2 p hp20
      have hXw := (WX'.wp p hp20).2.2.2.2.2.2.1
      have hX5 := WX'.2.2.2.2.2.1
      refine w_loop IS_ok [479] ok_L_law ?_
      refine w_lt r 0 (fun z => by omega) (fun _ => ?_) rfl rfl
      refine c_P_puppet IX WX' (p : Nat) 9 (fun h4 w4 f4 hw4 => ?_) rfl rfl (by omega) (by omega)
      have e4 : w4 = X (26 + 9 * p + 6) := pup_hi gX (by omega) hw4
      have I4 := IX.lk f4
      refine w_eq w4 (w + r) (fun _ => ?_) (fun z => absurd (by omega) z) rfl (iI_add w r)
      refine c_P_count I4 WX' 0 (fun h5'' r5 f5 hr5 => ?_) rfl (by omega)
      rw [cnt_0 hr5]
      have hn0 : 0 < (X 1).toNat := by
        obtain ⟨k, hk, -⟩ := thr_ex.mp gX
        omega
      have hnX' := WX'.n
      refine w_le (X 1) 0 (fun z => by omega) (fun _ => ?_) rfl rfl
      refine w_lt r 0 (fun z => by omega) (fun _ => ?_) rfl rfl
      exact l_flip (I4.lk f5) WX' hnX gX (by rw [f5.1 90 (by omega), f4.1 90 (by omega)]; exact flX)
    have loop : ∀ (m k : Nat) (X : Nat → Int) (nX : Nat) (HX : Nat → Nat → Int) (hc : St) (z9 : Int32), k + m = fr → CI X nX HX N T f G hc → WF X → nX ≤ 5 → Fut S (S 3) (S 4).toNat k X → thr X (p : Int) → hc.1 90 0 = 0 → z9 = iI (k : Nat) → LR 420 [some (.float 0), some (.ref 0), some (.int v), L3, some (.int z4), some (.int (iI (p : Nat))), some (.int (iI (fr : Nat))), some (.int (iI r)), some (.int (iI w)), some (.int z9), L10, L11, L12, L13] [] (1, 16) hc := by
      intro m
      induction m with
      | zero =>
        intro k X nX HX hc z9 hm IX WX' hnX hF gX flX e9
        have hk : k = fr := by omega
        subst hk
        refine w_loop IS_ok [420, 443] ok_L_law ?_
        exact w_le (k : Nat) (k : Nat) (fun _ => fin X nX HX hc _ IX WX' hnX hF gX flX) (fun _ => by omega) rfl e9
      | succ m ih =>
        intro k X nX HX hc z9 hm IX WX' hnX hF gX flX e9
        refine w_loop IS_ok [420, 443] ok_L_law ?_
        refine w_le (fr : Nat) (k : Nat) (fun _ => by omega) (fun _ => ?_) rfl e9
        refine w_lt r 0 (fun z => by omega) (fun _ => ?_) rfl rfl
        have h5k := hF.1.2.2.2.2
        have hne : X 5 ≠ 9999 := by omega
        refine c_P_frame IX WX' hnX (fun z => absurd z hne) (fun _ h4 f4 I4 => ?_)
        exact ih (k + 1) (frS X) _ _ h4 _ (by omega) I4 (wf_fr WX' (rf_fr WX') hne) (psN_le hnX) (hF.s hW WX'.wg) (thr_fr WX' gX) (by rw [f4.1 90 (by omega)]; exact flX) (iI_1 e9)
    exact loop fr 0 S n H h3 _ (by omega) I3 hW hn (fut_0 hW) g fl3 rfl
  · have er : r = -101 := by
      rcases hr with ⟨-, z⟩ | ⟨z, -⟩
      · exact z
      · exact absurd z.1 g
    refine w_loop IS_ok [681] ok_L_law ?_
    refine w_le (fr : Nat) 0 (fun _ => by omega) (fun _ => ?_) rfl rfl
    refine w_lt r 0 (fun _ => ?_) (fun _ => by omega) rfl rfl
    refine w_lt r 0 (fun _ => ?_) (fun _ => by omega) rfl rfl
    refine c_P_count I3 hW 0 (fun h4 r4 f4 hr4 => ?_) rfl (by omega)
    rw [cnt_0 hr4]
    refine w_le (S 1) 0 (fun _ => l_end (I3.lk f4) hW hn) (fun _ => ?_) rfl rfl
    exact w_lt r 0 (fun _ => l_end (I3.lk f4) hW hn) (fun _ => by omega) rfl rfl
set_option maxRecDepth 100000 in
set_option maxHeartbeats 8000000 in
theorem l_frames {v z4 : Int32} {L3 L5 L6 L7 L8 L9 L10 L11 L12 L13 : Option Value} (hI : CI S n H N T f G h) (hW : WF S) (hn : n ≤ 5) (h5 : S 5 ≤ 100) (hfl : h.1 90 0 = 0) : LR 374 [some (.float 0), some (.ref 0), some (.int v), L3, some (.int z4), L5, L6, L7, L8, L9, L10, L11, L12, L13] [] (1, 16) h := by
  have hp20 := thV_b hW (sh v 9)
  have hl := lowN_lt (sh v 12) (n := 8) (by omega)
  refine w_loop IS_ok [420] ok_L_law ?_
  refine c_L_there hI hW (fun h1 f1 => ?_)
  have I1 := hI.lk f1
  refine c_L_low 8 (by omega) (by omega) ?_ rfl
  have e6 : (1 : Int32) + iI (lowN (sh v 12) 8 : Nat) = iI ((1 + lowN (sh v 12) 8 : Nat) : Int) := (iI_add 1 ((lowN (sh v 12) 8 : Nat) : Int)).trans (congrArg iI (by omega))
  refine c_P_hiddenIn I1 hW (thV S (sh v 9) : Nat) ((1 + lowN (sh v 12) 8 : Nat) : Int) (fun h2 r f2 hr => ?_) rfl e6 (by omega) (by omega)
  have I2 := I1.lk f2
  refine c_P_puppet I2 hW (thV S (sh v 9) : Nat) 9 (fun h3 w f3 hw => ?_) rfl rfl (by omega) (by omega)
  have I3 := I2.lk f3
  exact l_told I3 hW hn h5 (by rw [f3.1 90 (by omega), f2.1 90 (by omega), f1.1 90 (by omega)]; exact hfl) hp20 (by omega) (by omega) hr hw rfl e6
end
end
section
/-! the law: behind its acts -/
theorem clN_le (S : Nat → Int) (hr : Int) (n : Nat) : clN S hr n ≤ n := Nat.le_trans (sm_le (b := 1) (fun i _ => cI_le _)) (by omega)
section
variable {S : Nat → Int} {n : Nat} {H : Nat → Nat → Int} {N : Nat} {T : Nat → Nat} {f : Nat} {G : Nat → Int} {h : St}
theorem bst_1 {r : Int} (h : BstR S 1 r) : 0 ≤ r ∧ r ≤ 20 := by
  have := bsF_b (g := grb S) (fun s => grb_b S s) 18
  rcases h with ⟨z, -⟩ | ⟨z, -⟩ | ⟨-, z⟩
  · exact absurd (by omega) z
  · omega
  · omega
theorem bst_0 {r : Int} (h : BstR S 0 r) : 1 ≤ r ∧ r ≤ 19 := by
  have := bsF_b (g := grb S) (fun s => grb_b S s) 18
  have := bsF_lo (grb S) 18
  rcases h with ⟨z, -⟩ | ⟨-, z⟩ | ⟨z, -⟩
  · exact absurd (by omega) z
  · omega
  · omega
set_option maxRecDepth 100000 in
set_option maxHeartbeats 8000000 in
theorem l_best {v : Int32} {L3 L4 L5 L6 L7 L8 L9 L10 L11 L12 L13 : Option Value} (hI : CI S n H N T f G h) (hW : WF S) (hn : n ≤ 5) (h5 : S 5 ≤ 100) (hfl : h.1 90 0 = 0) : LR 303 [some (.float 0), some (.ref 0), some (.int v), L3, L4, L5, L6, L7, L8, L9, L10, L11, L12, L13] [] (1, 16) h := by
  have hN := hW.n
  refine w_loop IS_ok [359, 374] ok_L_law ?_
  refine c_P_bestStep hI hW 1 (fun h1 r1 f1 hr1 => ?_) rfl (by omega)
  have b1 := bst_1 hr1
  have I1 := hI.lk f1
  refine c_P_allShownIn I1 hW (fun h2 r2 f2 hr2 => ?_)
  have b2 := all_rg hr2
  have I2 := I1.lk f2
  refine w_lt r1 0 (fun z => by omega) (fun _ => ?_) rfl rfl
  refine w_lt 20 r1 (fun z => by omega) (fun _ => ?_) rfl rfl
  refine c_P_bestStep I2 hW 0 (fun h3 r3 f3 hr3 => ?_) rfl (by omega)
  have b3 := bst_0 hr3
  have I3 := I2.lk f3
  refine w_lt r3 1 (fun z => by omega) (fun _ => ?_) rfl rfl
  refine c_P_bestStep I3 hW 0 (fun h4 r4 f4 hr4 => ?_) rfl (by omega)
  have b4 := bst_0 hr4
  have I4 := I3.lk f4
  refine w_lt 19 r4 (fun z => by omega) (fun _ => ?_) rfl rfl
  refine c_P_count I4 hW 6 (fun h5' r5 f5 hr5 => ?_) rfl (by omega)
  rw [cnt_6 hr5]
  have I5 := I4.lk f5
  have fl5 : h5'.1 90 0 = 0 := by
    rw [f5.1 90 (by omega), f4.1 90 (by omega), f3.1 90 (by omega), f2.1 90 (by omega), f1.1 90 (by omega)]
    exact hfl
  have hle := hidN_le S
  have rest : LR 359 [some (.float 0), some (.ref 0), some (.int v), some (.int (iI r1)), some (.int (iI r2)), L5, L6, L7, L8, L9, L10, L11, L12, L13] [] (1, 16) h5' := by
    refine w_loop IS_ok [374] ok_L_law ?_
    refine c_P_count I5 hW 0 (fun h6 r6 f6 hr6 => ?_) rfl (by omega)
    rw [cnt_0 hr6]
    have I6 := I5.lk f6
    have fl6 : h6.1 90 0 = 0 := by rw [f6.1 90 (by omega)]; exact fl5
    refine w_le (S 1) 0 (fun _ => l_frames I6 hW hn h5 fl6) (fun g => ?_) rfl rfl
    refine w_eq r2 0 (fun z => absurd z (all_n0 (by omega) hr2)) (fun _ => l_frames I6 hW hn h5 fl6) rfl rfl
  refine w_eq (hidN S : Nat) 0 (fun g => ?_) (fun _ => rest) rfl rfl
  have := all_le1 (all_1 hW (by omega)) hr2
  exact w_lt 1 r2 (fun z => by omega) (fun _ => rest) rfl rfl
set_option maxRecDepth 100000 in
set_option maxHeartbeats 8000000 in
theorem l_clash {v : Int32} {L3 L4 L5 L6 L7 L8 L9 L10 L11 L12 L13 : Option Value} (hI : CI S n H N T f G h) (hW : WF S) (hn : n ≤ 5) (h5 : S 5 ≤ 100) (hfl : h.1 90 0 = 0) : LR 248 [some (.float 0), some (.ref 0), some (.int v), L3, L4, L5, L6, L7, L8, L9, L10, L11, L12, L13] [] (1, 16) h := by
  refine w_loop IS_ok [303] ok_L_law ?_
  refine c_P_clash hI hW 0 (fun h1 r1 f1 hr1 => ?_) rfl (by omega)
  obtain ⟨hr, hh, e1⟩ := cla_0 hr1
  have hcl := clN_le S hr 3072
  have hrg := HerR_rg hW hh
  have I1 := hI.lk f1
  have fl1 : h1.1 90 0 = 0 := by rw [f1.1 90 (by omega)]; exact hfl
  refine w_le r1 0 (fun _ => l_best I1 hW hn h5 fl1) (fun g => ?_) rfl rfl
  have hc := cl_some (S := S) (hr := hr) (by omega)
  refine c_P_clash I1 hW 1 (fun h2 r2 f2 hr2 => ?_) rfl (by omega)
  obtain ⟨p, cp, p1, -, -⟩ := cla_w (by omega) hh hc hr2
  have e2 := p1 rfl
  have hp := cp.1
  have I2 := I1.lk f2
  refine c_P_clash I2 hW 2 (fun h3 r3 f3 hr3 => ?_) rfl (by omega)
  obtain ⟨q, cq, -, q2, -⟩ := cla_w (by omega) hh hc hr3
  have e := Cl1_u cq cp
  subst e
  have e3 := q2 rfl
  have I3 := I2.lk f3
  refine c_P_dot I3 hW r2 r3 (fun h4 c f4 hr4 => ?_) rfl rfl (by omega) (by omega)
  rw [e2, e3] at hr4
  obtain ⟨⟨d1, d2, d3⟩, -⟩ := dot_c hW (by omega) (by omega) hr4
  have hc0 : 0 < c := d1.mpr (clq_lit cp.2.1)
  have I4 := I3.lk f4
  refine w_eq c 0 (fun z => by omega) (fun _ => ?_) rfl rfl
  refine c_P_clash I4 hW 3 (fun h5' r5 f5 hr5 => ?_) rfl (by omega)
  obtain ⟨q5, cq5, -, -, q53⟩ := cla_w (by omega) hh hc hr5
  have e5 := Cl1_u cq5 cp
  subst e5
  have k5 := clq_fir hW cp.2.1 (q53 rfl)
  have I5 := I4.lk f5
  refine c_P_count I5 hW 8 (fun h6 r6 f6 hr6 => ?_) rfl (by omega)
  have e6 := HerR_u (cnt_8 hr6) hh
  have I6 := I5.lk f6
  refine w_eq r5 r6 (fun z => absurd (z.trans e6) k5.1) (fun _ => ?_) rfl rfl (by omega) (by rw [e6]; exact hrg)
  refine c_P_clash I6 hW 3 (fun h7 r7 f7 hr7 => ?_) rfl (by omega)
  obtain ⟨q7, cq7, -, -, q73⟩ := cla_w (by omega) hh hc hr7
  have e7 := Cl1_u cq7 cp
  subst e7
  have k7 := clq_fir hW cp.2.1 (q73 rfl)
  have I7 := I6.lk f7
  refine w_le 0 r7 (fun _ => ?_) (fun z => by omega) rfl rfl
  exact l_best I7 hW hn h5 (by rw [f7.1 90 (by omega), f6.1 90 (by omega), f5.1 90 (by omega), f4.1 90 (by omega), f3.1 90 (by omega), f2.1 90 (by omega)]; exact fl1)
set_option maxRecDepth 100000 in
set_option maxHeartbeats 8000000 in
theorem l_after {z2 : Int32} {L3 L4 L5 L6 L7 L8 L9 L10 L11 L12 L13 : Option Value} (hI : CI S n H N T f G h) (hW : WF S) (hX : PX S) (hn : n ≤ 5) (h5 : S 5 ≤ 100) (hfl : h.1 90 0 = 0) : LR 203 [some (.float 0), some (.ref 0), some (.int z2), L3, L4, L5, L6, L7, L8, L9, L10, L11, L12, L13] [] (1, 16) h := by
  refine s_cellB rfl (fun v => ?_)
  have hl1 := lowN_lt v (n := 48) (by omega)
  have hl2 := lowN_lt (sh v 6) (n := 12) (by omega)
  refine w_loop IS_ok [248] ok_L_law ?_
  refine c_L_addsUp hI hW hX (fun h1 f1 => ?_)
  have I1 := hI.lk f1
  refine c_L_low 48 (by omega) (by omega) ?_ rfl
  refine c_L_isLine I1 hW (lowN v 48) hl1 rfl (fun h2 f2 => ?_)
  have I2 := I1.lk f2
  refine c_L_low 12 (by omega) (by omega) ?_ rfl
  refine c_L_isLine I2 hW (lowN (sh v 6) 12) (by omega) rfl (fun h3 f3 => ?_)
  have I3 := I2.lk f3
  exact l_clash I3 hW hn h5 (by rw [f3.1 90 (by omega), f2.1 90 (by omega), f1.1 90 (by omega)]; exact hfl)
end
end
section
/-! the law: its acts, one by one -/
theorem actR_rg {S : Nat → Int} (hS : WF S) (v : Int32) : -200 ≤ (actR S v).1 ∧ (actR S v).1 ≤ 300 := by
  have hn := hS.n
  have hp : ∀ p : Int, thr S p → 0 ≤ pos S p (S 1).toNat ∧ pos S p (S 1).toNat ≤ 20 := fun p g => by have := thr_pos g; omega
  have hq := thV_b hS (sh v 4)
  unfold actR
  by_cases k0 : kkN v = 0
  · rw [if_pos k0]
    have := hS.pic (i := 8 * lowN (sh v 4) 8 + lowN (sh v 7) 8) (by have := lowN_lt (sh v 4) (n := 8) (by omega); have := lowN_lt (sh v 7) (n := 8) (by omega); omega)
    rw [show 206 + (8 * lowN (sh v 4) 8 + lowN (sh v 7) 8) = 206 + 8 * lowN (sh v 4) 8 + lowN (sh v 7) 8 by omega] at this
    dsimp only
    omega
  rw [if_neg k0]
  by_cases k1 : kkN v = 1
  · rw [if_pos k1]
    by_cases g : thr S (thV S (sh v 4) : Nat)
    · rw [if_pos g]; have := hp _ g; dsimp only; omega
    · rw [if_neg g]; dsimp only; omega
  rw [if_neg k1]
  by_cases k2 : kkN v = 2
  · rw [if_pos k2]
    by_cases g : thr S (thV S (sh v 4) : Nat)
    · rw [if_pos g]
      have := lns_le (mvS S (thV S (sh v 4)) ((lowN (sh v 8) 79 : Nat) - 15) ((lowN (sh v 12) 63 : Nat) - 15)) (thV S (sh v 4)) 48
      dsimp only; omega
    · rw [if_neg g]; dsimp only; omega
  rw [if_neg k2]
  by_cases k3 : kkN v = 3
  · rw [if_pos k3]
    by_cases g : thr S (thV S (sh v 4) : Nat)
    · rw [if_pos g]
      have := (hS.wp _ hq).2.2.2.2.2.1
      dsimp only; omega
    · rw [if_neg g]; dsimp only; omega
  rw [if_neg k3]
  by_cases k4 : kkN v = 4
  · rw [if_pos k4]
    by_cases g : thr S (thV S (sh v 4) : Nat)
    · rw [if_pos g]; have := hp _ g; dsimp only; omega
    · rw [if_neg g]; dsimp only; omega
  rw [if_neg k4]
  by_cases k5 : kkN v = 5
  · rw [if_pos k5]
    by_cases g : thr S (thV S (sh v 4) : Nat)
    · rw [if_pos g]; have := hp _ g; dsimp only; omega
    · rw [if_neg g]; dsimp only; omega
  rw [if_neg k5]
  by_cases k6 : kkN v = 6
  · rw [if_pos k6]; have := hS.lim; dsimp only; omega
  rw [if_neg k6]
  by_cases k7 : kkN v = 7
  · rw [if_pos k7]; have := hS.2.2.2.1; dsimp only; omega
  rw [if_neg k7]
  by_cases k8 : kkN v < 12
  · rw [if_pos k8]; have := hidN_le S; dsimp only; omega
  rw [if_neg k8]
  by_cases k9 : S 0 = 20
  · rw [if_pos k9]; dsimp only; omega
  · rw [if_neg k9]; dsimp only; omega
section
variable {S : Nat → Int} {n : Nat} {H : Nat → Nat → Int} {N : Nat} {T : Nat → Nat} {f : Nat} {G : Nat → Int} {h : St}
abbrev LT (z2 a : Int32) (d : Int64) (z6 z7 : Int32) (L8 L9 L10 L11 L12 L13 : Option Value) : List (Option Value) := [some (.float 0), some (.ref 0), some (.int z2), some (.int a), some (.long d), none, some (.int z6), some (.int z7), L8, L9, L10, L11, L12, L13]
set_option maxRecDepth 100000 in
set_option maxHeartbeats 8000000 in
theorem l_chk {z2 a : Int32} {d : Int64} {L8 L9 L10 L11 L12 L13 : Option Value} {B : Nat × Nat} (hW : WF S) (kk : LR 158 (LT z2 a d (iI (hidN S : Nat)) (iI (actR S a).1) L8 L9 L10 L11 L12 L13) [] B h) : LR 131 (LT z2 a d (iI (hidN S : Nat)) (iI (actR S a).1) L8 L9 L10 L11 L12 L13) [] B h := by
  have hk := kk_and a
  have hkl := kkN_lt a
  have hr := actR_rg hW a
  have hh := hidN_le S
  refine w_loop IS_ok [158] ok_L_law ?_
  refine w_le (kkN a : Nat) 7 (fun _ => kk) (fun g => ?_) hk rfl
  refine w_le 12 (kkN a : Nat) (fun _ => kk) (fun g2 => ?_) rfl hk
  exact w_eq (actR S a).1 (hidN S : Nat) (fun _ => kk) (fun z => absurd (actR_fr (by omega) (by omega)) z) rfl rfl
set_option maxRecDepth 100000 in
set_option maxHeartbeats 8000000 in
theorem l_turn {t : Nat} {z2 a : Int32} {L3 L4 L5 L6 L7 L8 L9 L10 L11 L12 L13 : Option Value} (hI : CI S n H N T f G h) (hn : n ≤ 5) (hX : WX S t) (ht : t < 100) (hfl : h.1 90 0 = 0) (nx : ∀ (S' : Nat → Int) (n' : Nat) (H' : Nat → Nat → Int) (h' : St) (L : List (Option Value)), CI S' n' H' N T f G h' → n' ≤ 5 → WX S' (t + 1) → h'.1 90 0 = 0 → L = LT z2 a (dgB S 120) (iI (hidN S : Nat)) (iI (actR S a).1) L8 L9 L10 L11 L12 L13 → LR 197 L [] (1, 16) h') : LR 94 [some (.float 0), some (.ref 0), some (.int z2), L3, L4, L5, L6, L7, L8, L9, L10, L11, L12, L13] [.int a] (1, 16) h := by
  have hW := hX.1
  have h5 := hX.2.2
  have hr := actR_rg hW a
  have hh := hidN_le S
  have hXs := hX.mo (show t ≤ t + 1 by omega)
  have hXa := actR_W hX (by omega) a
  refine w_loop IS_ok [131, 197] ok_L_law ?_
  refine c_L_digest hI hW (fun h1 f1 => ?_)
  have I1 := hI.lk f1
  refine c_P_count I1 hW 6 (fun h2 r2 f2 hr2 => ?_) rfl (by omega)
  rw [cnt_6 hr2]
  have I2 := I1.lk f2
  have fl2 : h2.1 90 0 = 0 := by rw [f2.1 90 (by omega), f1.1 90 (by omega)]; exact hfl
  refine c_L_act I2 hW hn (by omega) (fun g h3 f3 I3 => ?_) (fun g h3 f3 I3 => ?_)
  · refine w_le 0 (actR S a).1 (fun z => by omega) (fun _ => ?_) rfl rfl
    refine c_L_digest I3 hW (fun h4 f4 => ?_)
    refine w_t (lg_self _) ?_
    refine l_chk hW ?_
    refine w_loop IS_ok [197] ok_L_law ?_
    refine w_lt (actR S a).1 0 (fun _ => ?_) (fun z => by omega) rfl rfl
    exact nx S n H h4 _ (I3.lk f4) hn hXs (by rw [f4.1 90 (by omega), f3.1 90 (by omega)]; exact fl2) rfl
  · have fl3 : h3.1 90 0 = 0 := by rw [f3.1 90 (by omega)]; exact fl2
    refine w_le 0 (actR S a).1 (fun _ => ?_) (fun z => by omega) rfl rfl
    refine l_chk hW ?_
    refine w_loop IS_ok [197] ok_L_law ?_
    refine w_lt (actR S a).1 0 (fun z => by omega) (fun _ => ?_) rfl rfl
    refine w_if (fun _ => ?_) (fun _ => ?_)
    · have hn3 := psN_le hn
      have hlast := psH_last hn H S
      refine c_P_undo I3 hn3 (fun _ => by rw [hlast]; exact hW.n.2.1) (fun z => absurd z (by have := psN_pos n; omega)) (fun _ h4 f4 I4 => ?_)
      rw [hlast] at I4
      have fl4 : h4.1 90 0 = 0 := by rw [f4.1 90 (by omega)]; exact fl3
      refine c_L_digest I4 hW (fun h5' f5 => ?_)
      have I5 := I4.lk f5
      refine w_t (lg_self _) ?_
      refine c_L_act I5 hW (by omega) (by omega) (fun g2 => by omega) (fun _ h6 f6 I6 => ?_)
      refine w_eq (actR S a).1 (actR S a).1 (fun _ => ?_) (fun z => absurd rfl z) rfl rfl
      exact nx _ _ _ h6 _ I6 (psN_le (by omega)) hXa (by rw [f6.1 90 (by omega), f5.1 90 (by omega)]; exact fl4) rfl
    · exact nx _ _ _ h3 _ I3 (psN_le hn) hXa fl3 rfl
set_option maxRecDepth 100000 in
set_option maxHeartbeats 8000000 in
theorem l_loop : ∀ (m t : Nat) (S : Nat → Int) (n : Nat) (H : Nat → Nat → Int) (h : St) (z2 : Int32) (L3 L4 L5 L6 L7 L8 L9 L10 L11 L12 L13 : Option Value), t + m = 18 → CI S n H N T f G h → n ≤ 5 → WX S t → h.1 90 0 = 0 → z2 = iI (t : Nat) → LR 67 [some (.float 0), some (.ref 0), some (.int z2), L3, L4, L5, L6, L7, L8, L9, L10, L11, L12, L13] [] (1, 16) h := by
  intro m
  induction m with
  | zero =>
    intro t S n H h z2 L3 L4 L5 L6 L7 L8 L9 L10 L11 L12 L13 hm hI hn hX hfl e2
    have h5 := hX.2.2
    refine w_loop IS_ok [67, 203] ok_L_law ?_
    exact w_le 18 t (fun _ => l_after hI hX.1 hX.2.1 hn (by omega) hfl) (fun _ => by omega) rfl e2
  | succ m ih =>
    intro t S n H h z2 L3 L4 L5 L6 L7 L8 L9 L10 L11 L12 L13 hm hI hn hX hfl e2
    have nx : ∀ (a : Int32) (S' : Nat → Int) (n' : Nat) (H' : Nat → Nat → Int) (h' : St) (L : List (Option Value)), CI S' n' H' N T f G h' → n' ≤ 5 → WX S' (t + 1) → h'.1 90 0 = 0 → L = LT z2 a (dgB S 120) (iI (hidN S : Nat)) (iI (actR S a).1) L8 L9 L10 L11 L12 L13 → LR 197 L [] (1, 16) h' := by
      intro a S' n' H' h' L I' hn' hX' fl' eL
      subst eL
      refine w_loop IS_ok [67] ok_L_law ?_
      exact ih (t + 1) S' n' H' h' _ _ _ _ _ _ _ _ _ _ _ _ (by omega) I' hn' hX' fl' (iI_1 e2)
    have tu : ∀ a : Int32, LR 94 [some (.float 0), some (.ref 0), some (.int z2), L3, L4, L5, L6, L7, L8, L9, L10, L11, L12, L13] [.int a] (1, 16) h := fun a => l_turn hI hn hX (by omega) hfl (nx a)
    refine w_loop IS_ok [67, 78, 89, 203] ok_L_law ?_
    refine w_le 18 t (fun _ => by omega) (fun _ => ?_) rfl e2
    refine w_le 3 t (fun _ => ?_) (fun _ => ?_) rfl e2
    · refine s_cellA rfl rfl rfl t (by omega) rfl (congrArg (fun q => some (Value.int q)) e2) (fun v => ?_)
      exact tu v
    · refine s_cellA rfl rfl rfl t (by omega) rfl (congrArg (fun q => some (Value.int q)) e2) (fun v => ?_)
      refine w_loop IS_ok [94] ok_L_law ?_
      exact tu _
end
end
section
/-! the law: a new object -/
section
set_option maxRecDepth 100000 in
set_option maxHeartbeats 8000000 in
theorem l_first : LR 8 [some (.float 0), some (.ref 0), none, none, none, none, none, none, none, none, none, none, none, none] [] (1, 16) h9 := by
  have hI := J9
  have hW := S9_W
  have hn0 : (S9 1).toNat = 0 := by decide
  have fl9 : h9.1 90 0 = 0 := F9_c.2.2.2.2.2
  have her : ∀ r, HerR S9 (S9 1).toNat r → r = -109 := by
    intro r h
    rcases h with ⟨-, h2⟩ | ⟨k, h2, -⟩
    · exact h2
    · omega
  have hcq : ∀ x y : Int, ¬ clq S9 (-109) x y := fun x y z => z.1 rfl
  refine w_loop IS_ok [67] ok_L_law ?_
  refine c_P_count hI hW 8 (fun h1 r1 f1 hr1 => ?_) rfl (by omega)
  have e1 := her r1 (cnt_8 hr1)
  have I1 := hI.lk f1
  refine w_eq r1 (-109) (fun _ => ?_) (fun z => absurd e1 z) rfl rfl
  refine c_P_clash I1 hW 0 (fun h2 r2 f2 hr2 => ?_) rfl (by omega)
  have I2 := I1.lk f2
  have e2 : r2 = 0 := by
    obtain ⟨hr, hh, e⟩ := cla_0 hr2
    rw [her hr hh] at e
    rw [e]
    have : clN S9 (-109) 3072 = 0 := sm_zero.mpr (fun p _ => cI_f (hcq _ _))
    omega
  refine w_eq r2 0 (fun _ => ?_) (fun z => absurd e2 z) rfl rfl
  refine c_P_clash I2 hW 1 (fun h3 r3 f3 hr3 => ?_) rfl (by omega)
  have I3 := I2.lk f3
  have e3 : r3 = -109 := by
    rcases hr3 with ⟨z, -⟩ | ⟨-, hr, hh, z⟩
    · exact absurd (by omega) z
    · rw [her hr hh] at z
      rcases z with ⟨z, -⟩ | ⟨-, z, -⟩ | ⟨-, p, -, z, -⟩
      · omega
      · exact z
      · exact absurd z (hcq _ _)
  refine w_eq r3 (-109) (fun _ => ?_) (fun z => absurd e3 z) rfl rfl
  refine c_P_allShownIn I3 hW (fun h4 r4 f4 hr4 => ?_)
  have I4 := I3.lk f4
  have e4 : r4 = 0 := by
    have h0 : allS S9 0 := fun k hk => by omega
    rcases hr4 with ⟨t, t1, t2, t3, t4⟩ | ⟨-, z⟩
    · by_cases w : t = 0
      · omega
      · exact absurd h0 (t4 0 (by omega))
    · exact absurd h0 (z 0 (by omega))
  refine w_eq r4 0 (fun _ => ?_) (fun z => absurd e4 z) rfl rfl
  refine c_P_bestStep I4 hW 0 (fun h5 r5 f5 hr5 => ?_) rfl (by omega)
  have I5 := I4.lk f5
  have e5 : r5 = 1 := by
    have hg : ∀ s, grb S9 s = 0 := fun s => mxF_z (fun p _ => ofn_no hW (fun k hk => by omega))
    have hb := bsF_z hg 18
    rcases hr5 with ⟨z, -⟩ | ⟨-, z⟩ | ⟨z, -⟩
    · exact absurd (by omega) z
    · rw [hb] at z; exact z
    · omega
  refine w_eq r5 1 (fun _ => ?_) (fun z => absurd e5 z) rfl rfl
  refine c_P_failure I5 (by omega) 0 (fun r6 hr6 => ?_) rfl (by omega)
  have e6 : r6 = -109 := by
    rcases hr6 with ⟨z, -⟩ | ⟨-, ⟨-, z⟩ | ⟨z, -⟩⟩
    · exact absurd (by omega) z
    · exact z
    · omega
  refine w_eq r6 (-109) (fun _ => ?_) (fun z => absurd e6 z) rfl rfl
  exact l_loop 18 0 S9 0 _ h5 _ _ _ _ _ _ _ _ _ _ _ _ rfl I5 (by omega) WX9 (by rw [f5.1 90 (by omega), f4.1 90 (by omega), f3.1 90 (by omega), f2.1 90 (by omega), f1.1 90 (by omega)]; exact fl9) rfl
end
end
section
/-! the law: its beginning, in which the objects are made -/
section LAWP
variable {p : Program} {l : Launch} {e : Env} {s : State} {m : MethodId} {below : List Frame} {meth : Method} {c : Code} {D : va_G} {b : Nat} {cI cS : ClassId} {sA Ln : Nat} {xs : Nat → Int32} {Z : State → Prop}
/-- what the prefix knows -/
def p_Cx (p : Program) (s : State) (m : MethodId) (c : Code) (D : va_G) (cI cS : ClassId) (sA : Nat) : Prop :=
  p.tables.exec = Jvm.exec ∧ c.code = mBy 107 ∧ c.maxLocals = 14 ∧ s.vm.findClass (mNm 107).cls = some m.cls ∧ (∀ w ∈ e_WS, w.before #[.ref sA] s = true) ∧ va_K D e_cls (e_tys cI cS) s
def PW (p : Program) (l : Launch) (e : Env) (s : State) (m : MethodId) (below : List Frame) (meth : Method) (c : Code) (D : va_G) (b : Nat) (cI cS : ClassId) (sA : Nat) (Z : State → Prop) (pc cells slots : Nat) (L : List (Nat × Value)) (st : List Value) (h : Kt) : Prop :=
  ∀ (H : Heap) (locs : List Loc) (ls : Array Slot), e_Sim D b cI cS s.heap (k_emb h) H → (∀ q ∈ locs, b ≤ q.base) → lv_has ls 14 L → W p l e room_1 s m #[.ref sA] below meth c H locs cells slots Z (F0 m pc ls st)
theorem p_new {pc x cc n : Nat} {nest : Bool} {r2 : Nat} {hh : List Nat} {sw : List (Int32 × Nat)} {cells slots : Nat} {L : List (Nat × Value)} {st : List Value} {h h' : Kt} (Cx : p_Cx p s m c D cI cS sA) (ho : e_op 107 pc = some (.new x, 3, cc, r2, nest, hh, sw)) (hg : k_new h cc = some (n, h')) (hc : cells + 1 ≤ room_1.cells) (hs : slots + (e_ct cc).2.2.1 ≤ room_1.slots)
    (kk : PW p l e s m below meth c D b cI cS sA Z (pc + 3) (cells + 1) (slots + (e_ct cc).2.2.1) L (.ref (b + n) :: st) h') : PW p l e s m below meth c D b cI cS sA Z pc cells slots L st h := by
  intro H locs ls hS hlo hl
  obtain ⟨hx, hb, hml, hown, hts, hK⟩ := Cx
  obtain ⟨hok, hneed⟩ := okm_at ok_L_law ho
  obtain ⟨hdg, hsw⟩ := okb_dec hok
  dsimp only at hdg hsw
  exact e_new_ok (y := 107) hx hb hown hts hK hS (IC_ok.2.2.2.2.2.2.2.1 _ _ _ hg) hneed hc hs hdg (fun H' hS' => kk H' locs ls hS' hlo hl)
theorem p_init {pc r1 x r2 o : Nat} {nest : Bool} {hh : List Nat} {sw : List (Int32 × Nat)} {cells slots : Nat} {L : List (Nat × Value)} {rst : List Value} {h h' : Kt} (Cx : p_Cx p s m c D cI cS sA) (hC : CC r1 [.ref o] h (fun r g => r = none ∧ g = h')) (ho : e_op 107 pc = some (.invokespecial x, 3, r1, r2, nest, hh, sw)) (hr1 : Nat.beq r1 1000 = false) (hr2 : r2 = 0) (hcat : e_cat rst ≤ 8) (hc : cells + (mRm r1).cells ≤ room_1.cells) (hs : slots + (mRm r1).slots ≤ room_1.slots)
    (kk : PW p l e s m below meth c D b cI cS sA Z (pc + 3) (cells + (mRm r1).cells) (slots + (mRm r1).slots) L (rst.map (e_v b)) h') : PW p l e s m below meth c D b cI cS sA Z pc cells slots L (.ref (b + o) :: rst.map (e_v b)) h := by
  intro H locs ls hS hlo hl
  obtain ⟨hx, hb, hml, hown, hts, hK⟩ := Cx
  obtain ⟨hok, hneed⟩ := okm_at ok_L_law ho
  obtain ⟨hdg, hsw⟩ := okb_dec hok
  dsimp only at hdg hsw
  subst hr2
  simp only [e_okB, hr1, cond_false, Bool.and_eq_true, decide_eq_true_eq] at hok
  have hnw : ∀ w ∈ e_need 107 (.invokespecial x) r1 0 nest sw, w ∈ e_WS := hneed
  simp only [e_need, hr1, cond_false] at hnw
  obtain ⟨hcall, hini⟩ : e_callOk 107 r1 0 = true ∧ ((mNm r1).name = "<init>" ∧ mRet r1 = none) := by
    obtain ⟨-, h2⟩ := hok
    exact ⟨h2.2.1.1, h2.2.1.2, h2.2.2⟩
  obtain ⟨CB, CN⟩ := e_calls (y := 107) (R := room_1) (x := x) (n := 0) (nest := nest) hts hcall (hnw _ (by simp)) (hnw _ (by simp)) (hnw _ (by simp)) (by decide) (by decide)
  rw [hini.2] at CB CN
  have hM := hC l D b cI cS s.heap
  have S : CallFix p m c (mBy 107) (mML 107) s #[.ref sA] e_WS (mNm 107).cls := ⟨hx, hb, hml, hown, hts⟩
  have hPc : ∀ U : State, U.heap = H → s.WarmedH U.vm → e_Pc D b cI cS s.heap (k_emb h) [.ref o] ((([.ref o] : List Value).map (e_v b)).toArray) U := fun U hU hW => ⟨rfl, by rw [hU]; exact hS, va_K.moved hW.alike hK⟩
  have hsz : ls.size = mML 107 := hl.1
  have hrestW : ∀ g : JFrame, g.monitorRoom = 0 → 2 * g.monitorRoom + ((rst.map (e_v b)).map fun v => v.category).sum ≤ 8 := fun g hg => by rw [hg, e_cat_sum]; omega
  have fin : ∀ (r : Option Value) (σ' : Sg) (H' : Heap) (locs' : List Loc), (∃ g, σ' = IC.1 g ∧ (r = none ∧ g = h')) → e_Sim D b cI cS s.heap σ' H' → (∀ q ∈ locs', b ≤ q.base) → W p l e room_1 s m #[.ref sA] below meth c H' locs' (cells + (mRm r1).cells) (slots + (mRm r1).slots) Z (F0 m (pc + 3) ls ((r.toList ++ rst).map (e_v b))) := by
    intro r σ' H' locs' ⟨g, e1, e2, e3⟩ hS' hlo'
    subst e1; subst e2; subst e3
    exact kk H' locs' ls hS' hlo' hl
  cases nest with
  | false => exact e_back (va_runI (b := b + o) (As := []) S hM ⟨CB rfl, hini.1, hts _ (hnw _ (by simp))⟩ ⟨e_blind, hPc⟩ rfl rfl hsz rfl (hrestW _ rfl) hdg ⟨hc, hs⟩) hlo fin
  | true => exact e_back (va_runIN (b := b + o) (As := []) S hM ⟨CN rfl, hini.1, hts _ (hnw _ (by simp))⟩ ⟨e_blind, hPc⟩ rfl rfl hsz rfl (hrestW _ rfl) hdg ⟨hc, hs⟩) hlo fin
end LAWP
/-! the law: from its entry -/
theorem e_inst_all : (List.range 12).all (fun c => decide (Cond.instantiable (e_ct c).1 (e_ct c).2.2.1 ∈ e_WS)) = true := by decide +kernel
theorem e_arr_all : (Cond.arrayClass .int) ∈ e_WS ∧ (Cond.arrayOver (.object "PuppetTurns$Scene")) ∈ e_WS := by decide +kernel
theorem k_known {s : State} {args : Array Value} (hts : ∀ w ∈ e_WS, w.before args s = true) : ∃ (D : va_G) (cI cS : ClassId), va_K D e_cls (e_tys cI cS) s := by
  have hkn : ∀ c : Nat, ∃ (q : ClassId × (Nat → Nat)), c < 12 → u_Kn s (e_ct c).1 (e_ct c).2.1 (e_ct c).2.2.1 q.1 q.2 := by
    intro c
    by_cases hc : c < 12
    · obtain ⟨cC, iS, h⟩ := u_known hts (e_uws hc) (hts _ (of_decide_eq_true (List.all_eq_true.mp e_inst_all c (List.mem_range.mpr hc))))
      exact ⟨(cC, iS), fun _ => h⟩
    · exact ⟨(0, fun _ => 0), fun z => absurd z hc⟩
  obtain ⟨cI, kI, compI, i1, i2, i3⟩ := Cond.arrayClass_spec (hts _ e_arr_all.1)
  obtain ⟨compS, cS, kS, s1, s2, s3, s4, s5⟩ := Cond.arrayOver_spec (hts _ e_arr_all.2)
  refine ⟨(fun c => (Classical.choose (hkn c)).1, fun c => (Classical.choose (hkn c)).2), cI, cS, fun c q hq => ?_, fun k q hk => ?_⟩
  · have hc : c < 12 := by
      have := (List.getElem?_eq_some_iff.mp hq).1
      simpa [e_cls] using this
    have e1 := (e_cls_at hc).symm.trans hq
    cases e1
    exact Classical.choose_spec (hkn c) hc
  · match k, hk with
    | 0, hk => cases hk; exact ⟨fun N z => ⟨(fun k h => by cases h), kI, i2, compI, i3⟩, i1⟩
    | 1, hk => cases hk; exact ⟨fun N z => ⟨(fun k h => by cases h), kS, s3, compS, s4⟩, kS, compS, s3, s4, s1, s5⟩
    | k + 2, hk => simp [e_tys] at hk
section LAWS
variable {p : Program} {l : Launch} {e : Env} {s : State} {m : MethodId} {below : List Frame} {meth : Method} {c : Code} {D : va_G} {cI cS : ClassId} {sA Ln : Nat} {xs : Nat → Int32} {Z : State → Prop}
set_option maxRecDepth 100000 in
theorem l_start (hx : p.tables.exec = Jvm.exec) (hb : c.code = mBy 107) (hml : c.maxLocals = 14) (hown : s.vm.findClass (mNm 107).cls = some m.cls) (hts : ∀ w ∈ e_WS, w.before #[.ref sA] s = true) (hK : va_K D e_cls (e_tys cI cS) s) (hX : va_X sA Ln xs s s.heap) (hsA : sA < s.heap.size) (hLn : Ln ≤ 260) (hnm : meth.name = (mNm 107).name)
    (hret : e_Ret p l e room_1 s m #[.ref sA] below meth c D s.heap.size cI cS s.heap Z 107 (fun r σ => ∃ h', σ = IS.1 h' ∧ QL r h')) : W p l e room_1 s m #[.ref sA] below meth c s.heap [] 0 0 Z (entryFrame m ([Value.ref sA] : List Value).toArray 14) := by
  have Cx : p_Cx p s m c D cI cS sA := ⟨hx, hb, hml, hown, hts, hK⟩
  have Ex : e_Cx p l e room_1 s m #[.ref sA] below meth c D s.heap.size cI cS s.heap Z 107 (fun r σ => ∃ h', σ = IS.1 h' ∧ QL r h') := ⟨hx, hb, hml, hown, hts, hK, by decide, by decide, hnm, hret, fun _ => ⟨sA, Ln, xs, rfl, hsA, hLn, hX⟩⟩
  have key : PW p l e s m below meth c D s.heap.size cI cS sA Z 0 0 0 [(0, .ref sA)] [] (0, fun _ _ => none, fun _ _ => 0, fun _ _ => 0) := by
    refine p_new Cx (x := 13) (cc := 11) rfl rfl (by decide) (by decide) ?_
    intro H locs ls hS hlo hl
    refine lv_dup hx hb (m_d ok_L_law (pc := 3) rfl) rfl ?_
    refine p_init (o := 0) (r1 := 72) (rst := [.ref 0]) Cx (k_P_0 ⟨rfl, rfl⟩) (pc := 4) rfl rfl rfl (by decide) (by decide) (by decide) ?_ H locs ls hS hlo hl
    intro H locs ls hS hlo hl
    refine lv_astore_n hx hb (m_d ok_L_law (pc := 7) rfl) rfl hl (by decide) rfl (fun ls hl => ?_)
    refine l_first p l e room_1 s m #[.ref sA] below meth c D s.heap.size cI cS s.heap Z Ex H locs _ _ ls (k_end hS) hlo (by decide) (by decide) ⟨rfl, _, hl, fun j w hj => ?_⟩
    match j, hj with
    | 0, hj => cases hj; exact List.mem_cons_of_mem _ List.mem_cons_self
    | 1, hj => cases hj; exact List.mem_cons_self
    | j + 2, hj =>
      have h2 : e_get (e_pad 12) j = some w := hj
      rw [e_pad_get] at h2
      cases h2
  have := key s.heap [] _ ⟨rfl, fun _ _ => rfl, fun o ho => absurd ho (Nat.not_lt_zero _)⟩ (fun q hq => by cases hq) (lv_entry [.ref sA] (n := 14) (Nat.le_of_ble_eq_true rfl))
  rw [lg_entry_eq]
  exact this
end LAWS
end
section
/-! THE CLAIM OUT OF ONE WALK OF THE LAW'S BODY. Your part is whole_start (and what it stands on); all else here is the same for every law, but numbers. -/
def R_law : String := "PuppetTurnsLaw"
def lw_P (b : Addr) (xs : List Int32) (args : Array Value) (s : State) : Prop := args = #[.ref b] ∧ s.IntsAt b xs ∧ xs.length ≤ 260 ∧ (Jvm.Cond.and given_1 narrow_1).before args s = true
def lw_Q (_ : Array Value) (s : State) (o : Outcome) (t : State) : Prop := o = .returned (some (.int 1)) ∧ Framed s o t [] 600000 7302250
def lw_Z (below : List Frame) (a : Array Value) (s : State) : State → Prop := fun t => ∃ o, t.status = .running ∧ Ended t below o ∧ lw_Q a s o t
/-- the law's own end, with 1 on the stack, nothing written that was there before, its room as the claim has it -/
theorem lw_ret {p : Program} {l : Launch} {e : Env} {s : State} {m : MethodId} {below : List Frame} {meth : Method} {c : Code} {b : Nat} (hx : p.tables.exec = Jvm.exec) (hb : c.code = code) (hr : meth.sig.returnType = ret) (hlocks : meth.locks = false) {pc : Nat} {H : Heap} {ls : Array Slot} (hdg : decode code pc = .ok (.ireturn, 1)) : W p l e room_1 s m #[Value.ref b] below meth c H [] 600000 7302250 (lw_Z below #[Value.ref b] s) (F0 m pc ls [.int 1]) := by
  intro T hT X
  obtain ⟨fs, hret, hrun, hended, hW, hframe⟩ := X.leave (v := some (.int 1)) (hlocks := hlocks) (fun h => by rw [hr] at h; cases h)
  have hmeth' : T.vm.method? m = some meth := X.method'
  refine ⟨T.setFrames fs, ?_, .returned (some (.int 1)), hrun, hended, rfl, ⟨_, rfl⟩, hW, hframe⟩
  jvm_step X.here [X.here.top, hx, hb, hdg, hmeth', hr, ret, narrow_b1]
  (try refine ⟨rfl, ?_⟩); (try refine ⟨rfl, ?_⟩)
  first | (intro acts; rw [hret _ acts rfl rfl rfl]) | rw [hret _ _ rfl rfl rfl]
  exact Steps.refl _
/-- what holds at the law's entry: the machine, the code, the tables' words (any of lw_tbl by 'hts w (by decide +kernel)'), the script of L ints xs at the cell b, what the Statement gives of the start (any of its parts by flat_of_before) -/
def lw_At (p : Program) (s : State) (m : MethodId) (meth : Method) (c : Code) (b L : Nat) (xs : Nat → Int32) : Prop :=
  p.tables.exec = Jvm.exec ∧ c.code = code ∧ meth.sig.returnType = ret ∧ c.maxLocals = 14 ∧ s.vm.findClass R_law = some m.cls ∧ (∀ w ∈ lw_tbl, w.before #[Value.ref b] s = true) ∧ va_X b L xs s s.heap ∧ b < s.heap.size ∧ meth.locks = false ∧ (Jvm.Cond.and given_1 narrow_1).before #[Value.ref b] s = true ∧ meth.name = "law"
-- ===== YOUR PART BEGINS =====
/-- YOUR PART: from the entry, for every script of at most 260 ints, the law comes to its end with true ('hflags': the launch's flags, for a law that throws: no stack traces) -/
theorem whole_start {p : Program} {e : Env} {s : State} {m : MethodId} {below : List Frame} {meth : Method} {c : Code} (l : Launch) (hflags : l.flags = flags0) {b L : Nat} {xs : Nat → Int32} (hL : L ≤ 260) (C0 : lw_At p s m meth c b L xs) : W p l e room_1 s m #[Value.ref b] below meth c s.heap [] 0 0 (lw_Z below #[Value.ref b] s) (entryFrame m ([Value.ref b] : List Value).toArray 14) := by
  obtain ⟨hx, hb, hr, hml, hown, hts, hX, hbl, hlocks, -, hnm⟩ := C0
  have hts' : ∀ w ∈ e_WS, w.before #[Value.ref b] s = true := fun w hw => hts w (List.mem_filter.mp hw).1
  obtain ⟨D, cI, cS, hK⟩ := k_known hts'
  refine l_start hx hb hml hown hts' hK hX hbl hL hnm ?_
  intro r σ H locs cells slots pc ls hQ hS hlo hc hs hdg hok
  obtain ⟨h', -, hq⟩ := hQ
  have hq : r = some (.int 1) := hq
  subst hq
  refine va_forget hlo ?_
  refine W.widen (k := 600000) (n := 7302250) hc hs ?_
  exact lw_ret hx hb hr hlocks hdg
-- ===== YOUR PART ENDS =====
set_option maxHeartbeats 4000000 in
theorem lw_walk (l : Launch) (hflags : l.flags = flags0) (b : Addr) (xs : List Int32) : MetFree l x (headSpec (Jvm.Cond.code x code maxLocals ret :: tables_1) room_1) (lw_P b xs) (fun _ _ _ _ _ => True) lw_Q := by
  refine MetFree.of_bodyS (code := code) (maxLocals := maxLocals) (ret := ret) (by decide) ?_ ?_
  · intro args s m h hn
    obtain ⟨meth, c, h1, h2, h3, h4, h5, h6, -, -⟩ := Cond.code_spec hn (atoms_spec (ws := Jvm.Cond.code x code maxLocals ret :: tables_1) h _ List.mem_cons_self)
    exact ⟨meth, c, h1, h2, h3, h4, h5, h6⟩
  · intro p e s m args below meth c s₁ B hml0 hP _
    obtain ⟨rfl, hx, hbd, hgv⟩ := hP
    obtain ⟨scr, harrAt, hlist, hof, hsmall⟩ := hx
    obtain ⟨hcb, hkn, -, -⟩ := State.arrayAt?_spec harrAt
    have hown : s.vm.findClass R_law = some m.cls := findClass_of_methodNamed B.named
    have hts0 : ∀ c ∈ (Jvm.Cond.code x code maxLocals ret :: tables_1), c.before #[Value.ref b] s = true := atoms_spec (ws := Jvm.Cond.code x code maxLocals ret :: tables_1) B.pre
    have hts : ∀ w ∈ lw_tbl, w.before #[Value.ref b] s = true := k2_hts_sels lw_privs (fun w hw => hts0 w (List.mem_cons_of_mem _ hw)) lw_privs_ok
    have hml : c.maxLocals = 14 := B.maxLocals_eq (hts0 _ List.mem_cons_self)
    have X₀ : Stand p l e room_1 s m #[Value.ref b] below meth c s₁ [] 0 0 := Stand.of_body B
    have hh0 : s₁.heap = s.heap := by rw [B.state]; rfl
    have hsz : scr.slots.size = xs.length := by rw [← Array.length_toList, hlist, List.length_map]
    have hval : ∀ j : Nat, j < xs.length → scr.slots[j]? = some (.int (xs.getD j 0)) := fun j hj => by
      rw [← Array.getElem?_toList, hlist]
      simp [hj]
    have hbl : b < s.heap.size := (Array.getElem?_eq_some_iff.mp hcb).1
    have hX : va_X b xs.length (fun j => xs.getD j 0) s s.heap := ⟨scr, hcb, hof, hkn, hsz, hval⟩
    have K : W p l e room_1 s m #[Value.ref b] below meth c s₁.heap [] 0 0 (lw_Z below #[Value.ref b] s) (entryFrame m ([Value.ref b] : List Value).toArray 14) := by
      rw [hh0]
      exact whole_start l hflags hbd ⟨B.exec, B.bytes, B.returns, hml, hown, hts, hX, hbl, B.notSynchronized, hgv, (name_of_methodNamed B.named B.method).1⟩
    obtain ⟨t, a1, o, b1, b2, b3⟩ := K s₁ rfl X₀
    exact ⟨t, o, a1, b1, b2, b3⟩
theorem lw_pre_spec {args : Array Value} {s : State} (h : (Jvm.Cond.and given_1 narrow_1).before args s = true) (hr : rest_1_c.before args s = true) : ∃ (b : Addr) (xs : List Int32), lw_P b xs args s := by
  have hs := flat_of_before _ h
  have hq := flat_of_before _ hr
  have hc : (Cond.count 1).before args s = true := hs _ (by decide +kernel)
  have harr : (Cond.arrayOf (.arg 0) .int).before args s = true := hs _ (by decide +kernel)
  have hle : (Cond.le (.length (.arg 0)) (.int 260)).before args s = true := hs _ (by decide +kernel)
  have hlen : (Cond.isInt (.length (.arg 0))).before args s = true := hq _ (by decide +kernel)
  have hall : (Cond.all (.arg 0) (.isInt (.elem (.arg 0) (.index 0)))).before args s = true := hq _ (by decide +kernel)
  obtain ⟨b, xs, hb, hx⟩ := State.ints_of_pre rfl harr hlen hall
  have hsm : xs.length < 2 ^ 31 := hx.choose_spec.2.2.2
  have hev : (Term.length (.arg 0)).eval args s none [] s = some (.int xs.length.toInt32) := hx.length_eval hb
  have hv := Cond.le_ints hev (show (Term.int 260).eval args s none [] s = some (.int 260) from rfl)
  have hd : xs.length.toInt32 ≤ 260 := by
    simpa [Cond.before, Cond.holds, hv] using hle
  have hN : xs.length ≤ 260 := (Int32.ofNat_le_ofNat hsm (by decide)).mp (show Int32.ofNat xs.length ≤ Int32.ofNat 260 from hd)
  exact ⟨b, xs, Cond.one_arg hc (show args[0]? = some (.ref b) from hb), hx, hN, h⟩
theorem lw_comes (l : Launch) (hflags : l.flags = flags0) : Comes l x (Jvm.Cond.code x code maxLocals ret :: tables_1) room_1 (fun tb e args s => Calls_1 tb e args s ∧ rest_1 tb e args s ∧ Pre_1 tb e args s)
    (fun _ _ args s o t => lw_Q args s o t) := by
  intro p e ha hc hk s m args below hf hfit hheap happ hpre
  obtain ⟨b, xs, hP⟩ := lw_pre_spec hpre.2.2 hpre.2.1
  obtain ⟨k, o, h1, h2, h3, hQ⟩ := lw_walk l hflags b xs p e ha hc hk s m args below hf ((Spec.applies_iff_loose hf).mp happ).1 hP trivial
  exact ⟨k, o, h1, h2, h3, hQ⟩
theorem lw_frame {s t : State} {o : Outcome} {args : Array Value} (h : Framed s o t [] 600000 7302250) :
    Framed s o t (fieldLocs frame_1_writes args s ++ arrayLocs frame_1_arrays args s ++ staticLocs frame_1_statics s) 600000 7302250 := h
theorem lw_limb (L : Cond) (hL : ∀ (args : Array Value) (s t : State), L.after args s (.returned (some (.int 1))) t = true) :
    ArmFor flags0 classFile x code maxLocals ret World_1 tables_1 room_1 Calls_1 rest_1 Pre_1
      (fun tb e a s o t => postC L tb e a s o t ∧ Framed s o t (fieldLocs frame_1_writes a s ++ arrayLocs frame_1_arrays a s ++ staticLocs frame_1_statics s) 600000 7302250) := by
  intro l hflags _ _ p e ha hc hk s m args below hf hfit hheap happ hpre
  obtain ⟨k, o, h1, h2, h3, rfl, hF⟩ := lw_comes l hflags p e ha hc hk s m args below hf hfit hheap happ hpre
  exact ⟨k, _, h1, h2, h3, hL args s _, lw_frame hF⟩
theorem i_vc : Claimed_1_1 ∧ Claimed_1_2 := ⟨lw_limb limb_1_1 (fun args s t => by simp [limb_1_1, Cond.after, Cond.holds, Cond.value]), lw_limb limb_1_2 (fun args s t => Cond.after_iff.mpr (by
  first | (rw [show limb_1_2 = Cond.eq .result (.int 1) from rfl, Cond.eq_ints (x := 1) (y := 1) rfl rfl]; simp; done) | (simp [limb_1_2, Cond.value, Term.eval]; done)))⟩
end
