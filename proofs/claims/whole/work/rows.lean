section
-- ===== PART A: goes FIRST, ahead of the names: the tables' words, and 'selects' of the private methods out of them =====
/-- a private method of a class that the tables say can be made, by its rows of tables_1 -/
def lw_okq (q : MethodName × Nat) : Prop := (q.1.cls ≠ "java/lang/invoke/MethodHandle" ∧ q.1.cls ≠ "java/lang/invoke/VarHandle") ∧ Cond.instantiable q.1.cls q.2 ∈ tables_1 ∧ Cond.privateMethod q.1 ∈ tables_1 ∧ Cond.instanceMethod q.1 ∈ tables_1
theorem lw_p0 : lw_okq (⟨"DryLandModel", "against", "(IIII)I"⟩, 77) := ⟨⟨by decide +kernel, by decide +kernel⟩, List.mem_of_getElem? (i := 1082) (by decide +kernel), List.mem_of_getElem? (i := 1333) (by decide +kernel), List.mem_of_getElem? (i := 1334) (by decide +kernel)⟩
theorem lw_p1 : lw_okq (⟨"DryLandModel", "fails", "(I)I"⟩, 77) := ⟨⟨by decide +kernel, by decide +kernel⟩, List.mem_of_getElem? (i := 1082) (by decide +kernel), List.mem_of_getElem? (i := 1337) (by decide +kernel), List.mem_of_getElem? (i := 1338) (by decide +kernel)⟩
theorem lw_p2 : lw_okq (⟨"DryLandModel", "read", "(II)I"⟩, 77) := ⟨⟨by decide +kernel, by decide +kernel⟩, List.mem_of_getElem? (i := 1082) (by decide +kernel), List.mem_of_getElem? (i := 1341) (by decide +kernel), List.mem_of_getElem? (i := 1342) (by decide +kernel)⟩
theorem lw_p3 : lw_okq (⟨"DryLandModel", "codeAt", "()I"⟩, 77) := ⟨⟨by decide +kernel, by decide +kernel⟩, List.mem_of_getElem? (i := 1082) (by decide +kernel), List.mem_of_getElem? (i := 1345) (by decide +kernel), List.mem_of_getElem? (i := 1346) (by decide +kernel)⟩
theorem lw_p4 : lw_okq (⟨"DryLandModel", "readNumber", "()I"⟩, 77) := ⟨⟨by decide +kernel, by decide +kernel⟩, List.mem_of_getElem? (i := 1082) (by decide +kernel), List.mem_of_getElem? (i := 1352) (by decide +kernel), List.mem_of_getElem? (i := 1353) (by decide +kernel)⟩
theorem lw_p5 : lw_okq (⟨"DryLandModel", "readCode", "(I)V"⟩, 77) := ⟨⟨by decide +kernel, by decide +kernel⟩, List.mem_of_getElem? (i := 1082) (by decide +kernel), List.mem_of_getElem? (i := 1356) (by decide +kernel), List.mem_of_getElem? (i := 1357) (by decide +kernel)⟩
theorem lw_p6 : lw_okq (⟨"DryLandModel", "copyLine", "(II)V"⟩, 77) := ⟨⟨by decide +kernel, by decide +kernel⟩, List.mem_of_getElem? (i := 1082) (by decide +kernel), List.mem_of_getElem? (i := 1363) (by decide +kernel), List.mem_of_getElem? (i := 1364) (by decide +kernel)⟩
theorem lw_p7 : lw_okq (⟨"DryLandModel", "isLine", "(I)Z"⟩, 77) := ⟨⟨by decide +kernel, by decide +kernel⟩, List.mem_of_getElem? (i := 1082) (by decide +kernel), List.mem_of_getElem? (i := 1371) (by decide +kernel), List.mem_of_getElem? (i := 1372) (by decide +kernel)⟩
theorem lw_p8 : lw_okq (⟨"DryLandModel", "whyOf", "(IIIII)I"⟩, 77) := ⟨⟨by decide +kernel, by decide +kernel⟩, List.mem_of_getElem? (i := 1082) (by decide +kernel), List.mem_of_getElem? (i := 1389) (by decide +kernel), List.mem_of_getElem? (i := 1390) (by decide +kernel)⟩
theorem lw_p9 : lw_okq (⟨"DryLandModel", "doesStop", "(IIIIII)Z"⟩, 77) := ⟨⟨by decide +kernel, by decide +kernel⟩, List.mem_of_getElem? (i := 1082) (by decide +kernel), List.mem_of_getElem? (i := 1393) (by decide +kernel), List.mem_of_getElem? (i := 1394) (by decide +kernel)⟩
theorem lw_p10 : lw_okq (⟨"DryLandModel", "isInForce", "(II)Z"⟩, 77) := ⟨⟨by decide +kernel, by decide +kernel⟩, List.mem_of_getElem? (i := 1082) (by decide +kernel), List.mem_of_getElem? (i := 1397) (by decide +kernel), List.mem_of_getElem? (i := 1398) (by decide +kernel)⟩
theorem lw_p11 : lw_okq (⟨"DryLandModel", "findWay", "(I)I"⟩, 77) := ⟨⟨by decide +kernel, by decide +kernel⟩, List.mem_of_getElem? (i := 1082) (by decide +kernel), List.mem_of_getElem? (i := 1417) (by decide +kernel), List.mem_of_getElem? (i := 1418) (by decide +kernel)⟩
theorem lw_p12 : lw_okq (⟨"DryLandModel", "isFree", "(II)Z"⟩, 77) := ⟨⟨by decide +kernel, by decide +kernel⟩, List.mem_of_getElem? (i := 1082) (by decide +kernel), List.mem_of_getElem? (i := 1421) (by decide +kernel), List.mem_of_getElem? (i := 1422) (by decide +kernel)⟩
theorem lw_p13 : lw_okq (⟨"DryLandModel", "isDoctor", "(I)Z"⟩, 77) := ⟨⟨by decide +kernel, by decide +kernel⟩, List.mem_of_getElem? (i := 1082) (by decide +kernel), List.mem_of_getElem? (i := 1437) (by decide +kernel), List.mem_of_getElem? (i := 1438) (by decide +kernel)⟩
theorem lw_p14 : lw_okq (⟨"DryLandModel", "isTooMany", "(II)Z"⟩, 77) := ⟨⟨by decide +kernel, by decide +kernel⟩, List.mem_of_getElem? (i := 1082) (by decide +kernel), List.mem_of_getElem? (i := 1449) (by decide +kernel), List.mem_of_getElem? (i := 1450) (by decide +kernel)⟩
theorem lw_p15 : lw_okq (⟨"DryLandModel", "arePlaces", "(II)Z"⟩, 77) := ⟨⟨by decide +kernel, by decide +kernel⟩, List.mem_of_getElem? (i := 1082) (by decide +kernel), List.mem_of_getElem? (i := 1457) (by decide +kernel), List.mem_of_getElem? (i := 1458) (by decide +kernel)⟩
def lw_privs_1 : List (MethodName × Nat) := [(⟨"DryLandModel", "against", "(IIII)I"⟩, 77), (⟨"DryLandModel", "fails", "(I)I"⟩, 77), (⟨"DryLandModel", "read", "(II)I"⟩, 77), (⟨"DryLandModel", "codeAt", "()I"⟩, 77), (⟨"DryLandModel", "readNumber", "()I"⟩, 77), (⟨"DryLandModel", "readCode", "(I)V"⟩, 77), (⟨"DryLandModel", "copyLine", "(II)V"⟩, 77), (⟨"DryLandModel", "isLine", "(I)Z"⟩, 77), (⟨"DryLandModel", "whyOf", "(IIIII)I"⟩, 77), (⟨"DryLandModel", "doesStop", "(IIIIII)Z"⟩, 77), (⟨"DryLandModel", "isInForce", "(II)Z"⟩, 77), (⟨"DryLandModel", "findWay", "(I)I"⟩, 77), (⟨"DryLandModel", "isFree", "(II)Z"⟩, 77), (⟨"DryLandModel", "isDoctor", "(I)Z"⟩, 77), (⟨"DryLandModel", "isTooMany", "(II)Z"⟩, 77), (⟨"DryLandModel", "arePlaces", "(II)Z"⟩, 77)]
theorem lw_r1 : ∀ q ∈ lw_privs_1, lw_okq q := List.forall_mem_cons.mpr ⟨lw_p0, List.forall_mem_cons.mpr ⟨lw_p1, List.forall_mem_cons.mpr ⟨lw_p2, List.forall_mem_cons.mpr ⟨lw_p3, List.forall_mem_cons.mpr ⟨lw_p4, List.forall_mem_cons.mpr ⟨lw_p5, List.forall_mem_cons.mpr ⟨lw_p6, List.forall_mem_cons.mpr ⟨lw_p7, List.forall_mem_cons.mpr ⟨lw_p8, List.forall_mem_cons.mpr ⟨lw_p9, List.forall_mem_cons.mpr ⟨lw_p10, List.forall_mem_cons.mpr ⟨lw_p11, List.forall_mem_cons.mpr ⟨lw_p12, List.forall_mem_cons.mpr ⟨lw_p13, List.forall_mem_cons.mpr ⟨lw_p14, List.forall_mem_cons.mpr ⟨lw_p15, fun _ h => absurd h List.not_mem_nil⟩⟩⟩⟩⟩⟩⟩⟩⟩⟩⟩⟩⟩⟩⟩⟩
theorem lw_p16 : lw_okq (⟨"DryLandModel", "isTruck", "(I)Z"⟩, 77) := ⟨⟨by decide +kernel, by decide +kernel⟩, List.mem_of_getElem? (i := 1082) (by decide +kernel), List.mem_of_getElem? (i := 1469) (by decide +kernel), List.mem_of_getElem? (i := 1470) (by decide +kernel)⟩
theorem lw_p17 : lw_okq (⟨"DryLandModel", "meeting", "(I)I"⟩, 77) := ⟨⟨by decide +kernel, by decide +kernel⟩, List.mem_of_getElem? (i := 1082) (by decide +kernel), List.mem_of_getElem? (i := 1477) (by decide +kernel), List.mem_of_getElem? (i := 1478) (by decide +kernel)⟩
theorem lw_p18 : lw_okq (⟨"DryLandModel", "doMeet", "(II)Z"⟩, 77) := ⟨⟨by decide +kernel, by decide +kernel⟩, List.mem_of_getElem? (i := 1082) (by decide +kernel), List.mem_of_getElem? (i := 1481) (by decide +kernel), List.mem_of_getElem? (i := 1482) (by decide +kernel)⟩
theorem lw_p19 : lw_okq (⟨"DryLandModel", "agentAt", "(II)I"⟩, 77) := ⟨⟨by decide +kernel, by decide +kernel⟩, List.mem_of_getElem? (i := 1082) (by decide +kernel), List.mem_of_getElem? (i := 1485) (by decide +kernel), List.mem_of_getElem? (i := 1486) (by decide +kernel)⟩
theorem lw_p20 : lw_okq (⟨"DryLandModel", "layMeets", "()V"⟩, 77) := ⟨⟨by decide +kernel, by decide +kernel⟩, List.mem_of_getElem? (i := 1082) (by decide +kernel), List.mem_of_getElem? (i := 1493) (by decide +kernel), List.mem_of_getElem? (i := 1494) (by decide +kernel)⟩
theorem lw_p21 : lw_okq (⟨"DryLandModel", "isWorld", "(I)Z"⟩, 77) := ⟨⟨by decide +kernel, by decide +kernel⟩, List.mem_of_getElem? (i := 1082) (by decide +kernel), List.mem_of_getElem? (i := 1497) (by decide +kernel), List.mem_of_getElem? (i := 1498) (by decide +kernel)⟩
theorem lw_p22 : lw_okq (⟨"DryLandModel", "isPerson", "(I)Z"⟩, 77) := ⟨⟨by decide +kernel, by decide +kernel⟩, List.mem_of_getElem? (i := 1082) (by decide +kernel), List.mem_of_getElem? (i := 1517) (by decide +kernel), List.mem_of_getElem? (i := 1518) (by decide +kernel)⟩
theorem lw_p23 : lw_okq (⟨"DryLandModel", "isCask", "(I)Z"⟩, 77) := ⟨⟨by decide +kernel, by decide +kernel⟩, List.mem_of_getElem? (i := 1082) (by decide +kernel), List.mem_of_getElem? (i := 1521) (by decide +kernel), List.mem_of_getElem? (i := 1522) (by decide +kernel)⟩
theorem lw_p24 : lw_okq (⟨"DryLandModel", "tells", "(IIZI)I"⟩, 77) := ⟨⟨by decide +kernel, by decide +kernel⟩, List.mem_of_getElem? (i := 1082) (by decide +kernel), List.mem_of_getElem? (i := 1525) (by decide +kernel), List.mem_of_getElem? (i := 1526) (by decide +kernel)⟩
theorem lw_p25 : lw_okq (⟨"DryLandModel", "findCuts", "(I)V"⟩, 77) := ⟨⟨by decide +kernel, by decide +kernel⟩, List.mem_of_getElem? (i := 1082) (by decide +kernel), List.mem_of_getElem? (i := 1537) (by decide +kernel), List.mem_of_getElem? (i := 1538) (by decide +kernel)⟩
theorem lw_p26 : lw_okq (⟨"DryLandModel", "layFacts", "(I)V"⟩, 77) := ⟨⟨by decide +kernel, by decide +kernel⟩, List.mem_of_getElem? (i := 1082) (by decide +kernel), List.mem_of_getElem? (i := 1541) (by decide +kernel), List.mem_of_getElem? (i := 1542) (by decide +kernel)⟩
theorem lw_p27 : lw_okq (⟨"DryLandModel", "isCut", "(I)Z"⟩, 77) := ⟨⟨by decide +kernel, by decide +kernel⟩, List.mem_of_getElem? (i := 1082) (by decide +kernel), List.mem_of_getElem? (i := 1545) (by decide +kernel), List.mem_of_getElem? (i := 1546) (by decide +kernel)⟩
theorem lw_p28 : lw_okq (⟨"DryLandModel", "isAnyKnown", "(I)Z"⟩, 77) := ⟨⟨by decide +kernel, by decide +kernel⟩, List.mem_of_getElem? (i := 1082) (by decide +kernel), List.mem_of_getElem? (i := 1556) (by decide +kernel), List.mem_of_getElem? (i := 1557) (by decide +kernel)⟩
theorem lw_p29 : lw_okq (⟨"DryLandModel", "isPaper", "(I)Z"⟩, 77) := ⟨⟨by decide +kernel, by decide +kernel⟩, List.mem_of_getElem? (i := 1082) (by decide +kernel), List.mem_of_getElem? (i := 1572) (by decide +kernel), List.mem_of_getElem? (i := 1573) (by decide +kernel)⟩
theorem lw_p30 : lw_okq (⟨"DryLandModel", "voidsWith", "(I)I"⟩, 77) := ⟨⟨by decide +kernel, by decide +kernel⟩, List.mem_of_getElem? (i := 1082) (by decide +kernel), List.mem_of_getElem? (i := 1580) (by decide +kernel), List.mem_of_getElem? (i := 1581) (by decide +kernel)⟩
theorem lw_p31 : lw_okq (⟨"DryLandModel", "savedBy", "(I)I"⟩, 77) := ⟨⟨by decide +kernel, by decide +kernel⟩, List.mem_of_getElem? (i := 1082) (by decide +kernel), List.mem_of_getElem? (i := 1588) (by decide +kernel), List.mem_of_getElem? (i := 1589) (by decide +kernel)⟩
def lw_privs_2 : List (MethodName × Nat) := [(⟨"DryLandModel", "isTruck", "(I)Z"⟩, 77), (⟨"DryLandModel", "meeting", "(I)I"⟩, 77), (⟨"DryLandModel", "doMeet", "(II)Z"⟩, 77), (⟨"DryLandModel", "agentAt", "(II)I"⟩, 77), (⟨"DryLandModel", "layMeets", "()V"⟩, 77), (⟨"DryLandModel", "isWorld", "(I)Z"⟩, 77), (⟨"DryLandModel", "isPerson", "(I)Z"⟩, 77), (⟨"DryLandModel", "isCask", "(I)Z"⟩, 77), (⟨"DryLandModel", "tells", "(IIZI)I"⟩, 77), (⟨"DryLandModel", "findCuts", "(I)V"⟩, 77), (⟨"DryLandModel", "layFacts", "(I)V"⟩, 77), (⟨"DryLandModel", "isCut", "(I)Z"⟩, 77), (⟨"DryLandModel", "isAnyKnown", "(I)Z"⟩, 77), (⟨"DryLandModel", "isPaper", "(I)Z"⟩, 77), (⟨"DryLandModel", "voidsWith", "(I)I"⟩, 77), (⟨"DryLandModel", "savedBy", "(I)I"⟩, 77)]
theorem lw_r2 : ∀ q ∈ lw_privs_2, lw_okq q := List.forall_mem_cons.mpr ⟨lw_p16, List.forall_mem_cons.mpr ⟨lw_p17, List.forall_mem_cons.mpr ⟨lw_p18, List.forall_mem_cons.mpr ⟨lw_p19, List.forall_mem_cons.mpr ⟨lw_p20, List.forall_mem_cons.mpr ⟨lw_p21, List.forall_mem_cons.mpr ⟨lw_p22, List.forall_mem_cons.mpr ⟨lw_p23, List.forall_mem_cons.mpr ⟨lw_p24, List.forall_mem_cons.mpr ⟨lw_p25, List.forall_mem_cons.mpr ⟨lw_p26, List.forall_mem_cons.mpr ⟨lw_p27, List.forall_mem_cons.mpr ⟨lw_p28, List.forall_mem_cons.mpr ⟨lw_p29, List.forall_mem_cons.mpr ⟨lw_p30, List.forall_mem_cons.mpr ⟨lw_p31, fun _ h => absurd h List.not_mem_nil⟩⟩⟩⟩⟩⟩⟩⟩⟩⟩⟩⟩⟩⟩⟩⟩
theorem lw_p32 : lw_okq (⟨"DryLandModel", "hear", "()I"⟩, 77) := ⟨⟨by decide +kernel, by decide +kernel⟩, List.mem_of_getElem? (i := 1082) (by decide +kernel), List.mem_of_getElem? (i := 1603) (by decide +kernel), List.mem_of_getElem? (i := 1604) (by decide +kernel)⟩
theorem lw_p33 : lw_okq (⟨"DryLandModel", "nextCase", "(II)I"⟩, 77) := ⟨⟨by decide +kernel, by decide +kernel⟩, List.mem_of_getElem? (i := 1082) (by decide +kernel), List.mem_of_getElem? (i := 1607) (by decide +kernel), List.mem_of_getElem? (i := 1608) (by decide +kernel)⟩
theorem lw_p34 : lw_okq (⟨"DryLandModel", "lost", "(I)J"⟩, 77) := ⟨⟨by decide +kernel, by decide +kernel⟩, List.mem_of_getElem? (i := 1082) (by decide +kernel), List.mem_of_getElem? (i := 1675) (by decide +kernel), List.mem_of_getElem? (i := 1676) (by decide +kernel)⟩
theorem lw_p35 : lw_okq (⟨"DryLandModel", "begins", "(I)V"⟩, 77) := ⟨⟨by decide +kernel, by decide +kernel⟩, List.mem_of_getElem? (i := 1082) (by decide +kernel), List.mem_of_getElem? (i := 1683) (by decide +kernel), List.mem_of_getElem? (i := 1684) (by decide +kernel)⟩
theorem lw_p36 : lw_okq (⟨"DryLandModel", "factsOf", "(I)I"⟩, 77) := ⟨⟨by decide +kernel, by decide +kernel⟩, List.mem_of_getElem? (i := 1082) (by decide +kernel), List.mem_of_getElem? (i := 1687) (by decide +kernel), List.mem_of_getElem? (i := 1688) (by decide +kernel)⟩
def lw_privs_3 : List (MethodName × Nat) := [(⟨"DryLandModel", "hear", "()I"⟩, 77), (⟨"DryLandModel", "nextCase", "(II)I"⟩, 77), (⟨"DryLandModel", "lost", "(I)J"⟩, 77), (⟨"DryLandModel", "begins", "(I)V"⟩, 77), (⟨"DryLandModel", "factsOf", "(I)I"⟩, 77)]
theorem lw_r3 : ∀ q ∈ lw_privs_3, lw_okq q := List.forall_mem_cons.mpr ⟨lw_p32, List.forall_mem_cons.mpr ⟨lw_p33, List.forall_mem_cons.mpr ⟨lw_p34, List.forall_mem_cons.mpr ⟨lw_p35, List.forall_mem_cons.mpr ⟨lw_p36, fun _ h => absurd h List.not_mem_nil⟩⟩⟩⟩⟩
def lw_privs : List (MethodName × Nat) := lw_privs_1 ++ (lw_privs_2 ++ (lw_privs_3))
def lw_tbl : List Cond := k2_sels lw_privs ++ tables_1
theorem lw_privs_ok : ∀ q ∈ lw_privs, lw_okq q := by
  show ∀ q ∈ lw_privs_1 ++ (lw_privs_2 ++ (lw_privs_3)), lw_okq q
  exact List.forall_mem_append.mpr ⟨lw_r1, List.forall_mem_append.mpr ⟨lw_r2, lw_r3⟩⟩
end
section
def RX0 : String := "DryLand$Act"
def TX0 : u_T := fun k => match k with
  | 0 => ("DryLand$Act", "lines", "[LDryLand$Line;", true)
  | _ => ("DryLand$Act", "count", "I", false)
def tyX0 : Nat → FieldType := fun k => match k with
  | 0 => .array (.object "DryLand$Line")
  | _ => .int
theorem nmX0 : ∀ a, a < 2 → ∀ b, b < 2 → a ≠ b → (TX0 a).2.1 ≠ (TX0 b).2.1 := by decide +kernel
theorem tyX0_ok : ∀ k, k < 2 → parseFieldDescriptor (TX0 k).2.2.1 = some (tyX0 k) := by decide +kernel
abbrev cX0_init : ByteArray := prog_2_method_1_code
def yX0_init : MethodName := ⟨RX0, "<init>", "()V"⟩
abbrev cX0_addLine : ByteArray := prog_2_method_2_code
def yX0_addLine : MethodName := ⟨RX0, "addLine", "(LDryLand$Line;)I"⟩
abbrev cX0_lineAt : ByteArray := prog_2_method_3_code
def yX0_lineAt : MethodName := ⟨RX0, "lineAt", "(I)LDryLand$Line;"⟩
abbrev cX0_firstStop : ByteArray := prog_2_method_4_code
def yX0_firstStop : MethodName := ⟨RX0, "firstStop", "(IIIII)I"⟩
abbrev cX0_inForce : ByteArray := prog_2_method_5_code
def yX0_inForce : MethodName := ⟨RX0, "inForce", "(I)I"⟩
def RX1 : String := "DryLand$Casks"
def TX1 : u_T := fun k => match k with
  | 0 => ("DryLand$Casks", "kinds", "[I", true)
  | 1 => ("DryLand$Casks", "strengths", "[I", true)
  | 2 => ("DryLand$Casks", "factPersons", "[I", true)
  | 3 => ("DryLand$Casks", "factCasks", "[I", true)
  | 4 => ("DryLand$Casks", "factHealths", "[I", true)
  | 5 => ("DryLand$Casks", "factDays", "[I", true)
  | 6 => ("DryLand$Casks", "drunkBy", "[I", true)
  | 7 => ("DryLand$Casks", "healths", "[I", true)
  | 8 => ("DryLand$Casks", "harmless", "I", false)
  | 9 => ("DryLand$Casks", "count", "I", false)
  | 10 => ("DryLand$Casks", "persons", "I", false)
  | 11 => ("DryLand$Casks", "facts", "I", false)
  | _ => ("DryLand$Casks", "trail", "I", false)
def tyX1 : Nat → FieldType := fun k => match k with
  | 0 => .array .int
  | 1 => .array .int
  | 2 => .array .int
  | 3 => .array .int
  | 4 => .array .int
  | 5 => .array .int
  | 6 => .array .int
  | 7 => .array .int
  | 8 => .int
  | 9 => .int
  | 10 => .int
  | 11 => .int
  | _ => .int
theorem nmX1 : ∀ a, a < 13 → ∀ b, b < 13 → a ≠ b → (TX1 a).2.1 ≠ (TX1 b).2.1 := by decide +kernel
theorem tyX1_ok : ∀ k, k < 13 → parseFieldDescriptor (TX1 k).2.2.1 = some (tyX1 k) := by decide +kernel
abbrev cX1_init : ByteArray := prog_3_method_1_code
def yX1_init : MethodName := ⟨RX1, "<init>", "()V"⟩
abbrev cX1_addCask : ByteArray := prog_3_method_2_code
def yX1_addCask : MethodName := ⟨RX1, "addCask", "(II)I"⟩
abbrev cX1_addPerson : ByteArray := prog_3_method_3_code
def yX1_addPerson : MethodName := ⟨RX1, "addPerson", "()I"⟩
abbrev cX1_hasCask : ByteArray := prog_3_method_4_code
def yX1_hasCask : MethodName := ⟨RX1, "hasCask", "(I)Z"⟩
abbrev cX1_hasPerson : ByteArray := prog_3_method_5_code
def yX1_hasPerson : MethodName := ⟨RX1, "hasPerson", "(I)Z"⟩
abbrev cX1_addFact : ByteArray := prog_3_method_6_code
def yX1_addFact : MethodName := ⟨RX1, "addFact", "(IIII)I"⟩
abbrev cX1_learn : ByteArray := prog_3_method_7_code
def yX1_learn : MethodName := ⟨RX1, "learn", "(I)V"⟩
abbrev cX1_learnFact : ByteArray := prog_3_method_8_code
def yX1_learnFact : MethodName := ⟨RX1, "learnFact", "(I)V"⟩
abbrev cX1_isCutSet : ByteArray := prog_3_method_9_code
def yX1_isCutSet : MethodName := ⟨RX1, "isCutSet", "(I)Z"⟩
abbrev cX1_countCutSets : ByteArray := prog_3_method_10_code
def yX1_countCutSets : MethodName := ⟨RX1, "countCutSets", "()I"⟩
abbrev cX1_fewest : ByteArray := prog_3_method_11_code
def yX1_fewest : MethodName := ⟨RX1, "fewest", "()I"⟩
abbrev cX1_inSome : ByteArray := prog_3_method_12_code
def yX1_inSome : MethodName := ⟨RX1, "inSome", "()I"⟩
abbrev cX1_inAll : ByteArray := prog_3_method_13_code
def yX1_inAll : MethodName := ⟨RX1, "inAll", "()I"⟩
abbrev cX1_personsWho : ByteArray := prog_3_method_14_code
def yX1_personsWho : MethodName := ⟨RX1, "personsWho", "(I)I"⟩
abbrev cX1_firstDayKnown : ByteArray := prog_3_method_15_code
def yX1_firstDayKnown : MethodName := ⟨RX1, "firstDayKnown", "(I)I"⟩
abbrev cX1_leave : ByteArray := prog_3_method_16_code
def yX1_leave : MethodName := ⟨RX1, "leave", "(I)V"⟩
abbrev cX1_tellOf : ByteArray := prog_3_method_17_code
def yX1_tellOf : MethodName := ⟨RX1, "tellOf", "(I)I"⟩
abbrev cX1_tellStuff : ByteArray := prog_3_method_18_code
def yX1_tellStuff : MethodName := ⟨RX1, "tellStuff", "(I)I"⟩
abbrev cX1_tellSpirit : ByteArray := prog_3_method_19_code
def yX1_tellSpirit : MethodName := ⟨RX1, "tellSpirit", "(I)I"⟩
abbrev cX1_tellMarked : ByteArray := prog_3_method_20_code
def yX1_tellMarked : MethodName := ⟨RX1, "tellMarked", "(I)I"⟩
abbrev cX1_factsOf : ByteArray := prog_3_method_21_code
def yX1_factsOf : MethodName := ⟨RX1, "factsOf", "(I)I"⟩
abbrev cX1_hangOf : ByteArray := prog_3_method_22_code
def yX1_hangOf : MethodName := ⟨RX1, "hangOf", "(I)I"⟩
def RX2 : String := "DryLand$Courts"
def TX2 : u_T := fun k => match k with
  | 0 => ("DryLand$Courts", "lengths", "[I", true)
  | 1 => ("DryLand$Courts", "comes", "[I", true)
  | 2 => ("DryLand$Courts", "ranks", "[I", true)
  | 3 => ("DryLand$Courts", "heardOn", "[I", true)
  | 4 => ("DryLand$Courts", "heardBy", "[I", true)
  | 5 => ("DryLand$Courts", "judges", "I", false)
  | 6 => ("DryLand$Courts", "minutesEach", "I", false)
  | 7 => ("DryLand$Courts", "cases", "I", false)
  | 8 => ("DryLand$Courts", "casesHeard", "I", false)
  | 9 => ("DryLand$Courts", "jurors", "I", false)
  | 10 => ("DryLand$Courts", "guilty", "J", false)
  | 11 => ("DryLand$Courts", "free", "J", false)
  | _ => ("DryLand$Courts", "whole", "J", false)
def tyX2 : Nat → FieldType := fun k => match k with
  | 0 => .array .int
  | 1 => .array .int
  | 2 => .array .int
  | 3 => .array .int
  | 4 => .array .int
  | 5 => .int
  | 6 => .int
  | 7 => .int
  | 8 => .int
  | 9 => .int
  | 10 => .long
  | 11 => .long
  | _ => .long
theorem nmX2 : ∀ a, a < 13 → ∀ b, b < 13 → a ≠ b → (TX2 a).2.1 ≠ (TX2 b).2.1 := by decide +kernel
theorem tyX2_ok : ∀ k, k < 13 → parseFieldDescriptor (TX2 k).2.2.1 = some (tyX2 k) := by decide +kernel
abbrev cX2_init : ByteArray := prog_4_method_1_code
def yX2_init : MethodName := ⟨RX2, "<init>", "()V"⟩
abbrev cX2_setCourt : ByteArray := prog_4_method_2_code
def yX2_setCourt : MethodName := ⟨RX2, "setCourt", "(II)I"⟩
abbrev cX2_addCase : ByteArray := prog_4_method_3_code
def yX2_addCase : MethodName := ⟨RX2, "addCase", "(III)I"⟩
abbrev cX2_hasCase : ByteArray := prog_4_method_4_code
def yX2_hasCase : MethodName := ⟨RX2, "hasCase", "(I)Z"⟩
abbrev cX2_hearCases : ByteArray := prog_4_method_5_code
def yX2_hearCases : MethodName := ⟨RX2, "hearCases", "()V"⟩
abbrev cX2_sit : ByteArray := prog_4_method_6_code
def yX2_sit : MethodName := ⟨RX2, "sit", "(II)V"⟩
abbrev cX2_nextCase : ByteArray := prog_4_method_7_code
def yX2_nextCase : MethodName := ⟨RX2, "nextCase", "(II)I"⟩
abbrev cX2_goesAhead : ByteArray := prog_4_method_8_code
def yX2_goesAhead : MethodName := ⟨RX2, "goesAhead", "(II)Z"⟩
abbrev cX2_countWaiting : ByteArray := prog_4_method_9_code
def yX2_countWaiting : MethodName := ⟨RX2, "countWaiting", "(I)I"⟩
abbrev cX2_addJuror : ByteArray := prog_4_method_10_code
def yX2_addJuror : MethodName := ⟨RX2, "addJuror", "(II)I"⟩
abbrev cX2_dismissAll : ByteArray := prog_4_method_11_code
def yX2_dismissAll : MethodName := ⟨RX2, "dismissAll", "()I"⟩
abbrev cX2_share : ByteArray := prog_4_method_12_code
def yX2_share : MethodName := ⟨RX2, "share", "(II)J"⟩
abbrev cX2_commonDivisor : ByteArray := prog_4_method_13_code
def yX2_commonDivisor : MethodName := ⟨RX2, "commonDivisor", "(JJ)J"⟩
def RX3 : String := "DryLand$Line"
def TX3 : u_T := fun k => match k with
  | 0 => ("DryLand$Line", "verb", "I", false)
  | 1 => ("DryLand$Line", "kind", "I", false)
  | 2 => ("DryLand$Line", "above", "I", false)
  | 3 => ("DryLand$Line", "from", "I", false)
  | 4 => ("DryLand$Line", "to", "I", false)
  | 5 => ("DryLand$Line", "letters", "I", false)
  | _ => ("DryLand$Line", "struck", "I", false)
def tyX3 : Nat → FieldType := fun k => match k with
  | 0 => .int
  | 1 => .int
  | 2 => .int
  | 3 => .int
  | 4 => .int
  | 5 => .int
  | _ => .int
theorem nmX3 : ∀ a, a < 7 → ∀ b, b < 7 → a ≠ b → (TX3 a).2.1 ≠ (TX3 b).2.1 := by decide +kernel
theorem tyX3_ok : ∀ k, k < 7 → parseFieldDescriptor (TX3 k).2.2.1 = some (tyX3 k) := by decide +kernel
abbrev cX3_init : ByteArray := prog_5_method_1_code
def yX3_init : MethodName := ⟨RX3, "<init>", "()V"⟩
abbrev cX3_isInForce : ByteArray := prog_5_method_2_code
def yX3_isInForce : MethodName := ⟨RX3, "isInForce", "(I)Z"⟩
abbrev cX3_halts : ByteArray := prog_5_method_3_code
def yX3_halts : MethodName := ⟨RX3, "halts", "(IIIII)Z"⟩
def RX4 : String := "DryLand$Nights"
def TX4 : u_T := fun k => match k with
  | 0 => ("DryLand$Nights", "rounds", "[[I", true)
  | 1 => ("DryLand$Nights", "roundLengths", "[I", true)
  | 2 => ("DryLand$Nights", "roads", "[[I", true)
  | 3 => ("DryLand$Nights", "roadLengths", "[I", true)
  | 4 => ("DryLand$Nights", "starts", "[I", true)
  | 5 => ("DryLand$Nights", "told", "[I", true)
  | 6 => ("DryLand$Nights", "meetings", "[I", true)
  | 7 => ("DryLand$Nights", "agents", "I", false)
  | _ => ("DryLand$Nights", "trucks", "I", false)
def tyX4 : Nat → FieldType := fun k => match k with
  | 0 => .array (.array .int)
  | 1 => .array .int
  | 2 => .array (.array .int)
  | 3 => .array .int
  | 4 => .array .int
  | 5 => .array .int
  | 6 => .array .int
  | 7 => .int
  | _ => .int
theorem nmX4 : ∀ a, a < 9 → ∀ b, b < 9 → a ≠ b → (TX4 a).2.1 ≠ (TX4 b).2.1 := by decide +kernel
theorem tyX4_ok : ∀ k, k < 9 → parseFieldDescriptor (TX4 k).2.2.1 = some (tyX4 k) := by decide +kernel
abbrev cX4_init : ByteArray := prog_6_method_1_code
def yX4_init : MethodName := ⟨RX4, "<init>", "()V"⟩
abbrev cX4_arePlaces : ByteArray := prog_6_method_2_code
def yX4_arePlaces : MethodName := ⟨RX4, "arePlaces", "([II)Z"⟩
abbrev cX4_hasAgent : ByteArray := prog_6_method_3_code
def yX4_hasAgent : MethodName := ⟨RX4, "hasAgent", "(I)Z"⟩
abbrev cX4_hasTruck : ByteArray := prog_6_method_4_code
def yX4_hasTruck : MethodName := ⟨RX4, "hasTruck", "(I)Z"⟩
abbrev cX4_addAgent : ByteArray := prog_6_method_5_code
def yX4_addAgent : MethodName := ⟨RX4, "addAgent", "([II)I"⟩
abbrev cX4_addTruck : ByteArray := prog_6_method_6_code
def yX4_addTruck : MethodName := ⟨RX4, "addTruck", "(II[II)I"⟩
abbrev cX4_tellTruck : ByteArray := prog_6_method_7_code
def yX4_tellTruck : MethodName := ⟨RX4, "tellTruck", "(II)I"⟩
abbrev cX4_noteMeeting : ByteArray := prog_6_method_8_code
def yX4_noteMeeting : MethodName := ⟨RX4, "noteMeeting", "(II)V"⟩
abbrev cX4_doMeet : ByteArray := prog_6_method_9_code
def yX4_doMeet : MethodName := ⟨RX4, "doMeet", "(II)Z"⟩
abbrev cX4_agentAt : ByteArray := prog_6_method_10_code
def yX4_agentAt : MethodName := ⟨RX4, "agentAt", "(II)I"⟩
abbrev cX4_isWorld : ByteArray := prog_6_method_11_code
def yX4_isWorld : MethodName := ⟨RX4, "isWorld", "(I)Z"⟩
abbrev cX4_worldsWith : ByteArray := prog_6_method_12_code
def yX4_worldsWith : MethodName := ⟨RX4, "worldsWith", "(I)I"⟩
abbrev cX4_sureOf : ByteArray := prog_6_method_13_code
def yX4_sureOf : MethodName := ⟨RX4, "sureOf", "(I)I"⟩
def RX5 : String := "DryLand$Papers"
def TX5 : u_T := fun k => match k with
  | 0 => ("DryLand$Papers", "founds", "[I", true)
  | 1 => ("DryLand$Papers", "mets", "[Z", true)
  | _ => ("DryLand$Papers", "count", "I", false)
def tyX5 : Nat → FieldType := fun k => match k with
  | 0 => .array .int
  | 1 => .array .boolean
  | _ => .int
theorem nmX5 : ∀ a, a < 3 → ∀ b, b < 3 → a ≠ b → (TX5 a).2.1 ≠ (TX5 b).2.1 := by decide +kernel
theorem tyX5_ok : ∀ k, k < 3 → parseFieldDescriptor (TX5 k).2.2.1 = some (tyX5 k) := by decide +kernel
abbrev cX5_init : ByteArray := prog_7_method_1_code
def yX5_init : MethodName := ⟨RX5, "<init>", "()V"⟩
abbrev cX5_addPaper : ByteArray := prog_7_method_2_code
def yX5_addPaper : MethodName := ⟨RX5, "addPaper", "(IZ)I"⟩
abbrev cX5_areThere : ByteArray := prog_7_method_3_code
def yX5_areThere : MethodName := ⟨RX5, "areThere", "(I)Z"⟩
abbrev cX5_hasPaper : ByteArray := prog_7_method_4_code
def yX5_hasPaper : MethodName := ⟨RX5, "hasPaper", "(I)Z"⟩
abbrev cX5_isRaid : ByteArray := prog_7_method_5_code
def yX5_isRaid : MethodName := ⟨RX5, "isRaid", "(I)Z"⟩
abbrev cX5_isUnmetRaid : ByteArray := prog_7_method_6_code
def yX5_isUnmetRaid : MethodName := ⟨RX5, "isUnmetRaid", "(I)Z"⟩
abbrev cX5_tellRaid : ByteArray := prog_7_method_7_code
def yX5_tellRaid : MethodName := ⟨RX5, "tellRaid", "(IZ)I"⟩
abbrev cX5_voidsIf : ByteArray := prog_7_method_8_code
def yX5_voidsIf : MethodName := ⟨RX5, "voidsIf", "(I)I"⟩
abbrev cX5_savedBy : ByteArray := prog_7_method_9_code
def yX5_savedBy : MethodName := ⟨RX5, "savedBy", "(I)I"⟩
abbrev cX5_worstRaid : ByteArray := prog_7_method_10_code
def yX5_worstRaid : MethodName := ⟨RX5, "worstRaid", "()I"⟩
def RX6 : String := "DryLand$Reader"
def TX6 : u_T := fun k => match k with
  | 0 => ("DryLand$Reader", "codes", "[I", true)
  | 1 => ("DryLand$Reader", "length", "I", false)
  | _ => ("DryLand$Reader", "place", "I", false)
def tyX6 : Nat → FieldType := fun k => match k with
  | 0 => .array .int
  | 1 => .int
  | _ => .int
theorem nmX6 : ∀ a, a < 3 → ∀ b, b < 3 → a ≠ b → (TX6 a).2.1 ≠ (TX6 b).2.1 := by decide +kernel
theorem tyX6_ok : ∀ k, k < 3 → parseFieldDescriptor (TX6 k).2.2.1 = some (tyX6 k) := by decide +kernel
abbrev cX6_init : ByteArray := prog_8_method_1_code
def yX6_init : MethodName := ⟨RX6, "<init>", "()V"⟩
abbrev cX6_readLine : ByteArray := prog_8_method_2_code
def yX6_readLine : MethodName := ⟨RX6, "readLine", "([II)LDryLand$Line;"⟩
abbrev cX6_readVerbAndKind : ByteArray := prog_8_method_3_code
def yX6_readVerbAndKind : MethodName := ⟨RX6, "readVerbAndKind", "(LDryLand$Line;)Z"⟩
abbrev cX6_readAbove : ByteArray := prog_8_method_4_code
def yX6_readAbove : MethodName := ⟨RX6, "readAbove", "(LDryLand$Line;)Z"⟩
abbrev cX6_readDays : ByteArray := prog_8_method_5_code
def yX6_readDays : MethodName := ⟨RX6, "readDays", "(LDryLand$Line;)Z"⟩
abbrev cX6_readLetters : ByteArray := prog_8_method_6_code
def yX6_readLetters : MethodName := ⟨RX6, "readLetters", "(LDryLand$Line;)Z"⟩
abbrev cX6_readLetter : ByteArray := prog_8_method_7_code
def yX6_readLetter : MethodName := ⟨RX6, "readLetter", "(LDryLand$Line;)Z"⟩
abbrev cX6_number : ByteArray := prog_8_method_8_code
def yX6_number : MethodName := ⟨RX6, "number", "()I"⟩
abbrev cX6_sign : ByteArray := prog_8_method_9_code
def yX6_sign : MethodName := ⟨RX6, "sign", "(I)Z"⟩
abbrev cX6_oneOf : ByteArray := prog_8_method_10_code
def yX6_oneOf : MethodName := ⟨RX6, "oneOf", "([I)I"⟩
def RX7 : String := "DryLand$Sheets"
def TX7 : u_T := fun k => match k with
  | 0 => ("DryLand$Sheets", "rows", "[[I", true)
  | 1 => ("DryLand$Sheets", "lanes", "[I", true)
  | 2 => ("DryLand$Sheets", "lengths", "[I", true)
  | 3 => ("DryLand$Sheets", "taken", "[I", true)
  | _ => ("DryLand$Sheets", "fault", "I", false)
def tyX7 : Nat → FieldType := fun k => match k with
  | 0 => .array (.array .int)
  | 1 => .array .int
  | 2 => .array .int
  | 3 => .array .int
  | _ => .int
theorem nmX7 : ∀ a, a < 5 → ∀ b, b < 5 → a ≠ b → (TX7 a).2.1 ≠ (TX7 b).2.1 := by decide +kernel
theorem tyX7_ok : ∀ k, k < 5 → parseFieldDescriptor (TX7 k).2.2.1 = some (tyX7 k) := by decide +kernel
abbrev cX7_init : ByteArray := prog_9_method_1_code
def yX7_init : MethodName := ⟨RX7, "<init>", "()V"⟩
abbrev cX7_isSheet : ByteArray := prog_9_method_2_code
def yX7_isSheet : MethodName := ⟨RX7, "isSheet", "(I)Z"⟩
abbrev cX7_isLane : ByteArray := prog_9_method_3_code
def yX7_isLane : MethodName := ⟨RX7, "isLane", "(I)Z"⟩
abbrev cX7_fail : ByteArray := prog_9_method_4_code
def yX7_fail : MethodName := ⟨RX7, "fail", "(I)I"⟩
abbrev cX7_renew : ByteArray := prog_9_method_5_code
def yX7_renew : MethodName := ⟨RX7, "renew", "(III)I"⟩
abbrev cX7_drop : ByteArray := prog_9_method_6_code
def yX7_drop : MethodName := ⟨RX7, "drop", "(I)I"⟩
abbrev cX7_write : ByteArray := prog_9_method_7_code
def yX7_write : MethodName := ⟨RX7, "write", "(III)I"⟩
abbrev cX7_cutToLane : ByteArray := prog_9_method_8_code
def yX7_cutToLane : MethodName := ⟨RX7, "cutToLane", "(II)I"⟩
abbrev cX7_take : ByteArray := prog_9_method_9_code
def yX7_take : MethodName := ⟨RX7, "take", "(IIZII)I"⟩
abbrev cX7_faultOfTaking : ByteArray := prog_9_method_10_code
def yX7_faultOfTaking : MethodName := ⟨RX7, "faultOfTaking", "(IIII)I"⟩
def RX8 : String := "DryLand$Slips"
def TX8 : u_T := fun k => match k with
  | 0 => ("DryLand$Slips", "hours", "[I", true)
  | 1 => ("DryLand$Slips", "by", "[I", true)
  | 2 => ("DryLand$Slips", "numbers", "[I", true)
  | 3 => ("DryLand$Slips", "days", "[I", true)
  | 4 => ("DryLand$Slips", "doctors", "I", false)
  | _ => ("DryLand$Slips", "count", "I", false)
def tyX8 : Nat → FieldType := fun k => match k with
  | 0 => .array .int
  | 1 => .array .int
  | 2 => .array .int
  | 3 => .array .int
  | 4 => .int
  | _ => .int
theorem nmX8 : ∀ a, a < 6 → ∀ b, b < 6 → a ≠ b → (TX8 a).2.1 ≠ (TX8 b).2.1 := by decide +kernel
theorem tyX8_ok : ∀ k, k < 6 → parseFieldDescriptor (TX8 k).2.2.1 = some (tyX8 k) := by decide +kernel
abbrev cX8_init : ByteArray := prog_10_method_1_code
def yX8_init : MethodName := ⟨RX8, "<init>", "()V"⟩
abbrev cX8_addDoctor : ByteArray := prog_10_method_2_code
def yX8_addDoctor : MethodName := ⟨RX8, "addDoctor", "(I)I"⟩
abbrev cX8_hasDoctor : ByteArray := prog_10_method_3_code
def yX8_hasDoctor : MethodName := ⟨RX8, "hasDoctor", "(I)Z"⟩
abbrev cX8_addSlip : ByteArray := prog_10_method_4_code
def yX8_addSlip : MethodName := ⟨RX8, "addSlip", "(III)I"⟩
abbrev cX8_countTwice : ByteArray := prog_10_method_5_code
def yX8_countTwice : MethodName := ⟨RX8, "countTwice", "()I"⟩
abbrev cX8_isUsedAhead : ByteArray := prog_10_method_6_code
def yX8_isUsedAhead : MethodName := ⟨RX8, "isUsedAhead", "(I)Z"⟩
abbrev cX8_tooManyOf : ByteArray := prog_10_method_7_code
def yX8_tooManyOf : MethodName := ⟨RX8, "tooManyOf", "(II)I"⟩
abbrev cX8_countOn : ByteArray := prog_10_method_8_code
def yX8_countOn : MethodName := ⟨RX8, "countOn", "(II)I"⟩
def RX9 : String := "DryLand$Towns"
def TX9 : u_T := fun k => match k with
  | 0 => ("DryLand$Towns", "habits", "[I", true)
  | 1 => ("DryLand$Towns", "stocks", "[I", true)
  | 2 => ("DryLand$Towns", "prices", "[I", true)
  | 3 => ("DryLand$Towns", "weeks", "[I", true)
  | 4 => ("DryLand$Towns", "drunk", "[I", true)
  | _ => ("DryLand$Towns", "count", "I", false)
def tyX9 : Nat → FieldType := fun k => match k with
  | 0 => .array .int
  | 1 => .array .int
  | 2 => .array .int
  | 3 => .array .int
  | 4 => .array .int
  | _ => .int
theorem nmX9 : ∀ a, a < 6 → ∀ b, b < 6 → a ≠ b → (TX9 a).2.1 ≠ (TX9 b).2.1 := by decide +kernel
theorem tyX9_ok : ∀ k, k < 6 → parseFieldDescriptor (TX9 k).2.2.1 = some (tyX9 k) := by decide +kernel
abbrev cX9_init : ByteArray := prog_11_method_1_code
def yX9_init : MethodName := ⟨RX9, "<init>", "()V"⟩
abbrev cX9_addTown : ByteArray := prog_11_method_2_code
def yX9_addTown : MethodName := ⟨RX9, "addTown", "(II)I"⟩
abbrev cX9_hasTown : ByteArray := prog_11_method_3_code
def yX9_hasTown : MethodName := ⟨RX9, "hasTown", "(I)Z"⟩
abbrev cX9_passWeek : ByteArray := prog_11_method_4_code
def yX9_passWeek : MethodName := ⟨RX9, "passWeek", "(II)I"⟩
abbrev cX9_nextPrice : ByteArray := prog_11_method_5_code
def yX9_nextPrice : MethodName := ⟨RX9, "nextPrice", "(III)I"⟩
def RX10 : String := "DryLand$Ways"
def TX10 : u_T := fun k => match k with
  | 0 => ("DryLand$Ways", "froms", "[I", true)
  | 1 => ("DryLand$Ways", "tos", "[I", true)
  | 2 => ("DryLand$Ways", "verbs", "[I", true)
  | 3 => ("DryLand$Ways", "kinds", "[I", true)
  | 4 => ("DryLand$Ways", "strengths", "[I", true)
  | 5 => ("DryLand$Ways", "whos", "[I", true)
  | 6 => ("DryLand$Ways", "open", "[Z", true)
  | 7 => ("DryLand$Ways", "toTable", "[I", true)
  | 8 => ("DryLand$Ways", "row", "[I", true)
  | _ => ("DryLand$Ways", "count", "I", false)
def tyX10 : Nat → FieldType := fun k => match k with
  | 0 => .array .int
  | 1 => .array .int
  | 2 => .array .int
  | 3 => .array .int
  | 4 => .array .int
  | 5 => .array .int
  | 6 => .array .boolean
  | 7 => .array .int
  | 8 => .array .int
  | _ => .int
theorem nmX10 : ∀ a, a < 10 → ∀ b, b < 10 → a ≠ b → (TX10 a).2.1 ≠ (TX10 b).2.1 := by decide +kernel
theorem tyX10_ok : ∀ k, k < 10 → parseFieldDescriptor (TX10 k).2.2.1 = some (tyX10 k) := by decide +kernel
abbrev cX10_init : ByteArray := prog_12_method_1_code
def yX10_init : MethodName := ⟨RX10, "<init>", "()V"⟩
abbrev cX10_addStep : ByteArray := prog_12_method_2_code
def yX10_addStep : MethodName := ⟨RX10, "addStep", "(IIIIII)I"⟩
abbrev cX10_isOpen : ByteArray := prog_12_method_3_code
def yX10_isOpen : MethodName := ⟨RX10, "isOpen", "(LDryLand$Act;II)Z"⟩
abbrev cX10_wouldStop : ByteArray := prog_12_method_4_code
def yX10_wouldStop : MethodName := ⟨RX10, "wouldStop", "(LDryLand$Act;LDryLand$Line;I)I"⟩
abbrev cX10_findLeast : ByteArray := prog_12_method_5_code
def yX10_findLeast : MethodName := ⟨RX10, "findLeast", "(LDryLand$Act;I)I"⟩
abbrev cX10_measure : ByteArray := prog_12_method_6_code
def yX10_measure : MethodName := ⟨RX10, "measure", "()V"⟩
abbrev cX10_walk : ByteArray := prog_12_method_7_code
def yX10_walk : MethodName := ⟨RX10, "walk", "(I)V"⟩
abbrev cX10_firstNearer : ByteArray := prog_12_method_8_code
def yX10_firstNearer : MethodName := ⟨RX10, "firstNearer", "(I)I"⟩
def RX11 : String := "DryLand"
def TX11 : u_T := fun k => match k with
  | 0 => ("DryLand", "sheets", "LDryLand$Sheets;", true)
  | 1 => ("DryLand", "reader", "LDryLand$Reader;", true)
  | 2 => ("DryLand", "act", "LDryLand$Act;", true)
  | 3 => ("DryLand", "ways", "LDryLand$Ways;", true)
  | 4 => ("DryLand", "slips", "LDryLand$Slips;", true)
  | 5 => ("DryLand", "nights", "LDryLand$Nights;", true)
  | 6 => ("DryLand", "casks", "LDryLand$Casks;", true)
  | 7 => ("DryLand", "papers", "LDryLand$Papers;", true)
  | 8 => ("DryLand", "courts", "LDryLand$Courts;", true)
  | 9 => ("DryLand", "towns", "LDryLand$Towns;", true)
  | _ => ("DryLand", "milesNow", "I", false)
def tyX11 : Nat → FieldType := fun k => match k with
  | 0 => .object "DryLand$Sheets"
  | 1 => .object "DryLand$Reader"
  | 2 => .object "DryLand$Act"
  | 3 => .object "DryLand$Ways"
  | 4 => .object "DryLand$Slips"
  | 5 => .object "DryLand$Nights"
  | 6 => .object "DryLand$Casks"
  | 7 => .object "DryLand$Papers"
  | 8 => .object "DryLand$Courts"
  | 9 => .object "DryLand$Towns"
  | _ => .int
theorem nmX11 : ∀ a, a < 11 → ∀ b, b < 11 → a ≠ b → (TX11 a).2.1 ≠ (TX11 b).2.1 := by decide +kernel
theorem tyX11_ok : ∀ k, k < 11 → parseFieldDescriptor (TX11 k).2.2.1 = some (tyX11 k) := by decide +kernel
abbrev cX11_init : ByteArray := prog_1_method_1_code
def yX11_init : MethodName := ⟨RX11, "<init>", "()V"⟩
abbrev cX11_text : ByteArray := prog_1_method_2_code
def yX11_text : MethodName := ⟨RX11, "text", "(IIII)I"⟩
abbrev cX11_strike : ByteArray := prog_1_method_3_code
def yX11_strike : MethodName := ⟨RX11, "strike", "(II)I"⟩
abbrev cX11_line : ByteArray := prog_1_method_4_code
def yX11_line : MethodName := ⟨RX11, "line", "(II)I"⟩
abbrev cX11_stops : ByteArray := prog_1_method_5_code
def yX11_stops : MethodName := ⟨RX11, "stops", "(IIIII)I"⟩
abbrev cX11_why : ByteArray := prog_1_method_6_code
def yX11_why : MethodName := ⟨RX11, "why", "(IIIII)I"⟩
abbrev cX11_force : ByteArray := prog_1_method_7_code
def yX11_force : MethodName := ⟨RX11, "force", "(I)I"⟩
abbrev cX11_step : ByteArray := prog_1_method_8_code
def yX11_step : MethodName := ⟨RX11, "step", "(IIIIII)I"⟩
abbrev cX11_least : ByteArray := prog_1_method_9_code
def yX11_least : MethodName := ⟨RX11, "least", "(II)I"⟩
abbrev cX11_more : ByteArray := prog_1_method_10_code
def yX11_more : MethodName := ⟨RX11, "more", "(IIIII)I"⟩
abbrev cX11_doctor : ByteArray := prog_1_method_11_code
def yX11_doctor : MethodName := ⟨RX11, "doctor", "(I)I"⟩
abbrev cX11_slip : ByteArray := prog_1_method_12_code
def yX11_slip : MethodName := ⟨RX11, "slip", "(III)I"⟩
abbrev cX11_twice : ByteArray := prog_1_method_13_code
def yX11_twice : MethodName := ⟨RX11, "twice", "()I"⟩
abbrev cX11_tooMany : ByteArray := prog_1_method_14_code
def yX11_tooMany : MethodName := ⟨RX11, "tooMany", "(II)I"⟩
abbrev cX11_agent : ByteArray := prog_1_method_15_code
def yX11_agent : MethodName := ⟨RX11, "agent", "(IIII)I"⟩
abbrev cX11_truck : ByteArray := prog_1_method_16_code
def yX11_truck : MethodName := ⟨RX11, "truck", "(IIIIII)I"⟩
abbrev cX11_came : ByteArray := prog_1_method_17_code
def yX11_came : MethodName := ⟨RX11, "came", "(II)I"⟩
abbrev cX11_meets : ByteArray := prog_1_method_18_code
def yX11_meets : MethodName := ⟨RX11, "meets", "(I)I"⟩
abbrev cX11_worlds : ByteArray := prog_1_method_19_code
def yX11_worlds : MethodName := ⟨RX11, "worlds", "()I"⟩
abbrev cX11_sure : ByteArray := prog_1_method_20_code
def yX11_sure : MethodName := ⟨RX11, "sure", "(II)I"⟩
abbrev cX11_cask : ByteArray := prog_1_method_21_code
def yX11_cask : MethodName := ⟨RX11, "cask", "(II)I"⟩
abbrev cX11_person : ByteArray := prog_1_method_22_code
def yX11_person : MethodName := ⟨RX11, "person", "()I"⟩
abbrev cX11_drank : ByteArray := prog_1_method_23_code
def yX11_drank : MethodName := ⟨RX11, "drank", "(III)I"⟩
abbrev cX11_fell : ByteArray := prog_1_method_24_code
def yX11_fell : MethodName := ⟨RX11, "fell", "(IZI)I"⟩
abbrev cX11_cut : ByteArray := prog_1_method_25_code
def yX11_cut : MethodName := ⟨RX11, "cut", "(II)I"⟩
abbrev cX11_knew : ByteArray := prog_1_method_26_code
def yX11_knew : MethodName := ⟨RX11, "knew", "(I)I"⟩
abbrev cX11_raid : ByteArray := prog_1_method_27_code
def yX11_raid : MethodName := ⟨RX11, "raid", "(Z)I"⟩
abbrev cX11_paper : ByteArray := prog_1_method_28_code
def yX11_paper : MethodName := ⟨RX11, "paper", "(I)I"⟩
abbrev cX11_met : ByteArray := prog_1_method_29_code
def yX11_met : MethodName := ⟨RX11, "met", "(IZ)I"⟩
abbrev cX11_voids : ByteArray := prog_1_method_30_code
def yX11_voids : MethodName := ⟨RX11, "voids", "()I"⟩
abbrev cX11_saved : ByteArray := prog_1_method_31_code
def yX11_saved : MethodName := ⟨RX11, "saved", "(I)I"⟩
abbrev cX11_worst : ByteArray := prog_1_method_32_code
def yX11_worst : MethodName := ⟨RX11, "worst", "()I"⟩
abbrev cX11_court : ByteArray := prog_1_method_33_code
def yX11_court : MethodName := ⟨RX11, "court", "(II)I"⟩
abbrev cX11_sue : ByteArray := prog_1_method_34_code
def yX11_sue : MethodName := ⟨RX11, "sue", "(III)I"⟩
abbrev cX11_heard : ByteArray := prog_1_method_35_code
def yX11_heard : MethodName := ⟨RX11, "heard", "(II)I"⟩
abbrev cX11_waiting : ByteArray := prog_1_method_36_code
def yX11_waiting : MethodName := ⟨RX11, "waiting", "(I)I"⟩
abbrev cX11_juror : ByteArray := prog_1_method_37_code
def yX11_juror : MethodName := ⟨RX11, "juror", "(II)I"⟩
abbrev cX11_dismiss : ByteArray := prog_1_method_38_code
def yX11_dismiss : MethodName := ⟨RX11, "dismiss", "()I"⟩
abbrev cX11_jury : ByteArray := prog_1_method_39_code
def yX11_jury : MethodName := ⟨RX11, "jury", "(II)J"⟩
abbrev cX11_miles : ByteArray := prog_1_method_40_code
def yX11_miles : MethodName := ⟨RX11, "miles", "(I)I"⟩
abbrev cX11_chase : ByteArray := prog_1_method_41_code
def yX11_chase : MethodName := ⟨RX11, "chase", "(IIIIIII)I"⟩
abbrev cX11_town : ByteArray := prog_1_method_42_code
def yX11_town : MethodName := ⟨RX11, "town", "(II)I"⟩
abbrev cX11_week : ByteArray := prog_1_method_43_code
def yX11_week : MethodName := ⟨RX11, "week", "(II)I"⟩
abbrev cX11_ofTown : ByteArray := prog_1_method_44_code
def yX11_ofTown : MethodName := ⟨RX11, "ofTown", "(II)I"⟩
abbrev cX11_sheet : ByteArray := prog_1_method_45_code
def yX11_sheet : MethodName := ⟨RX11, "sheet", "(III)I"⟩
abbrev cX11_lose : ByteArray := prog_1_method_46_code
def yX11_lose : MethodName := ⟨RX11, "lose", "(I)I"⟩
abbrev cX11_put : ByteArray := prog_1_method_47_code
def yX11_put : MethodName := ⟨RX11, "put", "(III)I"⟩
abbrev cX11_cell : ByteArray := prog_1_method_48_code
def yX11_cell : MethodName := ⟨RX11, "cell", "(III)J"⟩
abbrev cX11_tell : ByteArray := prog_1_method_49_code
def yX11_tell : MethodName := ⟨RX11, "tell", "(I)I"⟩
abbrev cX11_hang : ByteArray := prog_1_method_50_code
def yX11_hang : MethodName := ⟨RX11, "hang", "(I)I"⟩
abbrev cX11_as : ByteArray := prog_1_method_51_code
def yX11_as : MethodName := ⟨RX11, "as", "(II)I"⟩
abbrev cX11_trace : ByteArray := prog_1_method_52_code
def yX11_trace : MethodName := ⟨RX11, "trace", "()I"⟩
abbrev cX11_fault : ByteArray := prog_1_method_53_code
def yX11_fault : MethodName := ⟨RX11, "fault", "()I"⟩
abbrev cX11_many : ByteArray := prog_1_method_54_code
def yX11_many : MethodName := ⟨RX11, "many", "(I)I"⟩
abbrev cX11_within : ByteArray := prog_1_method_55_code
def yX11_within : MethodName := ⟨RX11, "within", "(III)Z"⟩
abbrev cX11_isDay : ByteArray := prog_1_method_56_code
def yX11_isDay : MethodName := ⟨RX11, "isDay", "(I)Z"⟩
abbrev cX11_isDeed : ByteArray := prog_1_method_57_code
def yX11_isDeed : MethodName := ⟨RX11, "isDeed", "(IIII)Z"⟩
abbrev cX11_isSea : ByteArray := prog_1_method_58_code
def yX11_isSea : MethodName := ⟨RX11, "isSea", "(II)Z"⟩
def RX12 : String := "DryLandModel"
def TX12 : u_T := fun k => match k with
  | 0 => ("DryLandModel", "fault", "I", false)
  | 1 => ("DryLandModel", "trace", "I", false)
  | 2 => ("DryLandModel", "lanes", "[I", true)
  | 3 => ("DryLandModel", "sheetLong", "[I", true)
  | 4 => ("DryLandModel", "cells", "[I", true)
  | 5 => ("DryLandModel", "lines", "I", false)
  | 6 => ("DryLandModel", "verbs", "[I", true)
  | 7 => ("DryLandModel", "kinds", "[I", true)
  | 8 => ("DryLandModel", "above", "[I", true)
  | 9 => ("DryLandModel", "fromDay", "[I", true)
  | 10 => ("DryLandModel", "toDay", "[I", true)
  | 11 => ("DryLandModel", "letters", "[I", true)
  | 12 => ("DryLandModel", "struck", "[I", true)
  | 13 => ("DryLandModel", "at", "I", false)
  | 14 => ("DryLandModel", "end", "I", false)
  | 15 => ("DryLandModel", "isWrong", "Z", false)
  | 16 => ("DryLandModel", "steps", "I", false)
  | 17 => ("DryLandModel", "stepFrom", "[I", true)
  | 18 => ("DryLandModel", "stepTo", "[I", true)
  | 19 => ("DryLandModel", "stepVerb", "[I", true)
  | 20 => ("DryLandModel", "stepKind", "[I", true)
  | 21 => ("DryLandModel", "stepStrength", "[I", true)
  | 22 => ("DryLandModel", "stepWho", "[I", true)
  | 23 => ("DryLandModel", "far", "[I", true)
  | 24 => ("DryLandModel", "way", "[I", true)
  | 25 => ("DryLandModel", "doctors", "I", false)
  | 26 => ("DryLandModel", "hours", "[I", true)
  | 27 => ("DryLandModel", "slips", "I", false)
  | 28 => ("DryLandModel", "slipDoctor", "[I", true)
  | 29 => ("DryLandModel", "slipNumber", "[I", true)
  | 30 => ("DryLandModel", "slipDay", "[I", true)
  | 31 => ("DryLandModel", "agents", "I", false)
  | 32 => ("DryLandModel", "agentLong", "[I", true)
  | 33 => ("DryLandModel", "agentRow", "[I", true)
  | 34 => ("DryLandModel", "trucks", "I", false)
  | 35 => ("DryLandModel", "truckHour", "[I", true)
  | 36 => ("DryLandModel", "truckCame", "[I", true)
  | 37 => ("DryLandModel", "truckLong", "[I", true)
  | 38 => ("DryLandModel", "truckRow", "[I", true)
  | 39 => ("DryLandModel", "metBy", "[I", true)
  | 40 => ("DryLandModel", "casks", "I", false)
  | 41 => ("DryLandModel", "caskKind", "[I", true)
  | 42 => ("DryLandModel", "caskStrength", "[I", true)
  | 43 => ("DryLandModel", "persons", "I", false)
  | 44 => ("DryLandModel", "facts", "I", false)
  | 45 => ("DryLandModel", "factPerson", "[I", true)
  | 46 => ("DryLandModel", "factCask", "[I", true)
  | 47 => ("DryLandModel", "isIll", "[Z", true)
  | 48 => ("DryLandModel", "factDay", "[I", true)
  | 49 => ("DryLandModel", "drunk", "[I", true)
  | 50 => ("DryLandModel", "ill", "I", false)
  | 51 => ("DryLandModel", "well", "I", false)
  | 52 => ("DryLandModel", "cuts", "I", false)
  | 53 => ("DryLandModel", "fewest", "I", false)
  | 54 => ("DryLandModel", "inAll", "I", false)
  | 55 => ("DryLandModel", "inSome", "I", false)
  | 56 => ("DryLandModel", "papers", "I", false)
  | 57 => ("DryLandModel", "foundBy", "[I", true)
  | 58 => ("DryLandModel", "isMet", "[Z", true)
  | 59 => ("DryLandModel", "judges", "I", false)
  | 60 => ("DryLandModel", "minutesADay", "I", false)
  | 61 => ("DryLandModel", "cases", "I", false)
  | 62 => ("DryLandModel", "caseMinutes", "[I", true)
  | 63 => ("DryLandModel", "caseDay", "[I", true)
  | 64 => ("DryLandModel", "caseRank", "[I", true)
  | 65 => ("DryLandModel", "heardOn", "[I", true)
  | 66 => ("DryLandModel", "heardBy", "[I", true)
  | 67 => ("DryLandModel", "jurors", "I", false)
  | 68 => ("DryLandModel", "oddsUp", "[I", true)
  | 69 => ("DryLandModel", "oddsDown", "[I", true)
  | 70 => ("DryLandModel", "miles", "I", false)
  | 71 => ("DryLandModel", "towns", "I", false)
  | 72 => ("DryLandModel", "habit", "[I", true)
  | 73 => ("DryLandModel", "stock", "[I", true)
  | 74 => ("DryLandModel", "price", "[I", true)
  | 75 => ("DryLandModel", "weeks", "[I", true)
  | _ => ("DryLandModel", "drunkAll", "[I", true)
def tyX12 : Nat → FieldType := fun k => match k with
  | 0 => .int
  | 1 => .int
  | 2 => .array .int
  | 3 => .array .int
  | 4 => .array .int
  | 5 => .int
  | 6 => .array .int
  | 7 => .array .int
  | 8 => .array .int
  | 9 => .array .int
  | 10 => .array .int
  | 11 => .array .int
  | 12 => .array .int
  | 13 => .int
  | 14 => .int
  | 15 => .boolean
  | 16 => .int
  | 17 => .array .int
  | 18 => .array .int
  | 19 => .array .int
  | 20 => .array .int
  | 21 => .array .int
  | 22 => .array .int
  | 23 => .array .int
  | 24 => .array .int
  | 25 => .int
  | 26 => .array .int
  | 27 => .int
  | 28 => .array .int
  | 29 => .array .int
  | 30 => .array .int
  | 31 => .int
  | 32 => .array .int
  | 33 => .array .int
  | 34 => .int
  | 35 => .array .int
  | 36 => .array .int
  | 37 => .array .int
  | 38 => .array .int
  | 39 => .array .int
  | 40 => .int
  | 41 => .array .int
  | 42 => .array .int
  | 43 => .int
  | 44 => .int
  | 45 => .array .int
  | 46 => .array .int
  | 47 => .array .boolean
  | 48 => .array .int
  | 49 => .array .int
  | 50 => .int
  | 51 => .int
  | 52 => .int
  | 53 => .int
  | 54 => .int
  | 55 => .int
  | 56 => .int
  | 57 => .array .int
  | 58 => .array .boolean
  | 59 => .int
  | 60 => .int
  | 61 => .int
  | 62 => .array .int
  | 63 => .array .int
  | 64 => .array .int
  | 65 => .array .int
  | 66 => .array .int
  | 67 => .int
  | 68 => .array .int
  | 69 => .array .int
  | 70 => .int
  | 71 => .int
  | 72 => .array .int
  | 73 => .array .int
  | 74 => .array .int
  | 75 => .array .int
  | _ => .array .int
theorem nmX12 : ∀ a, a < 77 → ∀ b, b < 77 → a ≠ b → (TX12 a).2.1 ≠ (TX12 b).2.1 := by decide +kernel
theorem tyX12_ok : ∀ k, k < 77 → parseFieldDescriptor (TX12 k).2.2.1 = some (tyX12 k) := by decide +kernel
abbrev cX12_init : ByteArray := prog_14_method_1_code
def yX12_init : MethodName := ⟨RX12, "<init>", "()V"⟩
abbrev cX12_fails : ByteArray := prog_14_method_3_code
def yX12_fails : MethodName := ⟨RX12, "fails", "(I)I"⟩
abbrev cX12_lost : ByteArray := prog_14_method_4_code
def yX12_lost : MethodName := ⟨RX12, "lost", "(I)J"⟩
abbrev cX12_within : ByteArray := prog_14_method_5_code
def yX12_within : MethodName := ⟨RX12, "within", "(III)Z"⟩
abbrev cX12_isDay : ByteArray := prog_14_method_6_code
def yX12_isDay : MethodName := ⟨RX12, "isDay", "(I)Z"⟩
abbrev cX12_isSheet : ByteArray := prog_14_method_7_code
def yX12_isSheet : MethodName := ⟨RX12, "isSheet", "(I)Z"⟩
abbrev cX12_isLane : ByteArray := prog_14_method_8_code
def yX12_isLane : MethodName := ⟨RX12, "isLane", "(I)Z"⟩
abbrev cX12_against : ByteArray := prog_14_method_9_code
def yX12_against : MethodName := ⟨RX12, "against", "(IIII)I"⟩
abbrev cX12_verbOf : ByteArray := prog_14_method_10_code
def yX12_verbOf : MethodName := ⟨RX12, "verbOf", "(I)I"⟩
abbrev cX12_letterOf : ByteArray := prog_14_method_11_code
def yX12_letterOf : MethodName := ⟨RX12, "letterOf", "(I)I"⟩
abbrev cX12_codeAt : ByteArray := prog_14_method_12_code
def yX12_codeAt : MethodName := ⟨RX12, "codeAt", "()I"⟩
abbrev cX12_readNumber : ByteArray := prog_14_method_13_code
def yX12_readNumber : MethodName := ⟨RX12, "readNumber", "()I"⟩
abbrev cX12_readCode : ByteArray := prog_14_method_14_code
def yX12_readCode : MethodName := ⟨RX12, "readCode", "(I)V"⟩
abbrev cX12_read : ByteArray := prog_14_method_15_code
def yX12_read : MethodName := ⟨RX12, "read", "(II)I"⟩
abbrev cX12_copyLine : ByteArray := prog_14_method_16_code
def yX12_copyLine : MethodName := ⟨RX12, "copyLine", "(II)V"⟩
abbrev cX12_text : ByteArray := prog_14_method_17_code
def yX12_text : MethodName := ⟨RX12, "text", "(IIII)I"⟩
abbrev cX12_isLine : ByteArray := prog_14_method_18_code
def yX12_isLine : MethodName := ⟨RX12, "isLine", "(I)Z"⟩
abbrev cX12_strike : ByteArray := prog_14_method_19_code
def yX12_strike : MethodName := ⟨RX12, "strike", "(II)I"⟩
abbrev cX12_line : ByteArray := prog_14_method_20_code
def yX12_line : MethodName := ⟨RX12, "line", "(II)I"⟩
abbrev cX12_isInForce : ByteArray := prog_14_method_21_code
def yX12_isInForce : MethodName := ⟨RX12, "isInForce", "(II)Z"⟩
abbrev cX12_doesStop : ByteArray := prog_14_method_22_code
def yX12_doesStop : MethodName := ⟨RX12, "doesStop", "(IIIIII)Z"⟩
abbrev cX12_isDeed : ByteArray := prog_14_method_23_code
def yX12_isDeed : MethodName := ⟨RX12, "isDeed", "(IIII)Z"⟩
abbrev cX12_whyOf : ByteArray := prog_14_method_24_code
def yX12_whyOf : MethodName := ⟨RX12, "whyOf", "(IIIII)I"⟩
abbrev cX12_stops : ByteArray := prog_14_method_25_code
def yX12_stops : MethodName := ⟨RX12, "stops", "(IIIII)I"⟩
abbrev cX12_why : ByteArray := prog_14_method_26_code
def yX12_why : MethodName := ⟨RX12, "why", "(IIIII)I"⟩
abbrev cX12_force : ByteArray := prog_14_method_27_code
def yX12_force : MethodName := ⟨RX12, "force", "(I)I"⟩
abbrev cX12_step : ByteArray := prog_14_method_28_code
def yX12_step : MethodName := ⟨RX12, "step", "(IIIIII)I"⟩
abbrev cX12_isFree : ByteArray := prog_14_method_29_code
def yX12_isFree : MethodName := ⟨RX12, "isFree", "(II)Z"⟩
abbrev cX12_findWay : ByteArray := prog_14_method_30_code
def yX12_findWay : MethodName := ⟨RX12, "findWay", "(I)I"⟩
abbrev cX12_least : ByteArray := prog_14_method_31_code
def yX12_least : MethodName := ⟨RX12, "least", "(II)I"⟩
abbrev cX12_more : ByteArray := prog_14_method_32_code
def yX12_more : MethodName := ⟨RX12, "more", "(IIIII)I"⟩
abbrev cX12_isDoctor : ByteArray := prog_14_method_33_code
def yX12_isDoctor : MethodName := ⟨RX12, "isDoctor", "(I)Z"⟩
abbrev cX12_doctor : ByteArray := prog_14_method_34_code
def yX12_doctor : MethodName := ⟨RX12, "doctor", "(I)I"⟩
abbrev cX12_slip : ByteArray := prog_14_method_35_code
def yX12_slip : MethodName := ⟨RX12, "slip", "(III)I"⟩
abbrev cX12_twice : ByteArray := prog_14_method_36_code
def yX12_twice : MethodName := ⟨RX12, "twice", "()I"⟩
abbrev cX12_isTooMany : ByteArray := prog_14_method_37_code
def yX12_isTooMany : MethodName := ⟨RX12, "isTooMany", "(II)Z"⟩
abbrev cX12_tooMany : ByteArray := prog_14_method_38_code
def yX12_tooMany : MethodName := ⟨RX12, "tooMany", "(II)I"⟩
abbrev cX12_arePlaces : ByteArray := prog_14_method_39_code
def yX12_arePlaces : MethodName := ⟨RX12, "arePlaces", "(II)Z"⟩
abbrev cX12_agent : ByteArray := prog_14_method_40_code
def yX12_agent : MethodName := ⟨RX12, "agent", "(IIII)I"⟩
abbrev cX12_truck : ByteArray := prog_14_method_41_code
def yX12_truck : MethodName := ⟨RX12, "truck", "(IIIIII)I"⟩
abbrev cX12_isTruck : ByteArray := prog_14_method_42_code
def yX12_isTruck : MethodName := ⟨RX12, "isTruck", "(I)Z"⟩
abbrev cX12_came : ByteArray := prog_14_method_43_code
def yX12_came : MethodName := ⟨RX12, "came", "(II)I"⟩
abbrev cX12_agentAt : ByteArray := prog_14_method_44_code
def yX12_agentAt : MethodName := ⟨RX12, "agentAt", "(II)I"⟩
abbrev cX12_doMeet : ByteArray := prog_14_method_45_code
def yX12_doMeet : MethodName := ⟨RX12, "doMeet", "(II)Z"⟩
abbrev cX12_meeting : ByteArray := prog_14_method_46_code
def yX12_meeting : MethodName := ⟨RX12, "meeting", "(I)I"⟩
abbrev cX12_meets : ByteArray := prog_14_method_47_code
def yX12_meets : MethodName := ⟨RX12, "meets", "(I)I"⟩
abbrev cX12_layMeets : ByteArray := prog_14_method_48_code
def yX12_layMeets : MethodName := ⟨RX12, "layMeets", "()V"⟩
abbrev cX12_isWorld : ByteArray := prog_14_method_49_code
def yX12_isWorld : MethodName := ⟨RX12, "isWorld", "(I)Z"⟩
abbrev cX12_worlds : ByteArray := prog_14_method_50_code
def yX12_worlds : MethodName := ⟨RX12, "worlds", "()I"⟩
abbrev cX12_sure : ByteArray := prog_14_method_51_code
def yX12_sure : MethodName := ⟨RX12, "sure", "(II)I"⟩
abbrev cX12_isCask : ByteArray := prog_14_method_52_code
def yX12_isCask : MethodName := ⟨RX12, "isCask", "(I)Z"⟩
abbrev cX12_isPerson : ByteArray := prog_14_method_53_code
def yX12_isPerson : MethodName := ⟨RX12, "isPerson", "(I)Z"⟩
abbrev cX12_cask : ByteArray := prog_14_method_54_code
def yX12_cask : MethodName := ⟨RX12, "cask", "(II)I"⟩
abbrev cX12_person : ByteArray := prog_14_method_55_code
def yX12_person : MethodName := ⟨RX12, "person", "()I"⟩
abbrev cX12_tells : ByteArray := prog_14_method_56_code
def yX12_tells : MethodName := ⟨RX12, "tells", "(IIZI)I"⟩
abbrev cX12_drank : ByteArray := prog_14_method_57_code
def yX12_drank : MethodName := ⟨RX12, "drank", "(III)I"⟩
abbrev cX12_fell : ByteArray := prog_14_method_58_code
def yX12_fell : MethodName := ⟨RX12, "fell", "(IZI)I"⟩
abbrev cX12_layFacts : ByteArray := prog_14_method_59_code
def yX12_layFacts : MethodName := ⟨RX12, "layFacts", "(I)V"⟩
abbrev cX12_sizeOf : ByteArray := prog_14_method_60_code
def yX12_sizeOf : MethodName := ⟨RX12, "sizeOf", "(I)I"⟩
abbrev cX12_isCut : ByteArray := prog_14_method_61_code
def yX12_isCut : MethodName := ⟨RX12, "isCut", "(I)Z"⟩
abbrev cX12_findCuts : ByteArray := prog_14_method_62_code
def yX12_findCuts : MethodName := ⟨RX12, "findCuts", "(I)V"⟩
abbrev cX12_cut : ByteArray := prog_14_method_63_code
def yX12_cut : MethodName := ⟨RX12, "cut", "(II)I"⟩
abbrev cX12_isAnyKnown : ByteArray := prog_14_method_64_code
def yX12_isAnyKnown : MethodName := ⟨RX12, "isAnyKnown", "(I)Z"⟩
abbrev cX12_knew : ByteArray := prog_14_method_65_code
def yX12_knew : MethodName := ⟨RX12, "knew", "(I)I"⟩
abbrev cX12_raid : ByteArray := prog_14_method_66_code
def yX12_raid : MethodName := ⟨RX12, "raid", "(Z)I"⟩
abbrev cX12_paper : ByteArray := prog_14_method_67_code
def yX12_paper : MethodName := ⟨RX12, "paper", "(I)I"⟩
abbrev cX12_isPaper : ByteArray := prog_14_method_68_code
def yX12_isPaper : MethodName := ⟨RX12, "isPaper", "(I)Z"⟩
abbrev cX12_met : ByteArray := prog_14_method_69_code
def yX12_met : MethodName := ⟨RX12, "met", "(IZ)I"⟩
abbrev cX12_voidsWith : ByteArray := prog_14_method_70_code
def yX12_voidsWith : MethodName := ⟨RX12, "voidsWith", "(I)I"⟩
abbrev cX12_voids : ByteArray := prog_14_method_71_code
def yX12_voids : MethodName := ⟨RX12, "voids", "()I"⟩
abbrev cX12_countOf : ByteArray := prog_14_method_72_code
def yX12_countOf : MethodName := ⟨RX12, "countOf", "(I)I"⟩
abbrev cX12_savedBy : ByteArray := prog_14_method_73_code
def yX12_savedBy : MethodName := ⟨RX12, "savedBy", "(I)I"⟩
abbrev cX12_saved : ByteArray := prog_14_method_74_code
def yX12_saved : MethodName := ⟨RX12, "saved", "(I)I"⟩
abbrev cX12_worst : ByteArray := prog_14_method_75_code
def yX12_worst : MethodName := ⟨RX12, "worst", "()I"⟩
abbrev cX12_nextCase : ByteArray := prog_14_method_76_code
def yX12_nextCase : MethodName := ⟨RX12, "nextCase", "(II)I"⟩
abbrev cX12_hear : ByteArray := prog_14_method_77_code
def yX12_hear : MethodName := ⟨RX12, "hear", "()I"⟩
abbrev cX12_court : ByteArray := prog_14_method_78_code
def yX12_court : MethodName := ⟨RX12, "court", "(II)I"⟩
abbrev cX12_sue : ByteArray := prog_14_method_79_code
def yX12_sue : MethodName := ⟨RX12, "sue", "(III)I"⟩
abbrev cX12_heard : ByteArray := prog_14_method_80_code
def yX12_heard : MethodName := ⟨RX12, "heard", "(II)I"⟩
abbrev cX12_waiting : ByteArray := prog_14_method_81_code
def yX12_waiting : MethodName := ⟨RX12, "waiting", "(I)I"⟩
abbrev cX12_juror : ByteArray := prog_14_method_82_code
def yX12_juror : MethodName := ⟨RX12, "juror", "(II)I"⟩
abbrev cX12_dismiss : ByteArray := prog_14_method_83_code
def yX12_dismiss : MethodName := ⟨RX12, "dismiss", "()I"⟩
abbrev cX12_jury : ByteArray := prog_14_method_84_code
def yX12_jury : MethodName := ⟨RX12, "jury", "(II)J"⟩
abbrev cX12_miles : ByteArray := prog_14_method_85_code
def yX12_miles : MethodName := ⟨RX12, "miles", "(I)I"⟩
abbrev cX12_size : ByteArray := prog_14_method_86_code
def yX12_size : MethodName := ⟨RX12, "size", "(I)I"⟩
abbrev cX12_chase : ByteArray := prog_14_method_87_code
def yX12_chase : MethodName := ⟨RX12, "chase", "(IIIIIII)I"⟩
abbrev cX12_town : ByteArray := prog_14_method_88_code
def yX12_town : MethodName := ⟨RX12, "town", "(II)I"⟩
abbrev cX12_week : ByteArray := prog_14_method_89_code
def yX12_week : MethodName := ⟨RX12, "week", "(II)I"⟩
abbrev cX12_ofTown : ByteArray := prog_14_method_90_code
def yX12_ofTown : MethodName := ⟨RX12, "ofTown", "(II)I"⟩
abbrev cX12_sheet : ByteArray := prog_14_method_91_code
def yX12_sheet : MethodName := ⟨RX12, "sheet", "(III)I"⟩
abbrev cX12_lose : ByteArray := prog_14_method_92_code
def yX12_lose : MethodName := ⟨RX12, "lose", "(I)I"⟩
abbrev cX12_put : ByteArray := prog_14_method_93_code
def yX12_put : MethodName := ⟨RX12, "put", "(III)I"⟩
abbrev cX12_cell : ByteArray := prog_14_method_94_code
def yX12_cell : MethodName := ⟨RX12, "cell", "(III)J"⟩
abbrev cX12_begins : ByteArray := prog_14_method_95_code
def yX12_begins : MethodName := ⟨RX12, "begins", "(I)V"⟩
abbrev cX12_factsOf : ByteArray := prog_14_method_96_code
def yX12_factsOf : MethodName := ⟨RX12, "factsOf", "(I)I"⟩
abbrev cX12_tell : ByteArray := prog_14_method_97_code
def yX12_tell : MethodName := ⟨RX12, "tell", "(I)I"⟩
abbrev cX12_hang : ByteArray := prog_14_method_98_code
def yX12_hang : MethodName := ⟨RX12, "hang", "(I)I"⟩
abbrev cX12_as : ByteArray := prog_14_method_99_code
def yX12_as : MethodName := ⟨RX12, "as", "(II)I"⟩
abbrev cX12_trace : ByteArray := prog_14_method_100_code
def yX12_trace : MethodName := ⟨RX12, "trace", "()I"⟩
abbrev cX12_fault : ByteArray := prog_14_method_101_code
def yX12_fault : MethodName := ⟨RX12, "fault", "()I"⟩
abbrev cX12_many : ByteArray := prog_14_method_102_code
def yX12_many : MethodName := ⟨RX12, "many", "(I)I"⟩
def RJ6 : String := "java/lang/Integer"
abbrev cJ6_bitCount_0f7a4 : ByteArray := prog_15_method_49_code
def yJ6_bitCount_0f7a4 : MethodName := ⟨RJ6, "bitCount", "(I)I"⟩
def RJ9 : String := "java/lang/Math"
abbrev cJ9_abs_0f7a4 : ByteArray := prog_16_method_59_code
def yJ9_abs_0f7a4 : MethodName := ⟨RJ9, "abs", "(I)I"⟩
abbrev cJ9_max_7cf53 : ByteArray := prog_16_method_65_code
def yJ9_max_7cf53 : MethodName := ⟨RJ9, "max", "(II)I"⟩
abbrev cJ9_min_7cf53 : ByteArray := prog_16_method_69_code
def yJ9_min_7cf53 : MethodName := ⟨RJ9, "min", "(II)I"⟩
def RJ10 : String := "java/lang/System"
def RJ7 : String := "java/util/Arrays"
abbrev cJ7_fill_53178 : ByteArray := prog_18_method_103_code
def yJ7_fill_53178 : MethodName := ⟨RJ7, "fill", "([II)V"⟩
def RL : String := "DryLandLaw"
abbrev cL_law : ByteArray := code
def yL_law : MethodName := ⟨RL, "law", "([I)Z"⟩
abbrev vwCl : List vw_C := [(RX0, TX0, 2), (RX1, TX1, 13), (RX2, TX2, 13), (RX3, TX3, 7), (RX4, TX4, 9), (RX5, TX5, 3), (RX6, TX6, 3), (RX7, TX7, 5), (RX8, TX8, 6), (RX9, TX9, 6), (RX10, TX10, 10), (RX11, TX11, 11), (RX12, TX12, 77)]
end
section
abbrev AI : Type := Instr × Nat × List Nat × List (Int32 × Nat)
def gn : List Nat → Nat → Nat
  | [], _ => 0
  | a :: _, 0 => a
  | _ :: t, n + 1 => gn t n
def gll : List (List Nat) → Nat → List Nat
  | [], _ => []
  | a :: _, 0 => a
  | _ :: t, n + 1 => gll t n
def ftT : List (List Nat) := [[2, 0], [2, 2, 2, 2, 2, 2, 2, 2, 0, 0, 0, 0, 0], [2, 2, 2, 2, 2, 0, 0, 0, 0, 0, 1, 1, 1], [0, 0, 0, 0, 0, 0, 0], [2, 2, 2, 2, 2, 2, 2, 0, 0], [2, 2, 0], [2, 0, 0], [2, 2, 2, 2, 0], [2, 2, 2, 2, 0, 0], [2, 2, 2, 2, 2, 0], [2, 2, 2, 2, 2, 2, 2, 2, 2, 0], [2, 2, 2, 2, 2, 2, 2, 2, 2, 2, 0], [0, 0, 2, 2, 2, 0, 2, 2, 2, 2, 2, 2, 2, 0, 0, 3, 0, 2, 2, 2, 2, 2, 2, 2, 2, 0, 2, 0, 2, 2, 2, 0, 2, 2, 0, 2, 2, 2, 2, 2, 0, 2, 2, 0, 0, 2, 2, 2, 2, 2, 0, 0, 0, 0, 0, 0, 0, 2, 2, 0, 0, 0, 2, 2, 2, 2, 2, 0, 2, 2, 0, 0, 2, 2, 2, 2, 2]]
def vLOST : Int64 := (-9223372036854775808 : Int64)
def ax (l : List Nat) (k : Nat) : Nat := gn l k
def kv (l : List (Int32 × Nat)) : Int32 := match l with
  | (v, _) :: _ => v
  | [] => 0
end
section
abbrev MI : Type := Nat × MethodName × ByteArray × Nat × Option FieldType × Nat × Nat × Nat
noncomputable def cd0 : List (Nat × AI) := [(0, .aload_n 0, 1, [0], []), (1, .invokespecial 3, 3, [], []), (4, .aload_n 0, 1, [0], []), (5, .bipush 24, 2, [], [(24, 0)]), (7, .anewarray 9, 3, [], []), (10, .putfield 11, 3, [0, 0, 2], []), (13, .return_, 1, [], [])]
noncomputable def cd1 : List (Nat × AI) := [(0, .aload_n 0, 1, [0], []), (1, .getfield 17, 3, [0, 1, 0], []), (4, .aload_n 0, 1, [0], []), (5, .getfield 11, 3, [0, 0, 2], []), (8, .arraylength, 1, [], []), (9, .if_icmp .ne 6, 3, [15], []), (12, .bipush (-4), 2, [], [((-4), 0)]), (14, .ireturn, 1, [0], []), (15, .aload_n 0, 1, [0], []), (16, .getfield 11, 3, [0, 0, 2], []), (19, .aload_n 0, 1, [0], []), (20, .getfield 17, 3, [0, 1, 0], []), (23, .aload_n 1, 1, [1], []), (24, .aastore, 1, [], []), (25, .aload_n 0, 1, [0], []), (26, .dup, 1, [], []), (27, .getfield 17, 3, [0, 1, 0], []), (30, .iconst 1, 1, [], [(1, 0)]), (31, .iadd, 1, [], []), (32, .putfield 17, 3, [0, 1, 0], []), (35, .aload_n 0, 1, [0], []), (36, .getfield 17, 3, [0, 1, 0], []), (39, .iconst 1, 1, [], [(1, 0)]), (40, .isub, 1, [], []), (41, .ireturn, 1, [0], [])]
noncomputable def cd2 : List (Nat × AI) := [(0, .iload_n 1, 1, [1], []), (1, .iconst 0, 1, [], [(0, 0)]), (2, .aload_n 0, 1, [0], []), (3, .getfield 17, 3, [0, 1, 0], []), (6, .iconst 1, 1, [], [(1, 0)]), (7, .isub, 1, [], []), (8, .invokestatic 21, 3, [161, 3, 1, 11, 3], []), (11, .ifCond .eq 12, 3, [23], []), (14, .aload_n 0, 1, [0], []), (15, .getfield 11, 3, [0, 0, 2], []), (18, .iload_n 1, 1, [1], []), (19, .aaload, 1, [], []), (20, .goto 4, 3, [24], []), (23, .aconst_null, 1, [], []), (24, .areturn, 1, [], [])]
noncomputable def cd3 : List (Nat × AI) := [(0, .iconst 0, 1, [], [(0, 0)]), (1, .istore 6, 2, [6], []), (3, .iload 6, 2, [6], []), (5, .aload_n 0, 1, [0], []), (6, .getfield 17, 3, [0, 1, 0], []), (9, .if_icmp .ge 41, 3, [50], []), (12, .aload_n 0, 1, [0], []), (13, .getfield 11, 3, [0, 0, 2], []), (16, .iload 6, 2, [6], []), (18, .aaload, 1, [], []), (19, .astore 7, 2, [7], []), (21, .aload 7, 2, [7], []), (23, .ifnull 21, 3, [44], []), (26, .aload 7, 2, [7], []), (28, .iload_n 1, 1, [1], []), (29, .iload_n 2, 1, [2], []), (30, .iload_n 3, 1, [3], []), (31, .iload 4, 2, [4], []), (33, .iload 5, 2, [5], []), (35, .invokevirtual 25, 3, [42, 6, 1, 3, 6], []), (38, .ifCond .eq 6, 3, [44], []), (41, .iload 6, 2, [6], []), (43, .ireturn, 1, [0], []), (44, .iinc 6 1, 3, [6], [(1, 0)]), (47, .goto (-44), 3, [3], []), (50, .bipush (-9), 2, [], [((-9), 0)]), (52, .ireturn, 1, [0], [])]
noncomputable def cd4 : List (Nat × AI) := [(0, .iconst 0, 1, [], [(0, 0)]), (1, .istore_n 2, 1, [2], []), (2, .iconst 0, 1, [], [(0, 0)]), (3, .istore_n 3, 1, [3], []), (4, .iload_n 3, 1, [3], []), (5, .aload_n 0, 1, [0], []), (6, .getfield 17, 3, [0, 1, 0], []), (9, .if_icmp .ge 34, 3, [43], []), (12, .aload_n 0, 1, [0], []), (13, .getfield 11, 3, [0, 0, 2], []), (16, .iload_n 3, 1, [3], []), (17, .aaload, 1, [], []), (18, .astore 4, 2, [4], []), (20, .aload 4, 2, [4], []), (22, .ifnull 15, 3, [37], []), (25, .aload 4, 2, [4], []), (27, .iload_n 1, 1, [1], []), (28, .invokevirtual 29, 3, [41, 2, 1, 3, 2], []), (31, .ifCond .eq 6, 3, [37], []), (34, .iinc 2 1, 3, [2], [(1, 0)]), (37, .iinc 3 1, 3, [3], [(1, 0)]), (40, .goto (-36), 3, [4], []), (43, .iload_n 2, 1, [2], []), (44, .ireturn, 1, [0], [])]
noncomputable def cd5 : List (Nat × AI) := [(0, .aload_n 0, 1, [0], []), (1, .invokespecial 3, 3, [], []), (4, .aload_n 0, 1, [0], []), (5, .bipush 12, 2, [], [(12, 0)]), (7, .newarray .int, 2, [0], []), (9, .putfield 11, 3, [1, 0, 2], []), (12, .aload_n 0, 1, [0], []), (13, .bipush 12, 2, [], [(12, 0)]), (15, .newarray .int, 2, [0], []), (17, .putfield 15, 3, [1, 1, 2], []), (20, .aload_n 0, 1, [0], []), (21, .bipush 60, 2, [], [(60, 0)]), (23, .newarray .int, 2, [0], []), (25, .putfield 18, 3, [1, 2, 2], []), (28, .aload_n 0, 1, [0], []), (29, .bipush 60, 2, [], [(60, 0)]), (31, .newarray .int, 2, [0], []), (33, .putfield 21, 3, [1, 3, 2], []), (36, .aload_n 0, 1, [0], []), (37, .bipush 60, 2, [], [(60, 0)]), (39, .newarray .int, 2, [0], []), (41, .putfield 24, 3, [1, 4, 2], []), (44, .aload_n 0, 1, [0], []), (45, .bipush 60, 2, [], [(60, 0)]), (47, .newarray .int, 2, [0], []), (49, .putfield 27, 3, [1, 5, 2], []), (52, .aload_n 0, 1, [0], []), (53, .bipush 12, 2, [], [(12, 0)]), (55, .newarray .int, 2, [0], []), (57, .putfield 30, 3, [1, 6, 2], []), (60, .aload_n 0, 1, [0], []), (61, .bipush 12, 2, [], [(12, 0)]), (63, .newarray .int, 2, [0], []), (65, .putfield 33, 3, [1, 7, 2], []), (68, .return_, 1, [], [])]
noncomputable def cd6 : List (Nat × AI) := [(0, .aload_n 0, 1, [0], []), (1, .getfield 36, 3, [1, 9, 0], []), (4, .bipush 12, 2, [], [(12, 0)]), (6, .if_icmp .ne 6, 3, [12], []), (9, .bipush (-4), 2, [], [((-4), 0)]), (11, .ireturn, 1, [0], []), (12, .aload_n 0, 1, [0], []), (13, .getfield 11, 3, [1, 0, 2], []), (16, .aload_n 0, 1, [0], []), (17, .getfield 36, 3, [1, 9, 0], []), (20, .iload_n 1, 1, [1], []), (21, .iastore, 1, [], []), (22, .aload_n 0, 1, [0], []), (23, .getfield 15, 3, [1, 1, 2], []), (26, .aload_n 0, 1, [0], []), (27, .getfield 36, 3, [1, 9, 0], []), (30, .iload_n 2, 1, [2], []), (31, .iastore, 1, [], []), (32, .aload_n 0, 1, [0], []), (33, .dup, 1, [], []), (34, .getfield 36, 3, [1, 9, 0], []), (37, .iconst 1, 1, [], [(1, 0)]), (38, .iadd, 1, [], []), (39, .putfield 36, 3, [1, 9, 0], []), (42, .aload_n 0, 1, [0], []), (43, .getfield 36, 3, [1, 9, 0], []), (46, .iconst 1, 1, [], [(1, 0)]), (47, .isub, 1, [], []), (48, .ireturn, 1, [0], [])]
noncomputable def cd7 : List (Nat × AI) := [(0, .aload_n 0, 1, [0], []), (1, .getfield 40, 3, [1, 10, 0], []), (4, .bipush 12, 2, [], [(12, 0)]), (6, .if_icmp .ne 6, 3, [12], []), (9, .bipush (-4), 2, [], [((-4), 0)]), (11, .ireturn, 1, [0], []), (12, .aload_n 0, 1, [0], []), (13, .dup, 1, [], []), (14, .getfield 40, 3, [1, 10, 0], []), (17, .iconst 1, 1, [], [(1, 0)]), (18, .iadd, 1, [], []), (19, .putfield 40, 3, [1, 10, 0], []), (22, .aload_n 0, 1, [0], []), (23, .getfield 40, 3, [1, 10, 0], []), (26, .iconst 1, 1, [], [(1, 0)]), (27, .isub, 1, [], []), (28, .ireturn, 1, [0], [])]
noncomputable def cd8 : List (Nat × AI) := [(0, .iload_n 1, 1, [1], []), (1, .iconst 0, 1, [], [(0, 0)]), (2, .aload_n 0, 1, [0], []), (3, .getfield 36, 3, [1, 9, 0], []), (6, .iconst 1, 1, [], [(1, 0)]), (7, .isub, 1, [], []), (8, .invokestatic 43, 3, [161, 3, 1, 11, 3], []), (11, .ireturn, 1, [1], [])]
noncomputable def cd9 : List (Nat × AI) := [(0, .iload_n 1, 1, [1], []), (1, .iconst 0, 1, [], [(0, 0)]), (2, .aload_n 0, 1, [0], []), (3, .getfield 40, 3, [1, 10, 0], []), (6, .iconst 1, 1, [], [(1, 0)]), (7, .isub, 1, [], []), (8, .invokestatic 43, 3, [161, 3, 1, 11, 3], []), (11, .ireturn, 1, [1], [])]
noncomputable def cd10 : List (Nat × AI) := [(0, .aload_n 0, 1, [0], []), (1, .getfield 47, 3, [1, 11, 0], []), (4, .bipush 60, 2, [], [(60, 0)]), (6, .if_icmp .ne 6, 3, [12], []), (9, .bipush (-4), 2, [], [((-4), 0)]), (11, .ireturn, 1, [0], []), (12, .aload_n 0, 1, [0], []), (13, .getfield 18, 3, [1, 2, 2], []), (16, .aload_n 0, 1, [0], []), (17, .getfield 47, 3, [1, 11, 0], []), (20, .iload_n 1, 1, [1], []), (21, .iastore, 1, [], []), (22, .aload_n 0, 1, [0], []), (23, .getfield 21, 3, [1, 3, 2], []), (26, .aload_n 0, 1, [0], []), (27, .getfield 47, 3, [1, 11, 0], []), (30, .iload_n 2, 1, [2], []), (31, .iastore, 1, [], []), (32, .aload_n 0, 1, [0], []), (33, .getfield 24, 3, [1, 4, 2], []), (36, .aload_n 0, 1, [0], []), (37, .getfield 47, 3, [1, 11, 0], []), (40, .iload_n 3, 1, [3], []), (41, .iastore, 1, [], []), (42, .aload_n 0, 1, [0], []), (43, .getfield 27, 3, [1, 5, 2], []), (46, .aload_n 0, 1, [0], []), (47, .getfield 47, 3, [1, 11, 0], []), (50, .iload 4, 2, [4], []), (52, .iastore, 1, [], []), (53, .aload_n 0, 1, [0], []), (54, .dup, 1, [], []), (55, .getfield 47, 3, [1, 11, 0], []), (58, .iconst 1, 1, [], [(1, 0)]), (59, .iadd, 1, [], []), (60, .putfield 47, 3, [1, 11, 0], []), (63, .aload_n 0, 1, [0], []), (64, .getfield 47, 3, [1, 11, 0], []), (67, .iconst 1, 1, [], [(1, 0)]), (68, .isub, 1, [], []), (69, .ireturn, 1, [0], [])]
noncomputable def cd11 : List (Nat × AI) := [(0, .aload_n 0, 1, [0], []), (1, .getfield 30, 3, [1, 6, 2], []), (4, .iconst 0, 1, [], [(0, 0)]), (5, .invokestatic 50, 3, [270, 2, 0, 16, 4], []), (8, .aload_n 0, 1, [0], []), (9, .getfield 33, 3, [1, 7, 2], []), (12, .iconst 0, 1, [], [(0, 0)]), (13, .invokestatic 50, 3, [270, 2, 0, 16, 4], []), (16, .iconst 0, 1, [], [(0, 0)]), (17, .istore_n 2, 1, [2], []), (18, .iload_n 2, 1, [2], []), (19, .aload_n 0, 1, [0], []), (20, .getfield 47, 3, [1, 11, 0], []), (23, .if_icmp .ge 24, 3, [47], []), (26, .aload_n 0, 1, [0], []), (27, .getfield 27, 3, [1, 5, 2], []), (30, .iload_n 2, 1, [2], []), (31, .iaload, 1, [], []), (32, .iload_n 1, 1, [1], []), (33, .if_icmp .gt 8, 3, [41], []), (36, .aload_n 0, 1, [0], []), (37, .iload_n 2, 1, [2], []), (38, .invokevirtual 56, 3, [12, 2, 0, 1, 3], []), (41, .iinc 2 1, 3, [2], [(1, 0)]), (44, .goto (-26), 3, [18], []), (47, .aload_n 0, 1, [0], []), (48, .iconst 0, 1, [], [(0, 0)]), (49, .putfield 60, 3, [1, 8, 0], []), (52, .iconst 0, 1, [], [(0, 0)]), (53, .istore_n 2, 1, [2], []), (54, .iload_n 2, 1, [2], []), (55, .aload_n 0, 1, [0], []), (56, .getfield 40, 3, [1, 10, 0], []), (59, .if_icmp .ge 34, 3, [93], []), (62, .aload_n 0, 1, [0], []), (63, .getfield 33, 3, [1, 7, 2], []), (66, .iload_n 2, 1, [2], []), (67, .iaload, 1, [], []), (68, .iconst 2, 1, [], [(2, 0)]), (69, .if_icmp .ne 18, 3, [87], []), (72, .aload_n 0, 1, [0], []), (73, .dup, 1, [], []), (74, .getfield 60, 3, [1, 8, 0], []), (77, .aload_n 0, 1, [0], []), (78, .getfield 30, 3, [1, 6, 2], []), (81, .iload_n 2, 1, [2], []), (82, .iaload, 1, [], []), (83, .ior, 1, [], []), (84, .putfield 60, 3, [1, 8, 0], []), (87, .iinc 2 1, 3, [2], [(1, 0)]), (90, .goto (-36), 3, [54], []), (93, .return_, 1, [], [])]
noncomputable def cd12 : List (Nat × AI) := [(0, .aload_n 0, 1, [0], []), (1, .getfield 18, 3, [1, 2, 2], []), (4, .iload_n 1, 1, [1], []), (5, .iaload, 1, [], []), (6, .istore_n 2, 1, [2], []), (7, .aload_n 0, 1, [0], []), (8, .getfield 21, 3, [1, 3, 2], []), (11, .iload_n 1, 1, [1], []), (12, .iaload, 1, [], []), (13, .bipush (-9), 2, [], [((-9), 0)]), (15, .if_icmp .ne 18, 3, [33], []), (18, .aload_n 0, 1, [0], []), (19, .getfield 33, 3, [1, 7, 2], []), (22, .iload_n 2, 1, [2], []), (23, .aload_n 0, 1, [0], []), (24, .getfield 24, 3, [1, 4, 2], []), (27, .iload_n 1, 1, [1], []), (28, .iaload, 1, [], []), (29, .iastore, 1, [], []), (30, .goto 20, 3, [50], []), (33, .aload_n 0, 1, [0], []), (34, .getfield 30, 3, [1, 6, 2], []), (37, .iload_n 2, 1, [2], []), (38, .dup2, 1, [], []), (39, .iaload, 1, [], []), (40, .iconst 1, 1, [], [(1, 0)]), (41, .aload_n 0, 1, [0], []), (42, .getfield 21, 3, [1, 3, 2], []), (45, .iload_n 1, 1, [1], []), (46, .iaload, 1, [], []), (47, .ishl, 1, [], []), (48, .ior, 1, [], []), (49, .iastore, 1, [], []), (50, .return_, 1, [], [])]
noncomputable def cd13 : List (Nat × AI) := [(0, .iload_n 1, 1, [1], []), (1, .aload_n 0, 1, [0], []), (2, .getfield 60, 3, [1, 8, 0], []), (5, .iand, 1, [], []), (6, .ifCond .eq 5, 3, [11], []), (9, .iconst 0, 1, [], [(0, 0)]), (10, .ireturn, 1, [1], []), (11, .iconst 0, 1, [], [(0, 0)]), (12, .istore_n 2, 1, [2], []), (13, .iload_n 2, 1, [2], []), (14, .aload_n 0, 1, [0], []), (15, .getfield 40, 3, [1, 10, 0], []), (18, .if_icmp .ge 32, 3, [50], []), (21, .aload_n 0, 1, [0], []), (22, .getfield 33, 3, [1, 7, 2], []), (25, .iload_n 2, 1, [2], []), (26, .iaload, 1, [], []), (27, .iconst 1, 1, [], [(1, 0)]), (28, .if_icmp .ne 16, 3, [44], []), (31, .aload_n 0, 1, [0], []), (32, .getfield 30, 3, [1, 6, 2], []), (35, .iload_n 2, 1, [2], []), (36, .iaload, 1, [], []), (37, .iload_n 1, 1, [1], []), (38, .iand, 1, [], []), (39, .ifCond .ne 5, 3, [44], []), (42, .iconst 0, 1, [], [(0, 0)]), (43, .ireturn, 1, [1], []), (44, .iinc 2 1, 3, [2], [(1, 0)]), (47, .goto (-34), 3, [13], []), (50, .iconst 1, 1, [], [(1, 0)]), (51, .ireturn, 1, [1], [])]
noncomputable def cd14 : List (Nat × AI) := [(0, .iconst 0, 1, [], [(0, 0)]), (1, .istore_n 1, 1, [1], []), (2, .iconst 0, 1, [], [(0, 0)]), (3, .istore_n 2, 1, [2], []), (4, .iload_n 2, 1, [2], []), (5, .iconst 1, 1, [], [(1, 0)]), (6, .aload_n 0, 1, [0], []), (7, .getfield 36, 3, [1, 9, 0], []), (10, .ishl, 1, [], []), (11, .if_icmp .ge 20, 3, [31], []), (14, .aload_n 0, 1, [0], []), (15, .iload_n 2, 1, [2], []), (16, .invokevirtual 63, 3, [13, 2, 1, 1, 3], []), (19, .ifCond .eq 6, 3, [25], []), (22, .iinc 1 1, 3, [1], [(1, 0)]), (25, .iinc 2 1, 3, [2], [(1, 0)]), (28, .goto (-24), 3, [4], []), (31, .iload_n 1, 1, [1], []), (32, .ireturn, 1, [0], [])]
noncomputable def cd15 : List (Nat × AI) := [(0, .bipush (-9), 2, [], [((-9), 0)]), (2, .istore_n 1, 1, [1], []), (3, .iconst 0, 1, [], [(0, 0)]), (4, .istore_n 2, 1, [2], []), (5, .iload_n 2, 1, [2], []), (6, .iconst 1, 1, [], [(1, 0)]), (7, .aload_n 0, 1, [0], []), (8, .getfield 36, 3, [1, 9, 0], []), (11, .ishl, 1, [], []), (12, .if_icmp .ge 35, 3, [47], []), (15, .iload_n 2, 1, [2], []), (16, .invokestatic 67, 3, [266, 1, 1, 14, 1], []), (19, .istore_n 3, 1, [3], []), (20, .iload_n 1, 1, [1], []), (21, .bipush (-9), 2, [], [((-9), 0)]), (23, .if_icmp .eq 8, 3, [31], []), (26, .iload_n 3, 1, [3], []), (27, .iload_n 1, 1, [1], []), (28, .if_icmp .ge 13, 3, [41], []), (31, .aload_n 0, 1, [0], []), (32, .iload_n 2, 1, [2], []), (33, .invokevirtual 63, 3, [13, 2, 1, 1, 3], []), (36, .ifCond .eq 5, 3, [41], []), (39, .iload_n 3, 1, [3], []), (40, .istore_n 1, 1, [1], []), (41, .iinc 2 1, 3, [2], [(1, 0)]), (44, .goto (-39), 3, [5], []), (47, .iload_n 1, 1, [1], []), (48, .ireturn, 1, [0], [])]
noncomputable def cd16 : List (Nat × AI) := [(0, .iconst 1, 1, [], [(1, 0)]), (1, .aload_n 0, 1, [0], []), (2, .getfield 36, 3, [1, 9, 0], []), (5, .ishl, 1, [], []), (6, .iconst 1, 1, [], [(1, 0)]), (7, .isub, 1, [], []), (8, .aload_n 0, 1, [0], []), (9, .getfield 60, 3, [1, 8, 0], []), (12, .iconst (-1), 1, [], [((-1), 0)]), (13, .ixor, 1, [], []), (14, .iand, 1, [], []), (15, .istore_n 1, 1, [1], []), (16, .aload_n 0, 1, [0], []), (17, .iload_n 1, 1, [1], []), (18, .invokevirtual 63, 3, [13, 2, 1, 1, 3], []), (21, .ifCond .eq 7, 3, [28], []), (24, .iload_n 1, 1, [1], []), (25, .goto 4, 3, [29], []), (28, .iconst 0, 1, [], [(0, 0)]), (29, .ireturn, 1, [0], [])]
noncomputable def cd17 : List (Nat × AI) := [(0, .aload_n 0, 1, [0], []), (1, .invokevirtual 73, 3, [16, 1, 1, 1, 2], []), (4, .istore_n 1, 1, [1], []), (5, .iconst 0, 1, [], [(0, 0)]), (6, .istore_n 2, 1, [2], []), (7, .iconst 0, 1, [], [(0, 0)]), (8, .istore_n 3, 1, [3], []), (9, .iload_n 3, 1, [3], []), (10, .aload_n 0, 1, [0], []), (11, .getfield 36, 3, [1, 9, 0], []), (14, .if_icmp .ge 37, 3, [51], []), (17, .iload_n 1, 1, [1], []), (18, .iload_n 3, 1, [3], []), (19, .ishr, 1, [], []), (20, .iconst 1, 1, [], [(1, 0)]), (21, .iand, 1, [], []), (22, .ifCond .eq 23, 3, [45], []), (25, .aload_n 0, 1, [0], []), (26, .iload_n 1, 1, [1], []), (27, .iconst 1, 1, [], [(1, 0)]), (28, .iload_n 3, 1, [3], []), (29, .ishl, 1, [], []), (30, .iconst (-1), 1, [], [((-1), 0)]), (31, .ixor, 1, [], []), (32, .iand, 1, [], []), (33, .invokevirtual 63, 3, [13, 2, 1, 1, 3], []), (36, .ifCond .ne 9, 3, [45], []), (39, .iload_n 2, 1, [2], []), (40, .iconst 1, 1, [], [(1, 0)]), (41, .iload_n 3, 1, [3], []), (42, .ishl, 1, [], []), (43, .ior, 1, [], []), (44, .istore_n 2, 1, [2], []), (45, .iinc 3 1, 3, [3], [(1, 0)]), (48, .goto (-39), 3, [9], []), (51, .iload_n 2, 1, [2], []), (52, .ireturn, 1, [0], [])]
noncomputable def cd18 : List (Nat × AI) := [(0, .iconst 0, 1, [], [(0, 0)]), (1, .istore_n 2, 1, [2], []), (2, .iconst 0, 1, [], [(0, 0)]), (3, .istore_n 3, 1, [3], []), (4, .iload_n 3, 1, [3], []), (5, .aload_n 0, 1, [0], []), (6, .getfield 40, 3, [1, 10, 0], []), (9, .if_icmp .ge 25, 3, [34], []), (12, .aload_n 0, 1, [0], []), (13, .getfield 33, 3, [1, 7, 2], []), (16, .iload_n 3, 1, [3], []), (17, .iaload, 1, [], []), (18, .iload_n 1, 1, [1], []), (19, .if_icmp .ne 9, 3, [28], []), (22, .iload_n 2, 1, [2], []), (23, .iconst 1, 1, [], [(1, 0)]), (24, .iload_n 3, 1, [3], []), (25, .ishl, 1, [], []), (26, .ior, 1, [], []), (27, .istore_n 2, 1, [2], []), (28, .iinc 3 1, 3, [3], [(1, 0)]), (31, .goto (-27), 3, [4], []), (34, .iload_n 2, 1, [2], []), (35, .ireturn, 1, [0], [])]
noncomputable def cd19 : List (Nat × AI) := [(0, .iconst 0, 1, [], [(0, 0)]), (1, .istore_n 2, 1, [2], []), (2, .iload_n 2, 1, [2], []), (3, .bipush 100, 2, [], [(100, 0)]), (5, .if_icmp .ge 27, 3, [32], []), (8, .aload_n 0, 1, [0], []), (9, .iload_n 2, 1, [2], []), (10, .invokevirtual 77, 3, [11, 2, 0, 1, 3], []), (13, .aload_n 0, 1, [0], []), (14, .invokevirtual 80, 3, [17, 1, 1, 1, 4], []), (17, .iload_n 1, 1, [1], []), (18, .ishr, 1, [], []), (19, .iconst 1, 1, [], [(1, 0)]), (20, .iand, 1, [], []), (21, .ifCond .eq 5, 3, [26], []), (24, .iload_n 2, 1, [2], []), (25, .ireturn, 1, [0], []), (26, .iinc 2 1, 3, [2], [(1, 0)]), (29, .goto (-27), 3, [2], []), (32, .bipush (-9), 2, [], [((-9), 0)]), (34, .ireturn, 1, [0], [])]
noncomputable def cd20 : List (Nat × AI) := [(0, .aload_n 0, 1, [0], []), (1, .bipush 31, 2, [], [(31, 0)]), (3, .aload_n 0, 1, [0], []), (4, .getfield 83, 3, [1, 12, 0], []), (7, .imul, 1, [], []), (8, .iload_n 1, 1, [1], []), (9, .iadd, 1, [], []), (10, .putfield 83, 3, [1, 12, 0], []), (13, .return_, 1, [], [])]
noncomputable def cd21 : List (Nat × AI) := [(0, .aload_n 0, 1, [0], []), (1, .getfield 11, 3, [1, 0, 2], []), (4, .iload_n 1, 1, [1], []), (5, .iaload, 1, [], []), (6, .lookupswitch 42 #[(1, 34), (2, 26)], 26, [48], [(1, 40), (2, 32)]), (32, .aload_n 0, 1, [0], []), (33, .iload_n 1, 1, [1], []), (34, .invokevirtual 86, 3, [24, 2, 1, 1, 3], []), (37, .goto 16, 3, [53], []), (40, .aload_n 0, 1, [0], []), (41, .iload_n 1, 1, [1], []), (42, .invokevirtual 89, 3, [23, 2, 1, 1, 2], []), (45, .goto 8, 3, [53], []), (48, .aload_n 0, 1, [0], []), (49, .iload_n 1, 1, [1], []), (50, .invokevirtual 92, 3, [22, 2, 1, 1, 2], []), (53, .ireturn, 1, [0], [])]
noncomputable def cd22 : List (Nat × AI) := [(0, .aload_n 0, 1, [0], []), (1, .iconst 1, 1, [], [(1, 0)]), (2, .invokevirtual 95, 3, [20, 2, 0, 1, 2], []), (5, .aload_n 0, 1, [0], []), (6, .getfield 15, 3, [1, 1, 2], []), (9, .iload_n 1, 1, [1], []), (10, .iaload, 1, [], []), (11, .ireturn, 1, [0], [])]
noncomputable def cd23 : List (Nat × AI) := [(0, .aload_n 0, 1, [0], []), (1, .iconst 2, 1, [], [(2, 0)]), (2, .invokevirtual 95, 3, [20, 2, 0, 1, 2], []), (5, .aload_n 0, 1, [0], []), (6, .iload_n 1, 1, [1], []), (7, .invokevirtual 92, 3, [22, 2, 1, 1, 2], []), (10, .aload_n 0, 1, [0], []), (11, .iload_n 1, 1, [1], []), (12, .invokevirtual 98, 3, [25, 2, 1, 1, 4], []), (15, .iadd, 1, [], []), (16, .ireturn, 1, [0], [])]
noncomputable def cd24 : List (Nat × AI) := [(0, .aload_n 0, 1, [0], []), (1, .iconst 3, 1, [], [(3, 0)]), (2, .invokevirtual 95, 3, [20, 2, 0, 1, 2], []), (5, .aload_n 0, 1, [0], []), (6, .iload_n 1, 1, [1], []), (7, .invokevirtual 89, 3, [23, 2, 1, 1, 2], []), (10, .istore_n 2, 1, [2], []), (11, .iload_n 2, 1, [2], []), (12, .aload_n 0, 1, [0], []), (13, .iload_n 1, 1, [1], []), (14, .invokevirtual 92, 3, [22, 2, 1, 1, 2], []), (17, .iadd, 1, [], []), (18, .ireturn, 1, [0], [])]
noncomputable def cd25 : List (Nat × AI) := [(0, .iconst 0, 1, [], [(0, 0)]), (1, .istore_n 2, 1, [2], []), (2, .iconst 0, 1, [], [(0, 0)]), (3, .istore_n 3, 1, [3], []), (4, .iload_n 3, 1, [3], []), (5, .aload_n 0, 1, [0], []), (6, .getfield 47, 3, [1, 11, 0], []), (9, .if_icmp .ge 22, 3, [31], []), (12, .aload_n 0, 1, [0], []), (13, .getfield 21, 3, [1, 3, 2], []), (16, .iload_n 3, 1, [3], []), (17, .iaload, 1, [], []), (18, .iload_n 1, 1, [1], []), (19, .if_icmp .ne 6, 3, [25], []), (22, .iinc 2 1, 3, [2], [(1, 0)]), (25, .iinc 3 1, 3, [3], [(1, 0)]), (28, .goto (-24), 3, [4], []), (31, .iload_n 2, 1, [2], []), (32, .ireturn, 1, [0], [])]
noncomputable def cd26 : List (Nat × AI) := [(0, .aload_n 0, 1, [0], []), (1, .getfield 11, 3, [1, 0, 2], []), (4, .iload_n 1, 1, [1], []), (5, .iaload, 1, [], []), (6, .iconst 2, 1, [], [(2, 0)]), (7, .if_icmp .ne 7, 3, [14], []), (10, .iconst 1, 1, [], [(1, 0)]), (11, .goto 4, 3, [15], []), (14, .iconst 0, 1, [], [(0, 0)]), (15, .istore_n 2, 1, [2], []), (16, .aload_n 0, 1, [0], []), (17, .iload_n 2, 1, [2], []), (18, .ifCond .eq 7, 3, [25], []), (21, .iconst 5, 1, [], [(5, 0)]), (22, .goto 4, 3, [26], []), (25, .iconst 4, 1, [], [(4, 0)]), (26, .invokevirtual 95, 3, [20, 2, 0, 1, 2], []), (29, .iload_n 2, 1, [2], []), (30, .ifCond .eq 8, 3, [38], []), (33, .bipush 45, 2, [], [(45, 0)]), (35, .goto 4, 3, [39], []), (38, .iload_n 1, 1, [1], []), (39, .ireturn, 1, [0], [])]
noncomputable def cd27 : List (Nat × AI) := [(0, .aload_n 0, 1, [0], []), (1, .invokespecial 3, 3, [], []), (4, .aload_n 0, 1, [0], []), (5, .bipush 30, 2, [], [(30, 0)]), (7, .newarray .int, 2, [0], []), (9, .putfield 11, 3, [2, 0, 2], []), (12, .aload_n 0, 1, [0], []), (13, .bipush 30, 2, [], [(30, 0)]), (15, .newarray .int, 2, [0], []), (17, .putfield 15, 3, [2, 1, 2], []), (20, .aload_n 0, 1, [0], []), (21, .bipush 30, 2, [], [(30, 0)]), (23, .newarray .int, 2, [0], []), (25, .putfield 18, 3, [2, 2, 2], []), (28, .aload_n 0, 1, [0], []), (29, .bipush 30, 2, [], [(30, 0)]), (31, .newarray .int, 2, [0], []), (33, .putfield 21, 3, [2, 3, 2], []), (36, .aload_n 0, 1, [0], []), (37, .bipush 30, 2, [], [(30, 0)]), (39, .newarray .int, 2, [0], []), (41, .putfield 24, 3, [2, 4, 2], []), (44, .aload_n 0, 1, [0], []), (45, .iconst 1, 1, [], [(1, 0)]), (46, .putfield 27, 3, [2, 5, 0], []), (49, .aload_n 0, 1, [0], []), (50, .sipush 300, 3, [], [(300, 0)]), (53, .putfield 31, 3, [2, 6, 0], []), (56, .aload_n 0, 1, [0], []), (57, .lconst 1, 1, [1], []), (58, .putfield 34, 3, [2, 10, 1], []), (61, .aload_n 0, 1, [0], []), (62, .lconst 1, 1, [1], []), (63, .putfield 38, 3, [2, 11, 1], []), (66, .aload_n 0, 1, [0], []), (67, .lconst 1, 1, [1], []), (68, .putfield 41, 3, [2, 12, 1], []), (71, .return_, 1, [], [])]
noncomputable def cd28 : List (Nat × AI) := [(0, .aload_n 0, 1, [0], []), (1, .iload_n 1, 1, [1], []), (2, .putfield 27, 3, [2, 5, 0], []), (5, .aload_n 0, 1, [0], []), (6, .iload_n 2, 1, [2], []), (7, .putfield 31, 3, [2, 6, 0], []), (10, .aload_n 0, 1, [0], []), (11, .invokevirtual 44, 3, [31, 1, 0, 2, 3], []), (14, .aload_n 0, 1, [0], []), (15, .getfield 47, 3, [2, 8, 0], []), (18, .ireturn, 1, [0], [])]
noncomputable def cd29 : List (Nat × AI) := [(0, .aload_n 0, 1, [0], []), (1, .getfield 50, 3, [2, 7, 0], []), (4, .bipush 30, 2, [], [(30, 0)]), (6, .if_icmp .ne 6, 3, [12], []), (9, .bipush (-4), 2, [], [((-4), 0)]), (11, .ireturn, 1, [0], []), (12, .aload_n 0, 1, [0], []), (13, .getfield 11, 3, [2, 0, 2], []), (16, .aload_n 0, 1, [0], []), (17, .getfield 50, 3, [2, 7, 0], []), (20, .iload_n 1, 1, [1], []), (21, .iastore, 1, [], []), (22, .aload_n 0, 1, [0], []), (23, .getfield 15, 3, [2, 1, 2], []), (26, .aload_n 0, 1, [0], []), (27, .getfield 50, 3, [2, 7, 0], []), (30, .iload_n 2, 1, [2], []), (31, .iastore, 1, [], []), (32, .aload_n 0, 1, [0], []), (33, .getfield 18, 3, [2, 2, 2], []), (36, .aload_n 0, 1, [0], []), (37, .getfield 50, 3, [2, 7, 0], []), (40, .iload_n 3, 1, [3], []), (41, .iastore, 1, [], []), (42, .aload_n 0, 1, [0], []), (43, .dup, 1, [], []), (44, .getfield 50, 3, [2, 7, 0], []), (47, .iconst 1, 1, [], [(1, 0)]), (48, .iadd, 1, [], []), (49, .putfield 50, 3, [2, 7, 0], []), (52, .aload_n 0, 1, [0], []), (53, .invokevirtual 44, 3, [31, 1, 0, 2, 3], []), (56, .aload_n 0, 1, [0], []), (57, .getfield 50, 3, [2, 7, 0], []), (60, .iconst 1, 1, [], [(1, 0)]), (61, .isub, 1, [], []), (62, .ireturn, 1, [0], [])]
noncomputable def cd30 : List (Nat × AI) := [(0, .iload_n 1, 1, [1], []), (1, .iconst 0, 1, [], [(0, 0)]), (2, .aload_n 0, 1, [0], []), (3, .getfield 50, 3, [2, 7, 0], []), (6, .iconst 1, 1, [], [(1, 0)]), (7, .isub, 1, [], []), (8, .invokestatic 53, 3, [161, 3, 1, 11, 3], []), (11, .ireturn, 1, [1], [])]
noncomputable def cd31 : List (Nat × AI) := [(0, .aload_n 0, 1, [0], []), (1, .getfield 21, 3, [2, 3, 2], []), (4, .bipush (-9), 2, [], [((-9), 0)]), (6, .invokestatic 57, 3, [270, 2, 0, 16, 4], []), (9, .aload_n 0, 1, [0], []), (10, .getfield 24, 3, [2, 4, 2], []), (13, .bipush (-9), 2, [], [((-9), 0)]), (15, .invokestatic 57, 3, [270, 2, 0, 16, 4], []), (18, .aload_n 0, 1, [0], []), (19, .iconst 0, 1, [], [(0, 0)]), (20, .putfield 47, 3, [2, 8, 0], []), (23, .iconst 0, 1, [], [(0, 0)]), (24, .istore_n 1, 1, [1], []), (25, .iload_n 1, 1, [1], []), (26, .bipush 100, 2, [], [(100, 0)]), (28, .if_icmp .ge 42, 3, [70], []), (31, .aload_n 0, 1, [0], []), (32, .getfield 47, 3, [2, 8, 0], []), (35, .aload_n 0, 1, [0], []), (36, .getfield 50, 3, [2, 7, 0], []), (39, .if_icmp .ge 31, 3, [70], []), (42, .iconst 0, 1, [], [(0, 0)]), (43, .istore_n 2, 1, [2], []), (44, .iload_n 2, 1, [2], []), (45, .aload_n 0, 1, [0], []), (46, .getfield 27, 3, [2, 5, 0], []), (49, .if_icmp .ge 15, 3, [64], []), (52, .aload_n 0, 1, [0], []), (53, .iload_n 1, 1, [1], []), (54, .iload_n 2, 1, [2], []), (55, .invokevirtual 63, 3, [32, 3, 0, 2, 6], []), (58, .iinc 2 1, 3, [2], [(1, 0)]), (61, .goto (-17), 3, [44], []), (64, .iinc 1 1, 3, [1], [(1, 0)]), (67, .goto (-42), 3, [25], []), (70, .return_, 1, [], [])]
noncomputable def cd32 : List (Nat × AI) := [(0, .aload_n 0, 1, [0], []), (1, .getfield 31, 3, [2, 6, 0], []), (4, .istore_n 3, 1, [3], []), (5, .aload_n 0, 1, [0], []), (6, .iload_n 1, 1, [1], []), (7, .iload_n 3, 1, [3], []), (8, .invokevirtual 67, 3, [33, 3, 1, 2, 6], []), (11, .istore 4, 2, [4], []), (13, .iconst 0, 1, [], [(0, 0)]), (14, .istore 5, 2, [5], []), (16, .iload 5, 2, [5], []), (18, .bipush 30, 2, [], [(30, 0)]), (20, .if_icmp .ge 60, 3, [80], []), (23, .iload 4, 2, [4], []), (25, .bipush (-9), 2, [], [((-9), 0)]), (27, .if_icmp .eq 53, 3, [80], []), (30, .aload_n 0, 1, [0], []), (31, .getfield 21, 3, [2, 3, 2], []), (34, .iload 4, 2, [4], []), (36, .iload_n 1, 1, [1], []), (37, .iastore, 1, [], []), (38, .aload_n 0, 1, [0], []), (39, .getfield 24, 3, [2, 4, 2], []), (42, .iload 4, 2, [4], []), (44, .iload_n 2, 1, [2], []), (45, .iastore, 1, [], []), (46, .aload_n 0, 1, [0], []), (47, .dup, 1, [], []), (48, .getfield 47, 3, [2, 8, 0], []), (51, .iconst 1, 1, [], [(1, 0)]), (52, .iadd, 1, [], []), (53, .putfield 47, 3, [2, 8, 0], []), (56, .iload_n 3, 1, [3], []), (57, .aload_n 0, 1, [0], []), (58, .getfield 11, 3, [2, 0, 2], []), (61, .iload 4, 2, [4], []), (63, .iaload, 1, [], []), (64, .isub, 1, [], []), (65, .istore_n 3, 1, [3], []), (66, .aload_n 0, 1, [0], []), (67, .iload_n 1, 1, [1], []), (68, .iload_n 3, 1, [3], []), (69, .invokevirtual 67, 3, [33, 3, 1, 2, 6], []), (72, .istore 4, 2, [4], []), (74, .iinc 5 1, 3, [5], [(1, 0)]), (77, .goto (-61), 3, [16], []), (80, .return_, 1, [], [])]
noncomputable def cd33 : List (Nat × AI) := [(0, .bipush (-9), 2, [], [((-9), 0)]), (2, .istore_n 3, 1, [3], []), (3, .iconst 0, 1, [], [(0, 0)]), (4, .istore 4, 2, [4], []), (6, .iload 4, 2, [4], []), (8, .aload_n 0, 1, [0], []), (9, .getfield 50, 3, [2, 7, 0], []), (12, .if_icmp .ge 74, 3, [86], []), (15, .aload_n 0, 1, [0], []), (16, .getfield 15, 3, [2, 1, 2], []), (19, .iload 4, 2, [4], []), (21, .iaload, 1, [], []), (22, .iload_n 1, 1, [1], []), (23, .if_icmp .gt 30, 3, [53], []), (26, .aload_n 0, 1, [0], []), (27, .getfield 21, 3, [2, 3, 2], []), (30, .iload 4, 2, [4], []), (32, .iaload, 1, [], []), (33, .bipush (-9), 2, [], [((-9), 0)]), (35, .if_icmp .ne 18, 3, [53], []), (38, .aload_n 0, 1, [0], []), (39, .getfield 11, 3, [2, 0, 2], []), (42, .iload 4, 2, [4], []), (44, .iaload, 1, [], []), (45, .iload_n 2, 1, [2], []), (46, .if_icmp .gt 7, 3, [53], []), (49, .iconst 1, 1, [], [(1, 0)]), (50, .goto 4, 3, [54], []), (53, .iconst 0, 1, [], [(0, 0)]), (54, .istore 5, 2, [5], []), (56, .iload 5, 2, [5], []), (58, .ifCond .eq 22, 3, [80], []), (61, .iload_n 3, 1, [3], []), (62, .bipush (-9), 2, [], [((-9), 0)]), (64, .if_icmp .eq 13, 3, [77], []), (67, .aload_n 0, 1, [0], []), (68, .iload 4, 2, [4], []), (70, .iload_n 3, 1, [3], []), (71, .invokevirtual 71, 3, [34, 3, 1, 2, 3], []), (74, .ifCond .eq 6, 3, [80], []), (77, .iload 4, 2, [4], []), (79, .istore_n 3, 1, [3], []), (80, .iinc 4 1, 3, [4], [(1, 0)]), (83, .goto (-77), 3, [6], []), (86, .iload_n 3, 1, [3], []), (87, .ireturn, 1, [0], [])]
noncomputable def cd34 : List (Nat × AI) := [(0, .aload_n 0, 1, [0], []), (1, .getfield 18, 3, [2, 2, 2], []), (4, .iload_n 1, 1, [1], []), (5, .iaload, 1, [], []), (6, .aload_n 0, 1, [0], []), (7, .getfield 18, 3, [2, 2, 2], []), (10, .iload_n 2, 1, [2], []), (11, .iaload, 1, [], []), (12, .if_icmp .gt 33, 3, [45], []), (15, .aload_n 0, 1, [0], []), (16, .getfield 18, 3, [2, 2, 2], []), (19, .iload_n 1, 1, [1], []), (20, .iaload, 1, [], []), (21, .aload_n 0, 1, [0], []), (22, .getfield 18, 3, [2, 2, 2], []), (25, .iload_n 2, 1, [2], []), (26, .iaload, 1, [], []), (27, .if_icmp .ne 22, 3, [49], []), (30, .aload_n 0, 1, [0], []), (31, .getfield 15, 3, [2, 1, 2], []), (34, .iload_n 1, 1, [1], []), (35, .iaload, 1, [], []), (36, .aload_n 0, 1, [0], []), (37, .getfield 15, 3, [2, 1, 2], []), (40, .iload_n 2, 1, [2], []), (41, .iaload, 1, [], []), (42, .if_icmp .ge 7, 3, [49], []), (45, .iconst 1, 1, [], [(1, 0)]), (46, .goto 4, 3, [50], []), (49, .iconst 0, 1, [], [(0, 0)]), (50, .ireturn, 1, [1], [])]
noncomputable def cd35 : List (Nat × AI) := [(0, .iconst 0, 1, [], [(0, 0)]), (1, .istore_n 2, 1, [2], []), (2, .iconst 0, 1, [], [(0, 0)]), (3, .istore_n 3, 1, [3], []), (4, .iload_n 3, 1, [3], []), (5, .aload_n 0, 1, [0], []), (6, .getfield 50, 3, [2, 7, 0], []), (9, .if_icmp .ge 55, 3, [64], []), (12, .aload_n 0, 1, [0], []), (13, .getfield 21, 3, [2, 3, 2], []), (16, .iload_n 3, 1, [3], []), (17, .iaload, 1, [], []), (18, .bipush (-9), 2, [], [((-9), 0)]), (20, .if_icmp .eq 17, 3, [37], []), (23, .aload_n 0, 1, [0], []), (24, .getfield 21, 3, [2, 3, 2], []), (27, .iload_n 3, 1, [3], []), (28, .iaload, 1, [], []), (29, .iload_n 1, 1, [1], []), (30, .if_icmp .gt 7, 3, [37], []), (33, .iconst 1, 1, [], [(1, 0)]), (34, .goto 4, 3, [38], []), (37, .iconst 0, 1, [], [(0, 0)]), (38, .istore 4, 2, [4], []), (40, .aload_n 0, 1, [0], []), (41, .getfield 15, 3, [2, 1, 2], []), (44, .iload_n 3, 1, [3], []), (45, .iaload, 1, [], []), (46, .iload_n 1, 1, [1], []), (47, .if_icmp .gt 11, 3, [58], []), (50, .iload 4, 2, [4], []), (52, .ifCond .ne 6, 3, [58], []), (55, .iinc 2 1, 3, [2], [(1, 0)]), (58, .iinc 3 1, 3, [3], [(1, 0)]), (61, .goto (-57), 3, [4], []), (64, .iload_n 2, 1, [2], []), (65, .ireturn, 1, [0], [])]
noncomputable def cd36 : List (Nat × AI) := [(0, .aload_n 0, 1, [0], []), (1, .getfield 75, 3, [2, 9, 0], []), (4, .bipush 12, 2, [], [(12, 0)]), (6, .if_icmp .ne 6, 3, [12], []), (9, .bipush (-4), 2, [], [((-4), 0)]), (11, .ireturn, 1, [0], []), (12, .aload_n 0, 1, [0], []), (13, .dup, 1, [], []), (14, .getfield 75, 3, [2, 9, 0], []), (17, .iconst 1, 1, [], [(1, 0)]), (18, .iadd, 1, [], []), (19, .putfield 75, 3, [2, 9, 0], []), (22, .aload_n 0, 1, [0], []), (23, .dup, 1, [], []), (24, .getfield 34, 3, [2, 10, 1], []), (27, .iload_n 1, 1, [1], []), (28, .i2l, 1, [], []), (29, .lmul, 1, [], []), (30, .putfield 34, 3, [2, 10, 1], []), (33, .aload_n 0, 1, [0], []), (34, .dup, 1, [], []), (35, .getfield 38, 3, [2, 11, 1], []), (38, .iload_n 2, 1, [2], []), (39, .iload_n 1, 1, [1], []), (40, .isub, 1, [], []), (41, .i2l, 1, [], []), (42, .lmul, 1, [], []), (43, .putfield 38, 3, [2, 11, 1], []), (46, .aload_n 0, 1, [0], []), (47, .dup, 1, [], []), (48, .getfield 41, 3, [2, 12, 1], []), (51, .iload_n 2, 1, [2], []), (52, .i2l, 1, [], []), (53, .lmul, 1, [], []), (54, .putfield 41, 3, [2, 12, 1], []), (57, .aload_n 0, 1, [0], []), (58, .getfield 75, 3, [2, 9, 0], []), (61, .ireturn, 1, [0], [])]
noncomputable def cd37 : List (Nat × AI) := [(0, .aload_n 0, 1, [0], []), (1, .getfield 75, 3, [2, 9, 0], []), (4, .istore_n 1, 1, [1], []), (5, .aload_n 0, 1, [0], []), (6, .iconst 0, 1, [], [(0, 0)]), (7, .putfield 75, 3, [2, 9, 0], []), (10, .aload_n 0, 1, [0], []), (11, .lconst 1, 1, [1], []), (12, .putfield 34, 3, [2, 10, 1], []), (15, .aload_n 0, 1, [0], []), (16, .lconst 1, 1, [1], []), (17, .putfield 38, 3, [2, 11, 1], []), (20, .aload_n 0, 1, [0], []), (21, .lconst 1, 1, [1], []), (22, .putfield 41, 3, [2, 12, 1], []), (25, .iload_n 1, 1, [1], []), (26, .ireturn, 1, [0], [])]
noncomputable def cd38 : List (Nat × AI) := [(0, .iload_n 1, 1, [1], []), (1, .lookupswitch 41 #[(0, 27), (1, 34)], 27, [42], [(0, 28), (1, 35)]), (28, .aload_n 0, 1, [0], []), (29, .getfield 34, 3, [2, 10, 1], []), (32, .goto 24, 3, [56], []), (35, .aload_n 0, 1, [0], []), (36, .getfield 38, 3, [2, 11, 1], []), (39, .goto 17, 3, [56], []), (42, .aload_n 0, 1, [0], []), (43, .getfield 41, 3, [2, 12, 1], []), (46, .aload_n 0, 1, [0], []), (47, .getfield 34, 3, [2, 10, 1], []), (50, .lsub, 1, [], []), (51, .aload_n 0, 1, [0], []), (52, .getfield 38, 3, [2, 11, 1], []), (55, .lsub, 1, [], []), (56, .lstore_n 3, 1, [3], []), (57, .aload_n 0, 1, [0], []), (58, .getfield 41, 3, [2, 12, 1], []), (61, .lload_n 3, 1, [3], []), (62, .invokestatic 78, 3, [39, 2, 2, 2, 11], []), (65, .lstore 5, 2, [5], []), (67, .lload 5, 2, [5], []), (69, .lconst 0, 1, [0], []), (70, .lcmp, 1, [], []), (71, .ifCond .ne 7, 3, [78], []), (74, .ldc2_w 82, 3, [], []), (77, .lreturn, 1, [], []), (78, .iload_n 2, 1, [2], []), (79, .ifCond .ne 7, 3, [86], []), (82, .lload_n 3, 1, [3], []), (83, .goto 7, 3, [90], []), (86, .aload_n 0, 1, [0], []), (87, .getfield 41, 3, [2, 12, 1], []), (90, .lload 5, 2, [5], []), (92, .ldiv, 1, [], []), (93, .lreturn, 1, [], [])]
noncomputable def cd39 : List (Nat × AI) := [(0, .lload_n 0, 1, [0], []), (1, .lstore 4, 2, [4], []), (3, .lload_n 2, 1, [2], []), (4, .lstore 6, 2, [6], []), (6, .iconst 0, 1, [], [(0, 0)]), (7, .istore 8, 2, [8], []), (9, .iload 8, 2, [8], []), (11, .bipush 100, 2, [], [(100, 0)]), (13, .if_icmp .ge 31, 3, [44], []), (16, .lload 6, 2, [6], []), (18, .lconst 0, 1, [0], []), (19, .lcmp, 1, [], []), (20, .ifCond .eq 24, 3, [44], []), (23, .lload 4, 2, [4], []), (25, .lload 6, 2, [6], []), (27, .lrem, 1, [], []), (28, .lstore 9, 2, [9], []), (30, .lload 6, 2, [6], []), (32, .lstore 4, 2, [4], []), (34, .lload 9, 2, [9], []), (36, .lstore 6, 2, [6], []), (38, .iinc 8 1, 3, [8], [(1, 0)]), (41, .goto (-32), 3, [9], []), (44, .lload 4, 2, [4], []), (46, .lreturn, 1, [], [])]
noncomputable def cd40 : List (Nat × AI) := [(0, .aload_n 0, 1, [0], []), (1, .invokespecial 3, 3, [], []), (4, .aload_n 0, 1, [0], []), (5, .bipush (-9), 2, [], [((-9), 0)]), (7, .putfield 9, 3, [3, 2, 0], []), (10, .aload_n 0, 1, [0], []), (11, .bipush (-9), 2, [], [((-9), 0)]), (13, .putfield 15, 3, [3, 6, 0], []), (16, .return_, 1, [], [])]
noncomputable def cd41 : List (Nat × AI) := [(0, .iload_n 1, 1, [1], []), (1, .aload_n 0, 1, [0], []), (2, .getfield 18, 3, [3, 3, 0], []), (5, .aload_n 0, 1, [0], []), (6, .getfield 21, 3, [3, 4, 0], []), (9, .invokestatic 24, 3, [161, 3, 1, 11, 3], []), (12, .ifCond .eq 24, 3, [36], []), (15, .aload_n 0, 1, [0], []), (16, .getfield 15, 3, [3, 6, 0], []), (19, .bipush (-9), 2, [], [((-9), 0)]), (21, .if_icmp .eq 11, 3, [32], []), (24, .iload_n 1, 1, [1], []), (25, .aload_n 0, 1, [0], []), (26, .getfield 15, 3, [3, 6, 0], []), (29, .if_icmp .ge 7, 3, [36], []), (32, .iconst 1, 1, [], [(1, 0)]), (33, .goto 4, 3, [37], []), (36, .iconst 0, 1, [], [(0, 0)]), (37, .ireturn, 1, [1], [])]
noncomputable def cd42 : List (Nat × AI) := [(0, .aload_n 0, 1, [0], []), (1, .iload 5, 2, [5], []), (3, .invokevirtual 28, 3, [41, 2, 1, 3, 2], []), (6, .ifCond .eq 60, 3, [66], []), (9, .aload_n 0, 1, [0], []), (10, .getfield 32, 3, [3, 0, 0], []), (13, .iload_n 1, 1, [1], []), (14, .if_icmp .ne 52, 3, [66], []), (17, .aload_n 0, 1, [0], []), (18, .getfield 35, 3, [3, 1, 0], []), (21, .iconst 4, 1, [], [(4, 0)]), (22, .if_icmp .eq 11, 3, [33], []), (25, .aload_n 0, 1, [0], []), (26, .getfield 35, 3, [3, 1, 0], []), (29, .iload_n 2, 1, [2], []), (30, .if_icmp .ne 36, 3, [66], []), (33, .aload_n 0, 1, [0], []), (34, .getfield 9, 3, [3, 2, 0], []), (37, .bipush (-9), 2, [], [((-9), 0)]), (39, .if_icmp .eq 11, 3, [50], []), (42, .iload_n 3, 1, [3], []), (43, .aload_n 0, 1, [0], []), (44, .getfield 9, 3, [3, 2, 0], []), (47, .if_icmp .le 19, 3, [66], []), (50, .aload_n 0, 1, [0], []), (51, .getfield 38, 3, [3, 5, 0], []), (54, .iload 4, 2, [4], []), (56, .ishr, 1, [], []), (57, .iconst 1, 1, [], [(1, 0)]), (58, .iand, 1, [], []), (59, .ifCond .ne 7, 3, [66], []), (62, .iconst 1, 1, [], [(1, 0)]), (63, .goto 4, 3, [67], []), (66, .iconst 0, 1, [], [(0, 0)]), (67, .ireturn, 1, [1], [])]
noncomputable def cd43 : List (Nat × AI) := [(0, .aload_n 0, 1, [0], []), (1, .invokespecial 3, 3, [], []), (4, .aload_n 0, 1, [0], []), (5, .bipush 8, 2, [], [(8, 0)]), (7, .bipush 12, 2, [], [(12, 0)]), (9, .multianewarray 11 2, 4, [], []), (13, .putfield 13, 3, [4, 0, 2], []), (16, .aload_n 0, 1, [0], []), (17, .bipush 8, 2, [], [(8, 0)]), (19, .newarray .int, 2, [0], []), (21, .putfield 16, 3, [4, 1, 2], []), (24, .aload_n 0, 1, [0], []), (25, .bipush 12, 2, [], [(12, 0)]), (27, .bipush 12, 2, [], [(12, 0)]), (29, .multianewarray 11 2, 4, [], []), (33, .putfield 20, 3, [4, 2, 2], []), (36, .aload_n 0, 1, [0], []), (37, .bipush 12, 2, [], [(12, 0)]), (39, .newarray .int, 2, [0], []), (41, .putfield 23, 3, [4, 3, 2], []), (44, .aload_n 0, 1, [0], []), (45, .bipush 12, 2, [], [(12, 0)]), (47, .newarray .int, 2, [0], []), (49, .putfield 26, 3, [4, 4, 2], []), (52, .aload_n 0, 1, [0], []), (53, .bipush 12, 2, [], [(12, 0)]), (55, .newarray .int, 2, [0], []), (57, .putfield 29, 3, [4, 5, 2], []), (60, .aload_n 0, 1, [0], []), (61, .bipush 12, 2, [], [(12, 0)]), (63, .newarray .int, 2, [0], []), (65, .putfield 32, 3, [4, 6, 2], []), (68, .return_, 1, [], [])]
noncomputable def cd44 : List (Nat × AI) := [(0, .iload_n 1, 1, [1], []), (1, .iconst 1, 1, [], [(1, 0)]), (2, .bipush 12, 2, [], [(12, 0)]), (4, .invokestatic 35, 3, [161, 3, 1, 11, 3], []), (7, .ifCond .eq 9, 3, [16], []), (10, .iload_n 1, 1, [1], []), (11, .aload_n 0, 1, [0], []), (12, .arraylength, 1, [], []), (13, .if_icmp .le 5, 3, [18], []), (16, .iconst 0, 1, [], [(0, 0)]), (17, .ireturn, 1, [1], []), (18, .iconst 0, 1, [], [(0, 0)]), (19, .istore_n 2, 1, [2], []), (20, .iload_n 2, 1, [2], []), (21, .iload_n 1, 1, [1], []), (22, .if_icmp .ge 23, 3, [45], []), (25, .aload_n 0, 1, [0], []), (26, .iload_n 2, 1, [2], []), (27, .iaload, 1, [], []), (28, .iconst 0, 1, [], [(0, 0)]), (29, .bipush 9, 2, [], [(9, 0)]), (31, .invokestatic 35, 3, [161, 3, 1, 11, 3], []), (34, .ifCond .ne 5, 3, [39], []), (37, .iconst 0, 1, [], [(0, 0)]), (38, .ireturn, 1, [1], []), (39, .iinc 2 1, 3, [2], [(1, 0)]), (42, .goto (-22), 3, [20], []), (45, .iconst 1, 1, [], [(1, 0)]), (46, .ireturn, 1, [1], [])]
noncomputable def cd45 : List (Nat × AI) := [(0, .iload_n 1, 1, [1], []), (1, .iconst 0, 1, [], [(0, 0)]), (2, .aload_n 0, 1, [0], []), (3, .getfield 39, 3, [4, 7, 0], []), (6, .iconst 1, 1, [], [(1, 0)]), (7, .isub, 1, [], []), (8, .invokestatic 35, 3, [161, 3, 1, 11, 3], []), (11, .ireturn, 1, [1], [])]
noncomputable def cd46 : List (Nat × AI) := [(0, .iload_n 1, 1, [1], []), (1, .iconst 0, 1, [], [(0, 0)]), (2, .aload_n 0, 1, [0], []), (3, .getfield 43, 3, [4, 8, 0], []), (6, .iconst 1, 1, [], [(1, 0)]), (7, .isub, 1, [], []), (8, .invokestatic 35, 3, [161, 3, 1, 11, 3], []), (11, .ireturn, 1, [1], [])]
noncomputable def cd47 : List (Nat × AI) := [(0, .aload_n 0, 1, [0], []), (1, .getfield 39, 3, [4, 7, 0], []), (4, .bipush 8, 2, [], [(8, 0)]), (6, .if_icmp .ne 6, 3, [12], []), (9, .bipush (-4), 2, [], [((-4), 0)]), (11, .ireturn, 1, [0], []), (12, .aload_n 0, 1, [0], []), (13, .getfield 39, 3, [4, 7, 0], []), (16, .istore_n 3, 1, [3], []), (17, .aload_n 1, 1, [1], []), (18, .iconst 0, 1, [], [(0, 0)]), (19, .aload_n 0, 1, [0], []), (20, .getfield 13, 3, [4, 0, 2], []), (23, .iload_n 3, 1, [3], []), (24, .aaload, 1, [], []), (25, .iconst 0, 1, [], [(0, 0)]), (26, .iload_n 2, 1, [2], []), (27, .invokestatic 46, 3, [], []), (30, .aload_n 0, 1, [0], []), (31, .getfield 16, 3, [4, 1, 2], []), (34, .iload_n 3, 1, [3], []), (35, .iload_n 2, 1, [2], []), (36, .iastore, 1, [], []), (37, .iconst 0, 1, [], [(0, 0)]), (38, .istore 4, 2, [4], []), (40, .iload 4, 2, [4], []), (42, .aload_n 0, 1, [0], []), (43, .getfield 43, 3, [4, 8, 0], []), (46, .if_icmp .ge 16, 3, [62], []), (49, .aload_n 0, 1, [0], []), (50, .iload_n 3, 1, [3], []), (51, .iload 4, 2, [4], []), (53, .invokevirtual 52, 3, [50, 3, 0, 4, 3], []), (56, .iinc 4 1, 3, [4], [(1, 0)]), (59, .goto (-19), 3, [40], []), (62, .aload_n 0, 1, [0], []), (63, .dup, 1, [], []), (64, .getfield 39, 3, [4, 7, 0], []), (67, .iconst 1, 1, [], [(1, 0)]), (68, .iadd, 1, [], []), (69, .putfield 39, 3, [4, 7, 0], []), (72, .iload_n 3, 1, [3], []), (73, .ireturn, 1, [0], [])]
noncomputable def cd48 : List (Nat × AI) := [(0, .aload_n 0, 1, [0], []), (1, .getfield 43, 3, [4, 8, 0], []), (4, .bipush 12, 2, [], [(12, 0)]), (6, .if_icmp .ne 6, 3, [12], []), (9, .bipush (-4), 2, [], [((-4), 0)]), (11, .ireturn, 1, [0], []), (12, .aload_n 0, 1, [0], []), (13, .getfield 43, 3, [4, 8, 0], []), (16, .istore 5, 2, [5], []), (18, .aload_n 3, 1, [3], []), (19, .iconst 0, 1, [], [(0, 0)]), (20, .aload_n 0, 1, [0], []), (21, .getfield 20, 3, [4, 2, 2], []), (24, .iload 5, 2, [5], []), (26, .aaload, 1, [], []), (27, .iconst 0, 1, [], [(0, 0)]), (28, .iload 4, 2, [4], []), (30, .invokestatic 46, 3, [], []), (33, .aload_n 0, 1, [0], []), (34, .getfield 23, 3, [4, 3, 2], []), (37, .iload 5, 2, [5], []), (39, .iload 4, 2, [4], []), (41, .iastore, 1, [], []), (42, .aload_n 0, 1, [0], []), (43, .getfield 26, 3, [4, 4, 2], []), (46, .iload 5, 2, [5], []), (48, .iload_n 1, 1, [1], []), (49, .iastore, 1, [], []), (50, .aload_n 0, 1, [0], []), (51, .getfield 29, 3, [4, 5, 2], []), (54, .iload 5, 2, [5], []), (56, .iload_n 2, 1, [2], []), (57, .iastore, 1, [], []), (58, .iconst 0, 1, [], [(0, 0)]), (59, .istore 6, 2, [6], []), (61, .iload 6, 2, [6], []), (63, .aload_n 0, 1, [0], []), (64, .getfield 39, 3, [4, 7, 0], []), (67, .if_icmp .ge 17, 3, [84], []), (70, .aload_n 0, 1, [0], []), (71, .iload 6, 2, [6], []), (73, .iload 5, 2, [5], []), (75, .invokevirtual 52, 3, [50, 3, 0, 4, 3], []), (78, .iinc 6 1, 3, [6], [(1, 0)]), (81, .goto (-20), 3, [61], []), (84, .aload_n 0, 1, [0], []), (85, .dup, 1, [], []), (86, .getfield 43, 3, [4, 8, 0], []), (89, .iconst 1, 1, [], [(1, 0)]), (90, .iadd, 1, [], []), (91, .putfield 43, 3, [4, 8, 0], []), (94, .iload 5, 2, [5], []), (96, .ireturn, 1, [0], [])]
noncomputable def cd49 : List (Nat × AI) := [(0, .aload_n 0, 1, [0], []), (1, .getfield 29, 3, [4, 5, 2], []), (4, .iload_n 1, 1, [1], []), (5, .iaload, 1, [], []), (6, .istore_n 3, 1, [3], []), (7, .aload_n 0, 1, [0], []), (8, .getfield 29, 3, [4, 5, 2], []), (11, .iload_n 1, 1, [1], []), (12, .iload_n 2, 1, [2], []), (13, .iastore, 1, [], []), (14, .iload_n 3, 1, [3], []), (15, .iconst (-1), 1, [], [((-1), 0)]), (16, .if_icmp .ne 8, 3, [24], []), (19, .bipush (-9), 2, [], [((-9), 0)]), (21, .goto 4, 3, [25], []), (24, .iload_n 3, 1, [3], []), (25, .ireturn, 1, [0], [])]
noncomputable def cd50 : List (Nat × AI) := [(0, .aload_n 0, 1, [0], []), (1, .iload_n 1, 1, [1], []), (2, .iload_n 2, 1, [2], []), (3, .invokevirtual 56, 3, [51, 3, 1, 4, 6], []), (6, .ifCond .eq 15, 3, [21], []), (9, .aload_n 0, 1, [0], []), (10, .getfield 32, 3, [4, 6, 2], []), (13, .iload_n 2, 1, [2], []), (14, .dup2, 1, [], []), (15, .iaload, 1, [], []), (16, .iconst 1, 1, [], [(1, 0)]), (17, .iload_n 1, 1, [1], []), (18, .ishl, 1, [], []), (19, .ior, 1, [], []), (20, .iastore, 1, [], []), (21, .return_, 1, [], [])]
noncomputable def cd51 : List (Nat × AI) := [(0, .iconst 0, 1, [], [(0, 0)]), (1, .istore_n 3, 1, [3], []), (2, .iload_n 3, 1, [3], []), (3, .aload_n 0, 1, [0], []), (4, .getfield 23, 3, [4, 3, 2], []), (7, .iload_n 2, 1, [2], []), (8, .iaload, 1, [], []), (9, .if_icmp .ge 91, 3, [100], []), (12, .aload_n 0, 1, [0], []), (13, .getfield 20, 3, [4, 2, 2], []), (16, .iload_n 2, 1, [2], []), (17, .aaload, 1, [], []), (18, .iload_n 3, 1, [3], []), (19, .iaload, 1, [], []), (20, .istore 4, 2, [4], []), (22, .aload_n 0, 1, [0], []), (23, .getfield 26, 3, [4, 4, 2], []), (26, .iload_n 2, 1, [2], []), (27, .iaload, 1, [], []), (28, .iload_n 3, 1, [3], []), (29, .iadd, 1, [], []), (30, .istore 5, 2, [5], []), (32, .aload_n 0, 1, [0], []), (33, .iload_n 1, 1, [1], []), (34, .iload 5, 2, [5], []), (36, .invokevirtual 60, 3, [52, 3, 1, 4, 3], []), (39, .iload 4, 2, [4], []), (41, .if_icmp .ne 5, 3, [46], []), (44, .iconst 1, 1, [], [(1, 0)]), (45, .ireturn, 1, [1], []), (46, .iload_n 3, 1, [3], []), (47, .iconst 1, 1, [], [(1, 0)]), (48, .iadd, 1, [], []), (49, .aload_n 0, 1, [0], []), (50, .getfield 23, 3, [4, 3, 2], []), (53, .iload_n 2, 1, [2], []), (54, .iaload, 1, [], []), (55, .if_icmp .ge 39, 3, [94], []), (58, .aload_n 0, 1, [0], []), (59, .iload_n 1, 1, [1], []), (60, .iload 5, 2, [5], []), (62, .invokevirtual 60, 3, [52, 3, 1, 4, 3], []), (65, .aload_n 0, 1, [0], []), (66, .getfield 20, 3, [4, 2, 2], []), (69, .iload_n 2, 1, [2], []), (70, .aaload, 1, [], []), (71, .iload_n 3, 1, [3], []), (72, .iconst 1, 1, [], [(1, 0)]), (73, .iadd, 1, [], []), (74, .iaload, 1, [], []), (75, .if_icmp .ne 19, 3, [94], []), (78, .aload_n 0, 1, [0], []), (79, .iload_n 1, 1, [1], []), (80, .iload 5, 2, [5], []), (82, .iconst 1, 1, [], [(1, 0)]), (83, .iadd, 1, [], []), (84, .invokevirtual 60, 3, [52, 3, 1, 4, 3], []), (87, .iload 4, 2, [4], []), (89, .if_icmp .ne 5, 3, [94], []), (92, .iconst 1, 1, [], [(1, 0)]), (93, .ireturn, 1, [1], []), (94, .iinc 3 1, 3, [3], [(1, 0)]), (97, .goto (-95), 3, [2], []), (100, .iconst 0, 1, [], [(0, 0)]), (101, .ireturn, 1, [1], [])]
noncomputable def cd52 : List (Nat × AI) := [(0, .aload_n 0, 1, [0], []), (1, .getfield 16, 3, [4, 1, 2], []), (4, .iload_n 1, 1, [1], []), (5, .iaload, 1, [], []), (6, .ifCond .ne 8, 3, [14], []), (9, .bipush (-9), 2, [], [((-9), 0)]), (11, .goto 18, 3, [29], []), (14, .aload_n 0, 1, [0], []), (15, .getfield 13, 3, [4, 0, 2], []), (18, .iload_n 1, 1, [1], []), (19, .aaload, 1, [], []), (20, .iload_n 2, 1, [2], []), (21, .aload_n 0, 1, [0], []), (22, .getfield 16, 3, [4, 1, 2], []), (25, .iload_n 1, 1, [1], []), (26, .iaload, 1, [], []), (27, .irem, 1, [], []), (28, .iaload, 1, [], []), (29, .ireturn, 1, [0], [])]
noncomputable def cd53 : List (Nat × AI) := [(0, .iconst 0, 1, [], [(0, 0)]), (1, .istore_n 2, 1, [2], []), (2, .iload_n 2, 1, [2], []), (3, .aload_n 0, 1, [0], []), (4, .getfield 43, 3, [4, 8, 0], []), (7, .if_icmp .ge 57, 3, [64], []), (10, .aload_n 0, 1, [0], []), (11, .getfield 32, 3, [4, 6, 2], []), (14, .iload_n 2, 1, [2], []), (15, .iaload, 1, [], []), (16, .iload_n 1, 1, [1], []), (17, .iconst (-1), 1, [], [((-1), 0)]), (18, .ixor, 1, [], []), (19, .iand, 1, [], []), (20, .ifCond .ne 7, 3, [27], []), (23, .iconst 1, 1, [], [(1, 0)]), (24, .goto 4, 3, [28], []), (27, .iconst 0, 1, [], [(0, 0)]), (28, .istore_n 3, 1, [3], []), (29, .aload_n 0, 1, [0], []), (30, .getfield 29, 3, [4, 5, 2], []), (33, .iload_n 2, 1, [2], []), (34, .iaload, 1, [], []), (35, .iconst 1, 1, [], [(1, 0)]), (36, .if_icmp .ne 7, 3, [43], []), (39, .iload_n 3, 1, [3], []), (40, .ifCond .eq 16, 3, [56], []), (43, .aload_n 0, 1, [0], []), (44, .getfield 29, 3, [4, 5, 2], []), (47, .iload_n 2, 1, [2], []), (48, .iaload, 1, [], []), (49, .ifCond .ne 9, 3, [58], []), (52, .iload_n 3, 1, [3], []), (53, .ifCond .eq 5, 3, [58], []), (56, .iconst 0, 1, [], [(0, 0)]), (57, .ireturn, 1, [1], []), (58, .iinc 2 1, 3, [2], [(1, 0)]), (61, .goto (-59), 3, [2], []), (64, .iconst 1, 1, [], [(1, 0)]), (65, .ireturn, 1, [1], [])]
noncomputable def cd54 : List (Nat × AI) := [(0, .iconst 0, 1, [], [(0, 0)]), (1, .istore_n 2, 1, [2], []), (2, .iconst 0, 1, [], [(0, 0)]), (3, .istore_n 3, 1, [3], []), (4, .iload_n 3, 1, [3], []), (5, .iconst 1, 1, [], [(1, 0)]), (6, .aload_n 0, 1, [0], []), (7, .getfield 39, 3, [4, 7, 0], []), (10, .ishl, 1, [], []), (11, .if_icmp .ge 28, 3, [39], []), (14, .iload_n 1, 1, [1], []), (15, .iload_n 3, 1, [3], []), (16, .iconst (-1), 1, [], [((-1), 0)]), (17, .ixor, 1, [], []), (18, .iand, 1, [], []), (19, .ifCond .ne 14, 3, [33], []), (22, .aload_n 0, 1, [0], []), (23, .iload_n 3, 1, [3], []), (24, .invokevirtual 64, 3, [53, 2, 1, 4, 4], []), (27, .ifCond .eq 6, 3, [33], []), (30, .iinc 2 1, 3, [2], [(1, 0)]), (33, .iinc 3 1, 3, [3], [(1, 0)]), (36, .goto (-32), 3, [4], []), (39, .iload_n 2, 1, [2], []), (40, .ireturn, 1, [0], [])]
noncomputable def cd55 : List (Nat × AI) := [(0, .aload_n 0, 1, [0], []), (1, .iconst 0, 1, [], [(0, 0)]), (2, .invokevirtual 68, 3, [54, 2, 1, 4, 4], []), (5, .istore_n 2, 1, [2], []), (6, .aload_n 0, 1, [0], []), (7, .iload_n 1, 1, [1], []), (8, .invokevirtual 68, 3, [54, 2, 1, 4, 4], []), (11, .istore_n 3, 1, [3], []), (12, .iload_n 2, 1, [2], []), (13, .ifCond .ne 6, 3, [19], []), (16, .bipush (-9), 2, [], [((-9), 0)]), (18, .ireturn, 1, [0], []), (19, .iload_n 3, 1, [3], []), (20, .ifCond .ne 5, 3, [25], []), (23, .iconst 0, 1, [], [(0, 0)]), (24, .ireturn, 1, [0], []), (25, .iload_n 3, 1, [3], []), (26, .iload_n 2, 1, [2], []), (27, .if_icmp .ne 7, 3, [34], []), (30, .iconst 2, 1, [], [(2, 0)]), (31, .goto 4, 3, [35], []), (34, .iconst 1, 1, [], [(1, 0)]), (35, .ireturn, 1, [0], [])]
noncomputable def cd56 : List (Nat × AI) := [(0, .aload_n 0, 1, [0], []), (1, .invokespecial 3, 3, [], []), (4, .aload_n 0, 1, [0], []), (5, .bipush 24, 2, [], [(24, 0)]), (7, .newarray .int, 2, [0], []), (9, .putfield 9, 3, [5, 0, 2], []), (12, .aload_n 0, 1, [0], []), (13, .bipush 24, 2, [], [(24, 0)]), (15, .newarray .boolean, 2, [1], []), (17, .putfield 15, 3, [5, 1, 2], []), (20, .return_, 1, [], [])]
noncomputable def cd57 : List (Nat × AI) := [(0, .aload_n 0, 1, [0], []), (1, .getfield 19, 3, [5, 2, 0], []), (4, .aload_n 0, 1, [0], []), (5, .getfield 9, 3, [5, 0, 2], []), (8, .arraylength, 1, [], []), (9, .if_icmp .ne 6, 3, [15], []), (12, .bipush (-4), 2, [], [((-4), 0)]), (14, .ireturn, 1, [0], []), (15, .aload_n 0, 1, [0], []), (16, .getfield 9, 3, [5, 0, 2], []), (19, .aload_n 0, 1, [0], []), (20, .getfield 19, 3, [5, 2, 0], []), (23, .iload_n 1, 1, [1], []), (24, .iastore, 1, [], []), (25, .aload_n 0, 1, [0], []), (26, .getfield 15, 3, [5, 1, 2], []), (29, .aload_n 0, 1, [0], []), (30, .getfield 19, 3, [5, 2, 0], []), (33, .iload_n 2, 1, [2], []), (34, .bastore, 1, [], []), (35, .aload_n 0, 1, [0], []), (36, .dup, 1, [], []), (37, .getfield 19, 3, [5, 2, 0], []), (40, .iconst 1, 1, [], [(1, 0)]), (41, .iadd, 1, [], []), (42, .putfield 19, 3, [5, 2, 0], []), (45, .aload_n 0, 1, [0], []), (46, .getfield 19, 3, [5, 2, 0], []), (49, .iconst 1, 1, [], [(1, 0)]), (50, .isub, 1, [], []), (51, .ireturn, 1, [0], [])]
noncomputable def cd58 : List (Nat × AI) := [(0, .iload_n 1, 1, [1], []), (1, .ifCond .eq 16, 3, [17], []), (4, .iload_n 1, 1, [1], []), (5, .aload_n 0, 1, [0], []), (6, .getfield 19, 3, [5, 2, 0], []), (9, .iushr, 1, [], []), (10, .ifCond .ne 7, 3, [17], []), (13, .iconst 1, 1, [], [(1, 0)]), (14, .goto 4, 3, [18], []), (17, .iconst 0, 1, [], [(0, 0)]), (18, .ireturn, 1, [1], [])]
noncomputable def cd59 : List (Nat × AI) := [(0, .iload_n 1, 1, [1], []), (1, .iconst 0, 1, [], [(0, 0)]), (2, .aload_n 0, 1, [0], []), (3, .getfield 19, 3, [5, 2, 0], []), (6, .iconst 1, 1, [], [(1, 0)]), (7, .isub, 1, [], []), (8, .invokestatic 23, 3, [161, 3, 1, 11, 3], []), (11, .ireturn, 1, [1], [])]
noncomputable def cd60 : List (Nat × AI) := [(0, .aload_n 0, 1, [0], []), (1, .getfield 9, 3, [5, 0, 2], []), (4, .iload_n 1, 1, [1], []), (5, .iaload, 1, [], []), (6, .ifCond .ne 7, 3, [13], []), (9, .iconst 1, 1, [], [(1, 0)]), (10, .goto 4, 3, [14], []), (13, .iconst 0, 1, [], [(0, 0)]), (14, .ireturn, 1, [1], [])]
noncomputable def cd61 : List (Nat × AI) := [(0, .aload_n 0, 1, [0], []), (1, .iload_n 1, 1, [1], []), (2, .invokevirtual 27, 3, [60, 2, 1, 5, 2], []), (5, .ifCond .eq 16, 3, [21], []), (8, .aload_n 0, 1, [0], []), (9, .getfield 15, 3, [5, 1, 2], []), (12, .iload_n 1, 1, [1], []), (13, .baload, 1, [], []), (14, .ifCond .ne 7, 3, [21], []), (17, .iconst 1, 1, [], [(1, 0)]), (18, .goto 4, 3, [22], []), (21, .iconst 0, 1, [], [(0, 0)]), (22, .ireturn, 1, [1], [])]
noncomputable def cd62 : List (Nat × AI) := [(0, .aload_n 0, 1, [0], []), (1, .getfield 15, 3, [5, 1, 2], []), (4, .iload_n 1, 1, [1], []), (5, .baload, 1, [], []), (6, .iload_n 2, 1, [2], []), (7, .if_icmp .ne 7, 3, [14], []), (10, .iconst 1, 1, [], [(1, 0)]), (11, .goto 4, 3, [15], []), (14, .iconst 0, 1, [], [(0, 0)]), (15, .istore_n 3, 1, [3], []), (16, .aload_n 0, 1, [0], []), (17, .getfield 15, 3, [5, 1, 2], []), (20, .iload_n 1, 1, [1], []), (21, .iload_n 2, 1, [2], []), (22, .bastore, 1, [], []), (23, .iload_n 3, 1, [3], []), (24, .ifCond .eq 7, 3, [31], []), (27, .iconst 0, 1, [], [(0, 0)]), (28, .goto 4, 3, [32], []), (31, .iconst 1, 1, [], [(1, 0)]), (32, .ireturn, 1, [0], [])]
noncomputable def cd63 : List (Nat × AI) := [(0, .iconst 0, 1, [], [(0, 0)]), (1, .istore_n 2, 1, [2], []), (2, .iconst 0, 1, [], [(0, 0)]), (3, .istore_n 3, 1, [3], []), (4, .iload_n 3, 1, [3], []), (5, .aload_n 0, 1, [0], []), (6, .getfield 19, 3, [5, 2, 0], []), (9, .if_icmp .ge 70, 3, [79], []), (12, .aload_n 0, 1, [0], []), (13, .iload_n 3, 1, [3], []), (14, .invokevirtual 27, 3, [60, 2, 1, 5, 2], []), (17, .ifCond .eq 25, 3, [42], []), (20, .aload_n 0, 1, [0], []), (21, .getfield 15, 3, [5, 1, 2], []), (24, .iload_n 3, 1, [3], []), (25, .baload, 1, [], []), (26, .ifCond .ne 12, 3, [38], []), (29, .iload_n 3, 1, [3], []), (30, .iload_n 1, 1, [1], []), (31, .if_icmp .eq 7, 3, [38], []), (34, .iconst 1, 1, [], [(1, 0)]), (35, .goto 25, 3, [60], []), (38, .iconst 0, 1, [], [(0, 0)]), (39, .goto 21, 3, [60], []), (42, .aload_n 0, 1, [0], []), (43, .getfield 9, 3, [5, 0, 2], []), (46, .iload_n 3, 1, [3], []), (47, .iaload, 1, [], []), (48, .iload_n 2, 1, [2], []), (49, .iconst (-1), 1, [], [((-1), 0)]), (50, .ixor, 1, [], []), (51, .iand, 1, [], []), (52, .ifCond .ne 7, 3, [59], []), (55, .iconst 1, 1, [], [(1, 0)]), (56, .goto 4, 3, [60], []), (59, .iconst 0, 1, [], [(0, 0)]), (60, .istore 4, 2, [4], []), (62, .iload 4, 2, [4], []), (64, .ifCond .eq 9, 3, [73], []), (67, .iload_n 2, 1, [2], []), (68, .iconst 1, 1, [], [(1, 0)]), (69, .iload_n 3, 1, [3], []), (70, .ishl, 1, [], []), (71, .ior, 1, [], []), (72, .istore_n 2, 1, [2], []), (73, .iinc 3 1, 3, [3], [(1, 0)]), (76, .goto (-72), 3, [4], []), (79, .iload_n 2, 1, [2], []), (80, .ireturn, 1, [0], [])]
noncomputable def cd64 : List (Nat × AI) := [(0, .aload_n 0, 1, [0], []), (1, .bipush (-9), 2, [], [((-9), 0)]), (3, .invokevirtual 31, 3, [63, 2, 1, 5, 5], []), (6, .invokestatic 35, 3, [266, 1, 1, 14, 1], []), (9, .aload_n 0, 1, [0], []), (10, .iload_n 1, 1, [1], []), (11, .invokevirtual 31, 3, [63, 2, 1, 5, 5], []), (14, .invokestatic 35, 3, [266, 1, 1, 14, 1], []), (17, .isub, 1, [], []), (18, .ireturn, 1, [0], [])]
noncomputable def cd65 : List (Nat × AI) := [(0, .bipush (-9), 2, [], [((-9), 0)]), (2, .istore_n 1, 1, [1], []), (3, .iconst 0, 1, [], [(0, 0)]), (4, .istore_n 2, 1, [2], []), (5, .iconst 0, 1, [], [(0, 0)]), (6, .istore_n 3, 1, [3], []), (7, .iload_n 3, 1, [3], []), (8, .aload_n 0, 1, [0], []), (9, .getfield 19, 3, [5, 2, 0], []), (12, .if_icmp .ge 39, 3, [51], []), (15, .aload_n 0, 1, [0], []), (16, .iload_n 3, 1, [3], []), (17, .invokevirtual 40, 3, [61, 2, 1, 5, 2], []), (20, .ifCond .eq 11, 3, [31], []), (23, .aload_n 0, 1, [0], []), (24, .iload_n 3, 1, [3], []), (25, .invokevirtual 43, 3, [64, 2, 1, 5, 2], []), (28, .goto 4, 3, [32], []), (31, .iconst 0, 1, [], [(0, 0)]), (32, .istore 4, 2, [4], []), (34, .iload 4, 2, [4], []), (36, .iload_n 2, 1, [2], []), (37, .if_icmp .le 8, 3, [45], []), (40, .iload_n 3, 1, [3], []), (41, .istore_n 1, 1, [1], []), (42, .iload 4, 2, [4], []), (44, .istore_n 2, 1, [2], []), (45, .iinc 3 1, 3, [3], [(1, 0)]), (48, .goto (-41), 3, [7], []), (51, .iload_n 1, 1, [1], []), (52, .ireturn, 1, [0], [])]
noncomputable def cd66 : List (Nat × AI) := [(0, .aload_n 0, 1, [0], []), (1, .invokespecial 3, 3, [], []), (4, .aload_n 0, 1, [0], []), (5, .bipush 60, 2, [], [(60, 0)]), (7, .newarray .int, 2, [0], []), (9, .putfield 11, 3, [6, 0, 2], []), (12, .return_, 1, [], [])]
noncomputable def cd67 : List (Nat × AI) := [(0, .aload_n 0, 1, [0], []), (1, .iload_n 2, 1, [2], []), (2, .aload_n 1, 1, [1], []), (3, .arraylength, 1, [], []), (4, .aload_n 0, 1, [0], []), (5, .getfield 11, 3, [6, 0, 2], []), (8, .arraylength, 1, [], []), (9, .invokestatic 17, 3, [2], []), (12, .invokestatic 17, 3, [2], []), (15, .putfield 23, 3, [6, 1, 0], []), (18, .aload_n 1, 1, [1], []), (19, .iconst 0, 1, [], [(0, 0)]), (20, .aload_n 0, 1, [0], []), (21, .getfield 11, 3, [6, 0, 2], []), (24, .iconst 0, 1, [], [(0, 0)]), (25, .aload_n 0, 1, [0], []), (26, .getfield 23, 3, [6, 1, 0], []), (29, .invokestatic 27, 3, [], []), (32, .aload_n 0, 1, [0], []), (33, .iconst 0, 1, [], [(0, 0)]), (34, .putfield 33, 3, [6, 2, 0], []), (37, .new 36, 3, [3], []), (40, .dup, 1, [], []), (41, .invokespecial 38, 3, [40, 1, 0, 3, 1], []), (44, .astore_n 3, 1, [3], []), (45, .aload_n 0, 1, [0], []), (46, .aload_n 3, 1, [3], []), (47, .invokevirtual 39, 3, [68, 2, 1, 6, 2], []), (50, .ifCond .eq 31, 3, [81], []), (53, .aload_n 0, 1, [0], []), (54, .aload_n 3, 1, [3], []), (55, .invokevirtual 43, 3, [69, 2, 1, 6, 2], []), (58, .ifCond .eq 23, 3, [81], []), (61, .aload_n 0, 1, [0], []), (62, .aload_n 3, 1, [3], []), (63, .invokevirtual 46, 3, [70, 2, 1, 6, 2], []), (66, .ifCond .eq 15, 3, [81], []), (69, .aload_n 0, 1, [0], []), (70, .aload_n 3, 1, [3], []), (71, .invokevirtual 49, 3, [71, 2, 1, 6, 4], []), (74, .ifCond .eq 7, 3, [81], []), (77, .iconst 1, 1, [], [(1, 0)]), (78, .goto 4, 3, [82], []), (81, .iconst 0, 1, [], [(0, 0)]), (82, .istore 4, 2, [4], []), (84, .iload 4, 2, [4], []), (86, .ifCond .eq 7, 3, [93], []), (89, .aload_n 3, 1, [3], []), (90, .goto 4, 3, [94], []), (93, .aconst_null, 1, [], []), (94, .areturn, 1, [], [])]
noncomputable def cd68 : List (Nat × AI) := [(0, .aload_n 1, 1, [1], []), (1, .aload_n 0, 1, [0], []), (2, .getstatic 52, 3, [1], []), (5, .invokevirtual 55, 3, [75, 2, 1, 6, 3], []), (8, .putfield 59, 3, [3, 0, 0], []), (11, .aload_n 1, 1, [1], []), (12, .getfield 59, 3, [3, 0, 0], []), (15, .bipush (-9), 2, [], [((-9), 0)]), (17, .if_icmp .ne 5, 3, [22], []), (20, .iconst 0, 1, [], [(0, 0)]), (21, .ireturn, 1, [1], []), (22, .aload_n 1, 1, [1], []), (23, .aload_n 0, 1, [0], []), (24, .getstatic 62, 3, [2], []), (27, .invokevirtual 55, 3, [75, 2, 1, 6, 3], []), (30, .putfield 65, 3, [3, 1, 0], []), (33, .aload_n 1, 1, [1], []), (34, .getfield 65, 3, [3, 1, 0], []), (37, .bipush (-9), 2, [], [((-9), 0)]), (39, .if_icmp .eq 7, 3, [46], []), (42, .iconst 1, 1, [], [(1, 0)]), (43, .goto 4, 3, [47], []), (46, .iconst 0, 1, [], [(0, 0)]), (47, .ireturn, 1, [1], [])]
noncomputable def cd69 : List (Nat × AI) := [(0, .aload_n 0, 1, [0], []), (1, .bipush 62, 2, [], [(62, 0)]), (3, .invokevirtual 68, 3, [74, 2, 1, 6, 3], []), (6, .ifCond .ne 5, 3, [11], []), (9, .iconst 1, 1, [], [(1, 0)]), (10, .ireturn, 1, [1], []), (11, .aload_n 1, 1, [1], []), (12, .aload_n 0, 1, [0], []), (13, .invokevirtual 72, 3, [73, 1, 1, 6, 3], []), (16, .putfield 76, 3, [3, 2, 0], []), (19, .aload_n 1, 1, [1], []), (20, .getfield 76, 3, [3, 2, 0], []), (23, .bipush (-9), 2, [], [((-9), 0)]), (25, .if_icmp .eq 7, 3, [32], []), (28, .iconst 1, 1, [], [(1, 0)]), (29, .goto 4, 3, [33], []), (32, .iconst 0, 1, [], [(0, 0)]), (33, .ireturn, 1, [1], [])]
noncomputable def cd70 : List (Nat × AI) := [(0, .aload_n 0, 1, [0], []), (1, .bipush 64, 2, [], [(64, 0)]), (3, .invokevirtual 68, 3, [74, 2, 1, 6, 3], []), (6, .ifCond .ne 5, 3, [11], []), (9, .iconst 0, 1, [], [(0, 0)]), (10, .ireturn, 1, [1], []), (11, .aload_n 1, 1, [1], []), (12, .aload_n 0, 1, [0], []), (13, .invokevirtual 72, 3, [73, 1, 1, 6, 3], []), (16, .putfield 79, 3, [3, 3, 0], []), (19, .aload_n 1, 1, [1], []), (20, .getfield 79, 3, [3, 3, 0], []), (23, .bipush (-9), 2, [], [((-9), 0)]), (25, .if_icmp .eq 12, 3, [37], []), (28, .aload_n 0, 1, [0], []), (29, .bipush 45, 2, [], [(45, 0)]), (31, .invokevirtual 68, 3, [74, 2, 1, 6, 3], []), (34, .ifCond .ne 5, 3, [39], []), (37, .iconst 0, 1, [], [(0, 0)]), (38, .ireturn, 1, [1], []), (39, .aload_n 1, 1, [1], []), (40, .aload_n 0, 1, [0], []), (41, .invokevirtual 72, 3, [73, 1, 1, 6, 3], []), (44, .putfield 82, 3, [3, 4, 0], []), (47, .aload_n 1, 1, [1], []), (48, .getfield 82, 3, [3, 4, 0], []), (51, .bipush (-9), 2, [], [((-9), 0)]), (53, .if_icmp .eq 7, 3, [60], []), (56, .iconst 1, 1, [], [(1, 0)]), (57, .goto 4, 3, [61], []), (60, .iconst 0, 1, [], [(0, 0)]), (61, .ireturn, 1, [1], [])]
noncomputable def cd71 : List (Nat × AI) := [(0, .aload_n 0, 1, [0], []), (1, .getfield 33, 3, [6, 2, 0], []), (4, .aload_n 0, 1, [0], []), (5, .getfield 23, 3, [6, 1, 0], []), (8, .if_icmp .ne 5, 3, [13], []), (11, .iconst 1, 1, [], [(1, 0)]), (12, .ireturn, 1, [1], []), (13, .aload_n 0, 1, [0], []), (14, .bipush 33, 2, [], [(33, 0)]), (16, .invokevirtual 68, 3, [74, 2, 1, 6, 3], []), (19, .ifCond .eq 11, 3, [30], []), (22, .aload_n 0, 1, [0], []), (23, .aload_n 1, 1, [1], []), (24, .invokevirtual 85, 3, [72, 2, 1, 6, 4], []), (27, .ifCond .ne 5, 3, [32], []), (30, .iconst 0, 1, [], [(0, 0)]), (31, .ireturn, 1, [1], []), (32, .iconst 1, 1, [], [(1, 0)]), (33, .istore_n 2, 1, [2], []), (34, .iconst 1, 1, [], [(1, 0)]), (35, .istore_n 3, 1, [3], []), (36, .iload_n 3, 1, [3], []), (37, .getstatic 88, 3, [4], []), (40, .arraylength, 1, [], []), (41, .if_icmp .ge 19, 3, [60], []), (44, .iload_n 2, 1, [2], []), (45, .ifCond .eq 15, 3, [60], []), (48, .aload_n 0, 1, [0], []), (49, .aload_n 1, 1, [1], []), (50, .invokevirtual 85, 3, [72, 2, 1, 6, 4], []), (53, .istore_n 2, 1, [2], []), (54, .iinc 3 1, 3, [3], [(1, 0)]), (57, .goto (-21), 3, [36], []), (60, .aload_n 0, 1, [0], []), (61, .getfield 33, 3, [6, 2, 0], []), (64, .aload_n 0, 1, [0], []), (65, .getfield 23, 3, [6, 1, 0], []), (68, .if_icmp .ne 7, 3, [75], []), (71, .iconst 1, 1, [], [(1, 0)]), (72, .goto 4, 3, [76], []), (75, .iconst 0, 1, [], [(0, 0)]), (76, .ireturn, 1, [1], [])]
noncomputable def cd72 : List (Nat × AI) := [(0, .aload_n 0, 1, [0], []), (1, .getfield 33, 3, [6, 2, 0], []), (4, .istore_n 2, 1, [2], []), (5, .aload_n 0, 1, [0], []), (6, .getstatic 88, 3, [4], []), (9, .invokevirtual 55, 3, [75, 2, 1, 6, 3], []), (12, .istore_n 3, 1, [3], []), (13, .iload_n 3, 1, [3], []), (14, .bipush (-9), 2, [], [((-9), 0)]), (16, .if_icmp .ne 5, 3, [21], []), (19, .iconst 0, 1, [], [(0, 0)]), (20, .ireturn, 1, [1], []), (21, .aload_n 1, 1, [1], []), (22, .getfield 91, 3, [3, 5, 0], []), (25, .iload_n 3, 1, [3], []), (26, .ishr, 1, [], []), (27, .iconst 1, 1, [], [(1, 0)]), (28, .iand, 1, [], []), (29, .ifCond .eq 10, 3, [39], []), (32, .aload_n 0, 1, [0], []), (33, .iload_n 2, 1, [2], []), (34, .putfield 33, 3, [6, 2, 0], []), (37, .iconst 0, 1, [], [(0, 0)]), (38, .ireturn, 1, [1], []), (39, .aload_n 1, 1, [1], []), (40, .dup, 1, [], []), (41, .getfield 91, 3, [3, 5, 0], []), (44, .iconst 1, 1, [], [(1, 0)]), (45, .iload_n 3, 1, [3], []), (46, .ishl, 1, [], []), (47, .ior, 1, [], []), (48, .putfield 91, 3, [3, 5, 0], []), (51, .iconst 1, 1, [], [(1, 0)]), (52, .ireturn, 1, [1], [])]
noncomputable def cd73 : List (Nat × AI) := [(0, .aload_n 0, 1, [0], []), (1, .getstatic 94, 3, [3], []), (4, .invokevirtual 55, 3, [75, 2, 1, 6, 3], []), (7, .istore_n 1, 1, [1], []), (8, .iload_n 1, 1, [1], []), (9, .bipush (-9), 2, [], [((-9), 0)]), (11, .if_icmp .ne 6, 3, [17], []), (14, .bipush (-9), 2, [], [((-9), 0)]), (16, .ireturn, 1, [0], []), (17, .aload_n 0, 1, [0], []), (18, .getstatic 94, 3, [3], []), (21, .invokevirtual 55, 3, [75, 2, 1, 6, 3], []), (24, .istore_n 2, 1, [2], []), (25, .iload_n 2, 1, [2], []), (26, .bipush (-9), 2, [], [((-9), 0)]), (28, .if_icmp .ne 7, 3, [35], []), (31, .iload_n 1, 1, [1], []), (32, .goto 9, 3, [41], []), (35, .bipush 10, 2, [], [(10, 0)]), (37, .iload_n 1, 1, [1], []), (38, .imul, 1, [], []), (39, .iload_n 2, 1, [2], []), (40, .iadd, 1, [], []), (41, .ireturn, 1, [0], [])]
noncomputable def cd74 : List (Nat × AI) := [(0, .aload_n 0, 1, [0], []), (1, .getfield 33, 3, [6, 2, 0], []), (4, .aload_n 0, 1, [0], []), (5, .getfield 23, 3, [6, 1, 0], []), (8, .if_icmp .ge 20, 3, [28], []), (11, .aload_n 0, 1, [0], []), (12, .getfield 11, 3, [6, 0, 2], []), (15, .aload_n 0, 1, [0], []), (16, .getfield 33, 3, [6, 2, 0], []), (19, .iaload, 1, [], []), (20, .iload_n 1, 1, [1], []), (21, .if_icmp .ne 7, 3, [28], []), (24, .iconst 1, 1, [], [(1, 0)]), (25, .goto 4, 3, [29], []), (28, .iconst 0, 1, [], [(0, 0)]), (29, .istore_n 2, 1, [2], []), (30, .iload_n 2, 1, [2], []), (31, .ifCond .eq 13, 3, [44], []), (34, .aload_n 0, 1, [0], []), (35, .dup, 1, [], []), (36, .getfield 33, 3, [6, 2, 0], []), (39, .iconst 1, 1, [], [(1, 0)]), (40, .iadd, 1, [], []), (41, .putfield 33, 3, [6, 2, 0], []), (44, .iload_n 2, 1, [2], []), (45, .ireturn, 1, [1], [])]
noncomputable def cd75 : List (Nat × AI) := [(0, .iconst 0, 1, [], [(0, 0)]), (1, .istore_n 2, 1, [2], []), (2, .iload_n 2, 1, [2], []), (3, .aload_n 1, 1, [1], []), (4, .arraylength, 1, [], []), (5, .if_icmp .ge 21, 3, [26], []), (8, .aload_n 0, 1, [0], []), (9, .aload_n 1, 1, [1], []), (10, .iload_n 2, 1, [2], []), (11, .iaload, 1, [], []), (12, .invokevirtual 68, 3, [74, 2, 1, 6, 3], []), (15, .ifCond .eq 5, 3, [20], []), (18, .iload_n 2, 1, [2], []), (19, .ireturn, 1, [0], []), (20, .iinc 2 1, 3, [2], [(1, 0)]), (23, .goto (-21), 3, [2], []), (26, .bipush (-9), 2, [], [((-9), 0)]), (28, .ireturn, 1, [0], [])]
noncomputable def cd76 : List (Nat × AI) := [(0, .aload_n 0, 1, [0], []), (1, .invokespecial 3, 3, [], []), (4, .aload_n 0, 1, [0], []), (5, .iconst 4, 1, [], [(4, 0)]), (6, .bipush 60, 2, [], [(60, 0)]), (8, .multianewarray 11 2, 4, [], []), (12, .putfield 13, 3, [7, 0, 2], []), (15, .aload_n 0, 1, [0], []), (16, .iconst 4, 1, [], [(4, 0)]), (17, .newarray .int, 2, [0], []), (19, .dup, 1, [], []), (20, .iconst 0, 1, [], [(0, 0)]), (21, .iconst (-1), 1, [], [((-1), 0)]), (22, .iastore, 1, [], []), (23, .dup, 1, [], []), (24, .iconst 1, 1, [], [(1, 0)]), (25, .iconst (-1), 1, [], [((-1), 0)]), (26, .iastore, 1, [], []), (27, .dup, 1, [], []), (28, .iconst 2, 1, [], [(2, 0)]), (29, .iconst (-1), 1, [], [((-1), 0)]), (30, .iastore, 1, [], []), (31, .dup, 1, [], []), (32, .iconst 3, 1, [], [(3, 0)]), (33, .iconst (-1), 1, [], [((-1), 0)]), (34, .iastore, 1, [], []), (35, .putfield 16, 3, [7, 1, 2], []), (38, .aload_n 0, 1, [0], []), (39, .iconst 4, 1, [], [(4, 0)]), (40, .newarray .int, 2, [0], []), (42, .putfield 20, 3, [7, 2, 2], []), (45, .aload_n 0, 1, [0], []), (46, .bipush 60, 2, [], [(60, 0)]), (48, .newarray .int, 2, [0], []), (50, .putfield 23, 3, [7, 3, 2], []), (53, .return_, 1, [], [])]
noncomputable def cd77 : List (Nat × AI) := [(0, .iload_n 0, 1, [0], []), (1, .iconst 0, 1, [], [(0, 0)]), (2, .iconst 3, 1, [], [(3, 0)]), (3, .invokestatic 26, 3, [161, 3, 1, 11, 3], []), (6, .ireturn, 1, [1], [])]
noncomputable def cd78 : List (Nat × AI) := [(0, .iload_n 0, 1, [0], []), (1, .iconst 0, 1, [], [(0, 0)]), (2, .iconst 2, 1, [], [(2, 0)]), (3, .invokestatic 26, 3, [161, 3, 1, 11, 3], []), (6, .ireturn, 1, [1], [])]
noncomputable def cd79 : List (Nat × AI) := [(0, .aload_n 0, 1, [0], []), (1, .iload_n 1, 1, [1], []), (2, .putfield 30, 3, [7, 4, 0], []), (5, .bipush (-10), 2, [], [((-10), 0)]), (7, .iload_n 1, 1, [1], []), (8, .isub, 1, [], []), (9, .ireturn, 1, [0], [])]
noncomputable def cd80 : List (Nat × AI) := [(0, .aload_n 0, 1, [0], []), (1, .iconst 0, 1, [], [(0, 0)]), (2, .putfield 30, 3, [7, 4, 0], []), (5, .iload_n 1, 1, [1], []), (6, .invokestatic 34, 3, [77, 1, 1, 7, 1], []), (9, .ifCond .ne 5, 3, [14], []), (12, .iconst (-1), 1, [], [((-1), 0)]), (13, .ireturn, 1, [0], []), (14, .iload_n 2, 1, [2], []), (15, .invokestatic 38, 3, [78, 1, 1, 7, 1], []), (18, .ifCond .eq 9, 3, [27], []), (21, .iload_n 3, 1, [3], []), (22, .bipush 60, 2, [], [(60, 0)]), (24, .if_icmp .le 6, 3, [30], []), (27, .bipush (-2), 2, [], [((-2), 0)]), (29, .ireturn, 1, [0], []), (30, .iload_n 3, 1, [3], []), (31, .ifCond .ge 9, 3, [40], []), (34, .aload_n 0, 1, [0], []), (35, .iconst 4, 1, [], [(4, 0)]), (36, .invokevirtual 41, 3, [79, 2, 1, 7, 2], []), (39, .ireturn, 1, [0], []), (40, .aload_n 0, 1, [0], []), (41, .getfield 16, 3, [7, 1, 2], []), (44, .iload_n 1, 1, [1], []), (45, .iload_n 2, 1, [2], []), (46, .iastore, 1, [], []), (47, .aload_n 0, 1, [0], []), (48, .getfield 20, 3, [7, 2, 2], []), (51, .iload_n 1, 1, [1], []), (52, .iload_n 3, 1, [3], []), (53, .iastore, 1, [], []), (54, .aload_n 0, 1, [0], []), (55, .getfield 13, 3, [7, 0, 2], []), (58, .iload_n 1, 1, [1], []), (59, .aaload, 1, [], []), (60, .iconst 0, 1, [], [(0, 0)]), (61, .invokestatic 45, 3, [270, 2, 0, 16, 4], []), (64, .iconst 1, 1, [], [(1, 0)]), (65, .ireturn, 1, [0], [])]
noncomputable def cd81 : List (Nat × AI) := [(0, .aload_n 0, 1, [0], []), (1, .getfield 16, 3, [7, 1, 2], []), (4, .iload_n 1, 1, [1], []), (5, .iaload, 1, [], []), (6, .iconst (-1), 1, [], [((-1), 0)]), (7, .if_icmp .eq 7, 3, [14], []), (10, .iconst 1, 1, [], [(1, 0)]), (11, .goto 4, 3, [15], []), (14, .iconst 0, 1, [], [(0, 0)]), (15, .istore_n 2, 1, [2], []), (16, .aload_n 0, 1, [0], []), (17, .getfield 16, 3, [7, 1, 2], []), (20, .iload_n 1, 1, [1], []), (21, .iconst (-1), 1, [], [((-1), 0)]), (22, .iastore, 1, [], []), (23, .iload_n 2, 1, [2], []), (24, .ifCond .eq 7, 3, [31], []), (27, .iconst 1, 1, [], [(1, 0)]), (28, .goto 4, 3, [32], []), (31, .iconst 0, 1, [], [(0, 0)]), (32, .ireturn, 1, [0], [])]
noncomputable def cd82 : List (Nat × AI) := [(0, .aload_n 0, 1, [0], []), (1, .iconst 0, 1, [], [(0, 0)]), (2, .putfield 30, 3, [7, 4, 0], []), (5, .iload_n 1, 1, [1], []), (6, .invokestatic 34, 3, [77, 1, 1, 7, 1], []), (9, .ifCond .ne 5, 3, [14], []), (12, .iconst (-1), 1, [], [((-1), 0)]), (13, .ireturn, 1, [0], []), (14, .aload_n 0, 1, [0], []), (15, .getfield 16, 3, [7, 1, 2], []), (18, .iload_n 1, 1, [1], []), (19, .iaload, 1, [], []), (20, .iconst (-1), 1, [], [((-1), 0)]), (21, .if_icmp .ne 9, 3, [30], []), (24, .aload_n 0, 1, [0], []), (25, .iconst 1, 1, [], [(1, 0)]), (26, .invokevirtual 41, 3, [79, 2, 1, 7, 2], []), (29, .ireturn, 1, [0], []), (30, .iload_n 2, 1, [2], []), (31, .iconst 0, 1, [], [(0, 0)]), (32, .aload_n 0, 1, [0], []), (33, .getfield 20, 3, [7, 2, 2], []), (36, .iload_n 1, 1, [1], []), (37, .iaload, 1, [], []), (38, .iconst 1, 1, [], [(1, 0)]), (39, .isub, 1, [], []), (40, .invokestatic 26, 3, [161, 3, 1, 11, 3], []), (43, .ifCond .ne 9, 3, [52], []), (46, .aload_n 0, 1, [0], []), (47, .iconst 3, 1, [], [(3, 0)]), (48, .invokevirtual 41, 3, [79, 2, 1, 7, 2], []), (51, .ireturn, 1, [0], []), (52, .aload_n 0, 1, [0], []), (53, .getfield 13, 3, [7, 0, 2], []), (56, .iload_n 1, 1, [1], []), (57, .aaload, 1, [], []), (58, .iload_n 2, 1, [2], []), (59, .aload_n 0, 1, [0], []), (60, .getfield 16, 3, [7, 1, 2], []), (63, .iload_n 1, 1, [1], []), (64, .iaload, 1, [], []), (65, .iload_n 3, 1, [3], []), (66, .invokestatic 51, 3, [83, 2, 1, 7, 2], []), (69, .iastore, 1, [], []), (70, .iconst 1, 1, [], [(1, 0)]), (71, .ireturn, 1, [0], [])]
noncomputable def cd83 : List (Nat × AI) := [(0, .iload_n 0, 1, [0], []), (1, .lookupswitch 37 #[(0, 27), (1, 32)], 27, [38], [(0, 28), (1, 33)]), (28, .iload_n 1, 1, [1], []), (29, .i2b, 1, [], []), (30, .goto 9, 3, [39], []), (33, .iload_n 1, 1, [1], []), (34, .i2s, 1, [], []), (35, .goto 4, 3, [39], []), (38, .iload_n 1, 1, [1], []), (39, .ireturn, 1, [0], [])]
noncomputable def cd84 : List (Nat × AI) := [(0, .aload_n 0, 1, [0], []), (1, .iconst 0, 1, [], [(0, 0)]), (2, .putfield 30, 3, [7, 4, 0], []), (5, .iload_n 1, 1, [1], []), (6, .invokestatic 34, 3, [77, 1, 1, 7, 1], []), (9, .ifCond .ne 5, 3, [14], []), (12, .iconst (-1), 1, [], [((-1), 0)]), (13, .ireturn, 1, [0], []), (14, .iload_n 2, 1, [2], []), (15, .invokestatic 38, 3, [78, 1, 1, 7, 1], []), (18, .ifCond .eq 7, 3, [25], []), (21, .iload_n 3, 1, [3], []), (22, .ifCond .ne 6, 3, [28], []), (25, .bipush (-2), 2, [], [((-2), 0)]), (27, .ireturn, 1, [0], []), (28, .aload_n 0, 1, [0], []), (29, .iload_n 1, 1, [1], []), (30, .iload_n 2, 1, [2], []), (31, .iload 4, 2, [4], []), (33, .iload 5, 2, [5], []), (35, .invokevirtual 55, 3, [85, 5, 1, 7, 5], []), (38, .istore 6, 2, [6], []), (40, .iload 6, 2, [6], []), (42, .ifCond .eq 10, 3, [52], []), (45, .aload_n 0, 1, [0], []), (46, .iload 6, 2, [6], []), (48, .invokevirtual 41, 3, [79, 2, 1, 7, 2], []), (51, .ireturn, 1, [0], []), (52, .aload_n 0, 1, [0], []), (53, .getfield 13, 3, [7, 0, 2], []), (56, .iload_n 1, 1, [1], []), (57, .aaload, 1, [], []), (58, .iload 4, 2, [4], []), (60, .aload_n 0, 1, [0], []), (61, .getfield 23, 3, [7, 3, 2], []), (64, .iconst 0, 1, [], [(0, 0)]), (65, .iload 5, 2, [5], []), (67, .invokestatic 59, 3, [], []), (70, .iconst 0, 1, [], [(0, 0)]), (71, .ireturn, 1, [0], [])]
noncomputable def cd85 : List (Nat × AI) := [(0, .aload_n 0, 1, [0], []), (1, .getfield 16, 3, [7, 1, 2], []), (4, .iload_n 1, 1, [1], []), (5, .iaload, 1, [], []), (6, .iconst (-1), 1, [], [((-1), 0)]), (7, .if_icmp .ne 5, 3, [12], []), (10, .iconst 1, 1, [], [(1, 0)]), (11, .ireturn, 1, [0], []), (12, .aload_n 0, 1, [0], []), (13, .getfield 16, 3, [7, 1, 2], []), (16, .iload_n 1, 1, [1], []), (17, .iaload, 1, [], []), (18, .iload_n 2, 1, [2], []), (19, .if_icmp .eq 5, 3, [24], []), (22, .iconst 2, 1, [], [(2, 0)]), (23, .ireturn, 1, [0], []), (24, .iload 4, 2, [4], []), (26, .ifCond .ge 5, 3, [31], []), (29, .iconst 4, 1, [], [(4, 0)]), (30, .ireturn, 1, [0], []), (31, .iload_n 3, 1, [3], []), (32, .iconst 0, 1, [], [(0, 0)]), (33, .aload_n 0, 1, [0], []), (34, .getfield 20, 3, [7, 2, 2], []), (37, .iload_n 1, 1, [1], []), (38, .iaload, 1, [], []), (39, .invokestatic 26, 3, [161, 3, 1, 11, 3], []), (42, .ifCond .eq 20, 3, [62], []), (45, .iload_n 3, 1, [3], []), (46, .aload_n 0, 1, [0], []), (47, .getfield 20, 3, [7, 2, 2], []), (50, .iload_n 1, 1, [1], []), (51, .iaload, 1, [], []), (52, .iload 4, 2, [4], []), (54, .isub, 1, [], []), (55, .if_icmp .gt 7, 3, [62], []), (58, .iconst 0, 1, [], [(0, 0)]), (59, .goto 4, 3, [63], []), (62, .iconst 3, 1, [], [(3, 0)]), (63, .ireturn, 1, [0], [])]
noncomputable def cd86 : List (Nat × AI) := [(0, .aload_n 0, 1, [0], []), (1, .invokespecial 3, 3, [], []), (4, .aload_n 0, 1, [0], []), (5, .bipush 6, 2, [], [(6, 0)]), (7, .newarray .int, 2, [0], []), (9, .putfield 9, 3, [8, 0, 2], []), (12, .aload_n 0, 1, [0], []), (13, .bipush 40, 2, [], [(40, 0)]), (15, .newarray .int, 2, [0], []), (17, .putfield 15, 3, [8, 1, 2], []), (20, .aload_n 0, 1, [0], []), (21, .bipush 40, 2, [], [(40, 0)]), (23, .newarray .int, 2, [0], []), (25, .putfield 18, 3, [8, 2, 2], []), (28, .aload_n 0, 1, [0], []), (29, .bipush 40, 2, [], [(40, 0)]), (31, .newarray .int, 2, [0], []), (33, .putfield 21, 3, [8, 3, 2], []), (36, .return_, 1, [], [])]
noncomputable def cd87 : List (Nat × AI) := [(0, .aload_n 0, 1, [0], []), (1, .getfield 24, 3, [8, 4, 0], []), (4, .aload_n 0, 1, [0], []), (5, .getfield 9, 3, [8, 0, 2], []), (8, .arraylength, 1, [], []), (9, .if_icmp .ne 6, 3, [15], []), (12, .bipush (-4), 2, [], [((-4), 0)]), (14, .ireturn, 1, [0], []), (15, .aload_n 0, 1, [0], []), (16, .getfield 9, 3, [8, 0, 2], []), (19, .aload_n 0, 1, [0], []), (20, .getfield 24, 3, [8, 4, 0], []), (23, .iload_n 1, 1, [1], []), (24, .iastore, 1, [], []), (25, .aload_n 0, 1, [0], []), (26, .dup, 1, [], []), (27, .getfield 24, 3, [8, 4, 0], []), (30, .iconst 1, 1, [], [(1, 0)]), (31, .iadd, 1, [], []), (32, .putfield 24, 3, [8, 4, 0], []), (35, .aload_n 0, 1, [0], []), (36, .getfield 24, 3, [8, 4, 0], []), (39, .iconst 1, 1, [], [(1, 0)]), (40, .isub, 1, [], []), (41, .ireturn, 1, [0], [])]
noncomputable def cd88 : List (Nat × AI) := [(0, .iload_n 1, 1, [1], []), (1, .iconst 0, 1, [], [(0, 0)]), (2, .aload_n 0, 1, [0], []), (3, .getfield 24, 3, [8, 4, 0], []), (6, .iconst 1, 1, [], [(1, 0)]), (7, .isub, 1, [], []), (8, .invokestatic 28, 3, [161, 3, 1, 11, 3], []), (11, .ireturn, 1, [1], [])]
noncomputable def cd89 : List (Nat × AI) := [(0, .aload_n 0, 1, [0], []), (1, .getfield 32, 3, [8, 5, 0], []), (4, .bipush 40, 2, [], [(40, 0)]), (6, .if_icmp .ne 6, 3, [12], []), (9, .bipush (-4), 2, [], [((-4), 0)]), (11, .ireturn, 1, [0], []), (12, .aload_n 0, 1, [0], []), (13, .getfield 15, 3, [8, 1, 2], []), (16, .aload_n 0, 1, [0], []), (17, .getfield 32, 3, [8, 5, 0], []), (20, .iload_n 1, 1, [1], []), (21, .iastore, 1, [], []), (22, .aload_n 0, 1, [0], []), (23, .getfield 18, 3, [8, 2, 2], []), (26, .aload_n 0, 1, [0], []), (27, .getfield 32, 3, [8, 5, 0], []), (30, .iload_n 2, 1, [2], []), (31, .iastore, 1, [], []), (32, .aload_n 0, 1, [0], []), (33, .getfield 21, 3, [8, 3, 2], []), (36, .aload_n 0, 1, [0], []), (37, .getfield 32, 3, [8, 5, 0], []), (40, .iload_n 3, 1, [3], []), (41, .iastore, 1, [], []), (42, .aload_n 0, 1, [0], []), (43, .dup, 1, [], []), (44, .getfield 32, 3, [8, 5, 0], []), (47, .iconst 1, 1, [], [(1, 0)]), (48, .iadd, 1, [], []), (49, .putfield 32, 3, [8, 5, 0], []), (52, .aload_n 0, 1, [0], []), (53, .getfield 32, 3, [8, 5, 0], []), (56, .iconst 1, 1, [], [(1, 0)]), (57, .isub, 1, [], []), (58, .ireturn, 1, [0], [])]
noncomputable def cd90 : List (Nat × AI) := [(0, .iconst 0, 1, [], [(0, 0)]), (1, .istore_n 1, 1, [1], []), (2, .iconst 0, 1, [], [(0, 0)]), (3, .istore_n 2, 1, [2], []), (4, .iload_n 2, 1, [2], []), (5, .aload_n 0, 1, [0], []), (6, .getfield 32, 3, [8, 5, 0], []), (9, .if_icmp .ge 20, 3, [29], []), (12, .aload_n 0, 1, [0], []), (13, .iload_n 2, 1, [2], []), (14, .invokevirtual 35, 3, [91, 2, 1, 8, 3], []), (17, .ifCond .eq 6, 3, [23], []), (20, .iinc 1 1, 3, [1], [(1, 0)]), (23, .iinc 2 1, 3, [2], [(1, 0)]), (26, .goto (-22), 3, [4], []), (29, .iload_n 1, 1, [1], []), (30, .ireturn, 1, [0], [])]
noncomputable def cd91 : List (Nat × AI) := [(0, .iconst 0, 1, [], [(0, 0)]), (1, .istore_n 2, 1, [2], []), (2, .iload_n 2, 1, [2], []), (3, .iload_n 1, 1, [1], []), (4, .if_icmp .ge 26, 3, [30], []), (7, .aload_n 0, 1, [0], []), (8, .getfield 18, 3, [8, 2, 2], []), (11, .iload_n 2, 1, [2], []), (12, .iaload, 1, [], []), (13, .aload_n 0, 1, [0], []), (14, .getfield 18, 3, [8, 2, 2], []), (17, .iload_n 1, 1, [1], []), (18, .iaload, 1, [], []), (19, .if_icmp .ne 5, 3, [24], []), (22, .iconst 1, 1, [], [(1, 0)]), (23, .ireturn, 1, [1], []), (24, .iinc 2 1, 3, [2], [(1, 0)]), (27, .goto (-25), 3, [2], []), (30, .iconst 0, 1, [], [(0, 0)]), (31, .ireturn, 1, [1], [])]
noncomputable def cd92 : List (Nat × AI) := [(0, .iconst 0, 1, [], [(0, 0)]), (1, .istore_n 3, 1, [3], []), (2, .iconst 0, 1, [], [(0, 0)]), (3, .istore 4, 2, [4], []), (5, .iload 4, 2, [4], []), (7, .bipush 100, 2, [], [(100, 0)]), (9, .if_icmp .ge 38, 3, [47], []), (12, .aload_n 0, 1, [0], []), (13, .iload_n 1, 1, [1], []), (14, .iload 4, 2, [4], []), (16, .invokevirtual 39, 3, [93, 3, 1, 8, 5], []), (19, .iconst 4, 1, [], [(4, 0)]), (20, .aload_n 0, 1, [0], []), (21, .getfield 9, 3, [8, 0, 2], []), (24, .iload_n 1, 1, [1], []), (25, .iaload, 1, [], []), (26, .imul, 1, [], []), (27, .if_icmp .le 14, 3, [41], []), (30, .iload_n 3, 1, [3], []), (31, .iload_n 2, 1, [2], []), (32, .if_icmp .ne 6, 3, [38], []), (35, .iload 4, 2, [4], []), (37, .ireturn, 1, [0], []), (38, .iinc 3 1, 3, [3], [(1, 0)]), (41, .iinc 4 1, 3, [4], [(1, 0)]), (44, .goto (-39), 3, [5], []), (47, .iload_n 2, 1, [2], []), (48, .iconst (-1), 1, [], [((-1), 0)]), (49, .if_icmp .ne 7, 3, [56], []), (52, .iload_n 3, 1, [3], []), (53, .goto 4, 3, [57], []), (56, .iconst (-1), 1, [], [((-1), 0)]), (57, .ireturn, 1, [0], [])]
noncomputable def cd93 : List (Nat × AI) := [(0, .iconst 0, 1, [], [(0, 0)]), (1, .istore_n 3, 1, [3], []), (2, .iconst 0, 1, [], [(0, 0)]), (3, .istore 4, 2, [4], []), (5, .iload 4, 2, [4], []), (7, .aload_n 0, 1, [0], []), (8, .getfield 32, 3, [8, 5, 0], []), (11, .if_icmp .ge 34, 3, [45], []), (14, .aload_n 0, 1, [0], []), (15, .getfield 15, 3, [8, 1, 2], []), (18, .iload 4, 2, [4], []), (20, .iaload, 1, [], []), (21, .iload_n 1, 1, [1], []), (22, .if_icmp .ne 17, 3, [39], []), (25, .aload_n 0, 1, [0], []), (26, .getfield 21, 3, [8, 3, 2], []), (29, .iload 4, 2, [4], []), (31, .iaload, 1, [], []), (32, .iload_n 2, 1, [2], []), (33, .if_icmp .ne 6, 3, [39], []), (36, .iinc 3 1, 3, [3], [(1, 0)]), (39, .iinc 4 1, 3, [4], [(1, 0)]), (42, .goto (-37), 3, [5], []), (45, .iload_n 3, 1, [3], []), (46, .ireturn, 1, [0], [])]
noncomputable def cd94 : List (Nat × AI) := [(0, .aload_n 0, 1, [0], []), (1, .invokespecial 3, 3, [], []), (4, .aload_n 0, 1, [0], []), (5, .bipush 6, 2, [], [(6, 0)]), (7, .newarray .int, 2, [0], []), (9, .putfield 11, 3, [9, 0, 2], []), (12, .aload_n 0, 1, [0], []), (13, .bipush 6, 2, [], [(6, 0)]), (15, .newarray .int, 2, [0], []), (17, .putfield 15, 3, [9, 1, 2], []), (20, .aload_n 0, 1, [0], []), (21, .bipush 6, 2, [], [(6, 0)]), (23, .newarray .int, 2, [0], []), (25, .putfield 18, 3, [9, 2, 2], []), (28, .aload_n 0, 1, [0], []), (29, .bipush 6, 2, [], [(6, 0)]), (31, .newarray .int, 2, [0], []), (33, .putfield 21, 3, [9, 3, 2], []), (36, .aload_n 0, 1, [0], []), (37, .bipush 6, 2, [], [(6, 0)]), (39, .newarray .int, 2, [0], []), (41, .putfield 24, 3, [9, 4, 2], []), (44, .return_, 1, [], [])]
noncomputable def cd95 : List (Nat × AI) := [(0, .aload_n 0, 1, [0], []), (1, .getfield 27, 3, [9, 5, 0], []), (4, .bipush 6, 2, [], [(6, 0)]), (6, .if_icmp .ne 6, 3, [12], []), (9, .bipush (-4), 2, [], [((-4), 0)]), (11, .ireturn, 1, [0], []), (12, .aload_n 0, 1, [0], []), (13, .getfield 11, 3, [9, 0, 2], []), (16, .aload_n 0, 1, [0], []), (17, .getfield 27, 3, [9, 5, 0], []), (20, .iload_n 1, 1, [1], []), (21, .iastore, 1, [], []), (22, .aload_n 0, 1, [0], []), (23, .getfield 15, 3, [9, 1, 2], []), (26, .aload_n 0, 1, [0], []), (27, .getfield 27, 3, [9, 5, 0], []), (30, .iload_n 2, 1, [2], []), (31, .iastore, 1, [], []), (32, .aload_n 0, 1, [0], []), (33, .getfield 18, 3, [9, 2, 2], []), (36, .aload_n 0, 1, [0], []), (37, .getfield 27, 3, [9, 5, 0], []), (40, .bipush 10, 2, [], [(10, 0)]), (42, .iastore, 1, [], []), (43, .aload_n 0, 1, [0], []), (44, .dup, 1, [], []), (45, .getfield 27, 3, [9, 5, 0], []), (48, .iconst 1, 1, [], [(1, 0)]), (49, .iadd, 1, [], []), (50, .putfield 27, 3, [9, 5, 0], []), (53, .aload_n 0, 1, [0], []), (54, .getfield 27, 3, [9, 5, 0], []), (57, .iconst 1, 1, [], [(1, 0)]), (58, .isub, 1, [], []), (59, .ireturn, 1, [0], [])]
noncomputable def cd96 : List (Nat × AI) := [(0, .iload_n 1, 1, [1], []), (1, .iconst 0, 1, [], [(0, 0)]), (2, .aload_n 0, 1, [0], []), (3, .getfield 27, 3, [9, 5, 0], []), (6, .iconst 1, 1, [], [(1, 0)]), (7, .isub, 1, [], []), (8, .invokestatic 31, 3, [161, 3, 1, 11, 3], []), (11, .ireturn, 1, [1], [])]
noncomputable def cd97 : List (Nat × AI) := [(0, .aload_n 0, 1, [0], []), (1, .getfield 15, 3, [9, 1, 2], []), (4, .iload_n 1, 1, [1], []), (5, .iaload, 1, [], []), (6, .iload_n 2, 1, [2], []), (7, .iadd, 1, [], []), (8, .istore_n 3, 1, [3], []), (9, .iload_n 3, 1, [3], []), (10, .sipush 9999, 3, [], [(9999, 0)]), (13, .if_icmp .le 6, 3, [19], []), (16, .bipush (-4), 2, [], [((-4), 0)]), (18, .ireturn, 1, [0], []), (19, .iconst 0, 1, [], [(0, 0)]), (20, .aload_n 0, 1, [0], []), (21, .getfield 11, 3, [9, 0, 2], []), (24, .iload_n 1, 1, [1], []), (25, .iaload, 1, [], []), (26, .aload_n 0, 1, [0], []), (27, .getfield 18, 3, [9, 2, 2], []), (30, .iload_n 1, 1, [1], []), (31, .iaload, 1, [], []), (32, .iconst 4, 1, [], [(4, 0)]), (33, .idiv, 1, [], []), (34, .isub, 1, [], []), (35, .invokestatic 35, 3, [1], []), (38, .istore 4, 2, [4], []), (40, .iload 4, 2, [4], []), (42, .iload_n 3, 1, [3], []), (43, .invokestatic 41, 3, [2], []), (46, .istore 5, 2, [5], []), (48, .aload_n 0, 1, [0], []), (49, .getfield 15, 3, [9, 1, 2], []), (52, .iload_n 1, 1, [1], []), (53, .iload_n 3, 1, [3], []), (54, .iload 5, 2, [5], []), (56, .isub, 1, [], []), (57, .iastore, 1, [], []), (58, .aload_n 0, 1, [0], []), (59, .getfield 18, 3, [9, 2, 2], []), (62, .iload_n 1, 1, [1], []), (63, .aload_n 0, 1, [0], []), (64, .getfield 18, 3, [9, 2, 2], []), (67, .iload_n 1, 1, [1], []), (68, .iaload, 1, [], []), (69, .iload 4, 2, [4], []), (71, .iload_n 3, 1, [3], []), (72, .invokestatic 44, 3, [98, 3, 1, 9, 3], []), (75, .iastore, 1, [], []), (76, .aload_n 0, 1, [0], []), (77, .getfield 21, 3, [9, 3, 2], []), (80, .iload_n 1, 1, [1], []), (81, .dup2, 1, [], []), (82, .iaload, 1, [], []), (83, .iconst 1, 1, [], [(1, 0)]), (84, .iadd, 1, [], []), (85, .iastore, 1, [], []), (86, .aload_n 0, 1, [0], []), (87, .getfield 24, 3, [9, 4, 2], []), (90, .iload_n 1, 1, [1], []), (91, .dup2, 1, [], []), (92, .iaload, 1, [], []), (93, .iload 5, 2, [5], []), (95, .iadd, 1, [], []), (96, .iastore, 1, [], []), (97, .iload 5, 2, [5], []), (99, .ireturn, 1, [0], [])]
noncomputable def cd98 : List (Nat × AI) := [(0, .iload_n 1, 1, [1], []), (1, .iload_n 2, 1, [2], []), (2, .if_icmp .le 12, 3, [14], []), (5, .bipush 99, 2, [], [(99, 0)]), (7, .iload_n 0, 1, [0], []), (8, .iconst 1, 1, [], [(1, 0)]), (9, .iadd, 1, [], []), (10, .invokestatic 41, 3, [2], []), (13, .ireturn, 1, [0], []), (14, .iload_n 2, 1, [2], []), (15, .iconst 2, 1, [], [(2, 0)]), (16, .iload_n 1, 1, [1], []), (17, .imul, 1, [], []), (18, .if_icmp .lt 13, 3, [31], []), (21, .iconst 1, 1, [], [(1, 0)]), (22, .iload_n 0, 1, [0], []), (23, .iconst 1, 1, [], [(1, 0)]), (24, .isub, 1, [], []), (25, .invokestatic 35, 3, [1], []), (28, .goto 4, 3, [32], []), (31, .iload_n 0, 1, [0], []), (32, .ireturn, 1, [0], [])]
noncomputable def cd99 : List (Nat × AI) := [(0, .aload_n 0, 1, [0], []), (1, .invokespecial 3, 3, [], []), (4, .aload_n 0, 1, [0], []), (5, .bipush 24, 2, [], [(24, 0)]), (7, .newarray .int, 2, [0], []), (9, .putfield 11, 3, [10, 0, 2], []), (12, .aload_n 0, 1, [0], []), (13, .bipush 24, 2, [], [(24, 0)]), (15, .newarray .int, 2, [0], []), (17, .putfield 15, 3, [10, 1, 2], []), (20, .aload_n 0, 1, [0], []), (21, .bipush 24, 2, [], [(24, 0)]), (23, .newarray .int, 2, [0], []), (25, .putfield 18, 3, [10, 2, 2], []), (28, .aload_n 0, 1, [0], []), (29, .bipush 24, 2, [], [(24, 0)]), (31, .newarray .int, 2, [0], []), (33, .putfield 21, 3, [10, 3, 2], []), (36, .aload_n 0, 1, [0], []), (37, .bipush 24, 2, [], [(24, 0)]), (39, .newarray .int, 2, [0], []), (41, .putfield 24, 3, [10, 4, 2], []), (44, .aload_n 0, 1, [0], []), (45, .bipush 24, 2, [], [(24, 0)]), (47, .newarray .int, 2, [0], []), (49, .putfield 27, 3, [10, 5, 2], []), (52, .aload_n 0, 1, [0], []), (53, .bipush 24, 2, [], [(24, 0)]), (55, .newarray .boolean, 2, [1], []), (57, .putfield 30, 3, [10, 6, 2], []), (60, .aload_n 0, 1, [0], []), (61, .bipush 12, 2, [], [(12, 0)]), (63, .newarray .int, 2, [0], []), (65, .putfield 34, 3, [10, 7, 2], []), (68, .aload_n 0, 1, [0], []), (69, .bipush 11, 2, [], [(11, 0)]), (71, .newarray .int, 2, [0], []), (73, .putfield 37, 3, [10, 8, 2], []), (76, .return_, 1, [], [])]
noncomputable def cd100 : List (Nat × AI) := [(0, .aload_n 0, 1, [0], []), (1, .getfield 40, 3, [10, 9, 0], []), (4, .bipush 24, 2, [], [(24, 0)]), (6, .if_icmp .ne 6, 3, [12], []), (9, .bipush (-4), 2, [], [((-4), 0)]), (11, .ireturn, 1, [0], []), (12, .aload_n 0, 1, [0], []), (13, .getfield 11, 3, [10, 0, 2], []), (16, .aload_n 0, 1, [0], []), (17, .getfield 40, 3, [10, 9, 0], []), (20, .iload_n 1, 1, [1], []), (21, .iastore, 1, [], []), (22, .aload_n 0, 1, [0], []), (23, .getfield 15, 3, [10, 1, 2], []), (26, .aload_n 0, 1, [0], []), (27, .getfield 40, 3, [10, 9, 0], []), (30, .iload_n 2, 1, [2], []), (31, .iastore, 1, [], []), (32, .aload_n 0, 1, [0], []), (33, .getfield 18, 3, [10, 2, 2], []), (36, .aload_n 0, 1, [0], []), (37, .getfield 40, 3, [10, 9, 0], []), (40, .iload_n 3, 1, [3], []), (41, .iastore, 1, [], []), (42, .aload_n 0, 1, [0], []), (43, .getfield 21, 3, [10, 3, 2], []), (46, .aload_n 0, 1, [0], []), (47, .getfield 40, 3, [10, 9, 0], []), (50, .iload 4, 2, [4], []), (52, .iastore, 1, [], []), (53, .aload_n 0, 1, [0], []), (54, .getfield 24, 3, [10, 4, 2], []), (57, .aload_n 0, 1, [0], []), (58, .getfield 40, 3, [10, 9, 0], []), (61, .iload 5, 2, [5], []), (63, .iastore, 1, [], []), (64, .aload_n 0, 1, [0], []), (65, .getfield 27, 3, [10, 5, 2], []), (68, .aload_n 0, 1, [0], []), (69, .getfield 40, 3, [10, 9, 0], []), (72, .iload 6, 2, [6], []), (74, .iastore, 1, [], []), (75, .aload_n 0, 1, [0], []), (76, .dup, 1, [], []), (77, .getfield 40, 3, [10, 9, 0], []), (80, .iconst 1, 1, [], [(1, 0)]), (81, .iadd, 1, [], []), (82, .putfield 40, 3, [10, 9, 0], []), (85, .aload_n 0, 1, [0], []), (86, .getfield 40, 3, [10, 9, 0], []), (89, .iconst 1, 1, [], [(1, 0)]), (90, .isub, 1, [], []), (91, .ireturn, 1, [0], [])]
noncomputable def cd101 : List (Nat × AI) := [(0, .aload_n 1, 1, [1], []), (1, .aload_n 0, 1, [0], []), (2, .getfield 18, 3, [10, 2, 2], []), (5, .iload_n 2, 1, [2], []), (6, .iaload, 1, [], []), (7, .aload_n 0, 1, [0], []), (8, .getfield 21, 3, [10, 3, 2], []), (11, .iload_n 2, 1, [2], []), (12, .iaload, 1, [], []), (13, .aload_n 0, 1, [0], []), (14, .getfield 24, 3, [10, 4, 2], []), (17, .iload_n 2, 1, [2], []), (18, .iaload, 1, [], []), (19, .aload_n 0, 1, [0], []), (20, .getfield 27, 3, [10, 5, 2], []), (23, .iload_n 2, 1, [2], []), (24, .iaload, 1, [], []), (25, .iload_n 3, 1, [3], []), (26, .invokevirtual 44, 3, [3, 6, 1, 0, 8], []), (29, .bipush (-9), 2, [], [((-9), 0)]), (31, .if_icmp .ne 7, 3, [38], []), (34, .iconst 1, 1, [], [(1, 0)]), (35, .goto 4, 3, [39], []), (38, .iconst 0, 1, [], [(0, 0)]), (39, .ireturn, 1, [1], [])]
noncomputable def cd102 : List (Nat × AI) := [(0, .iconst 0, 1, [], [(0, 0)]), (1, .istore 4, 2, [4], []), (3, .iconst 0, 1, [], [(0, 0)]), (4, .istore 5, 2, [5], []), (6, .iload 5, 2, [5], []), (8, .aload_n 0, 1, [0], []), (9, .getfield 40, 3, [10, 9, 0], []), (12, .if_icmp .ge 59, 3, [71], []), (15, .aload_n 0, 1, [0], []), (16, .aload_n 1, 1, [1], []), (17, .iload 5, 2, [5], []), (19, .iload_n 3, 1, [3], []), (20, .invokevirtual 50, 3, [101, 4, 1, 10, 4], []), (23, .ifCond .eq 42, 3, [65], []), (26, .aload_n 2, 1, [2], []), (27, .aload_n 0, 1, [0], []), (28, .getfield 18, 3, [10, 2, 2], []), (31, .iload 5, 2, [5], []), (33, .iaload, 1, [], []), (34, .aload_n 0, 1, [0], []), (35, .getfield 21, 3, [10, 3, 2], []), (38, .iload 5, 2, [5], []), (40, .iaload, 1, [], []), (41, .aload_n 0, 1, [0], []), (42, .getfield 24, 3, [10, 4, 2], []), (45, .iload 5, 2, [5], []), (47, .iaload, 1, [], []), (48, .aload_n 0, 1, [0], []), (49, .getfield 27, 3, [10, 5, 2], []), (52, .iload 5, 2, [5], []), (54, .iaload, 1, [], []), (55, .iload_n 3, 1, [3], []), (56, .invokevirtual 54, 3, [42, 6, 1, 3, 6], []), (59, .ifCond .eq 6, 3, [65], []), (62, .iinc 4 1, 3, [4], [(1, 0)]), (65, .iinc 5 1, 3, [5], [(1, 0)]), (68, .goto (-62), 3, [6], []), (71, .iload 4, 2, [4], []), (73, .ireturn, 1, [0], [])]
noncomputable def cd103 : List (Nat × AI) := [(0, .iconst 0, 1, [], [(0, 0)]), (1, .istore_n 3, 1, [3], []), (2, .iload_n 3, 1, [3], []), (3, .aload_n 0, 1, [0], []), (4, .getfield 40, 3, [10, 9, 0], []), (7, .if_icmp .ge 22, 3, [29], []), (10, .aload_n 0, 1, [0], []), (11, .getfield 30, 3, [10, 6, 2], []), (14, .iload_n 3, 1, [3], []), (15, .aload_n 0, 1, [0], []), (16, .aload_n 1, 1, [1], []), (17, .iload_n 3, 1, [3], []), (18, .iload_n 2, 1, [2], []), (19, .invokevirtual 50, 3, [101, 4, 1, 10, 4], []), (22, .bastore, 1, [], []), (23, .iinc 3 1, 3, [3], [(1, 0)]), (26, .goto (-24), 3, [2], []), (29, .aload_n 0, 1, [0], []), (30, .invokevirtual 60, 3, [104, 1, 0, 10, 3], []), (33, .aload_n 0, 1, [0], []), (34, .getfield 34, 3, [10, 7, 2], []), (37, .iconst 0, 1, [], [(0, 0)]), (38, .iaload, 1, [], []), (39, .istore_n 3, 1, [3], []), (40, .iload_n 3, 1, [3], []), (41, .sipush 1000, 3, [], [(1000, 0)]), (44, .if_icmp .ne 6, 3, [50], []), (47, .bipush (-9), 2, [], [((-9), 0)]), (49, .ireturn, 1, [0], []), (50, .aload_n 0, 1, [0], []), (51, .iload_n 3, 1, [3], []), (52, .invokevirtual 63, 3, [105, 2, 0, 10, 5], []), (55, .iload_n 3, 1, [3], []), (56, .ireturn, 1, [0], [])]
noncomputable def cd104 : List (Nat × AI) := [(0, .aload_n 0, 1, [0], []), (1, .getfield 34, 3, [10, 7, 2], []), (4, .sipush 1000, 3, [], [(1000, 0)]), (7, .invokestatic 67, 3, [270, 2, 0, 16, 4], []), (10, .aload_n 0, 1, [0], []), (11, .getfield 34, 3, [10, 7, 2], []), (14, .bipush 11, 2, [], [(11, 0)]), (16, .iconst 0, 1, [], [(0, 0)]), (17, .iastore, 1, [], []), (18, .iconst 0, 1, [], [(0, 0)]), (19, .istore_n 1, 1, [1], []), (20, .iload_n 1, 1, [1], []), (21, .bipush 11, 2, [], [(11, 0)]), (23, .if_icmp .ge 78, 3, [101], []), (26, .iconst 0, 1, [], [(0, 0)]), (27, .istore_n 2, 1, [2], []), (28, .iload_n 2, 1, [2], []), (29, .aload_n 0, 1, [0], []), (30, .getfield 40, 3, [10, 9, 0], []), (33, .if_icmp .ge 62, 3, [95], []), (36, .aload_n 0, 1, [0], []), (37, .getfield 30, 3, [10, 6, 2], []), (40, .iload_n 2, 1, [2], []), (41, .baload, 1, [], []), (42, .ifCond .eq 47, 3, [89], []), (45, .aload_n 0, 1, [0], []), (46, .getfield 34, 3, [10, 7, 2], []), (49, .aload_n 0, 1, [0], []), (50, .getfield 11, 3, [10, 0, 2], []), (53, .iload_n 2, 1, [2], []), (54, .iaload, 1, [], []), (55, .aload_n 0, 1, [0], []), (56, .getfield 34, 3, [10, 7, 2], []), (59, .aload_n 0, 1, [0], []), (60, .getfield 11, 3, [10, 0, 2], []), (63, .iload_n 2, 1, [2], []), (64, .iaload, 1, [], []), (65, .iaload, 1, [], []), (66, .sipush 1000, 3, [], [(1000, 0)]), (69, .aload_n 0, 1, [0], []), (70, .getfield 34, 3, [10, 7, 2], []), (73, .aload_n 0, 1, [0], []), (74, .getfield 15, 3, [10, 1, 2], []), (77, .iload_n 2, 1, [2], []), (78, .iaload, 1, [], []), (79, .iaload, 1, [], []), (80, .iconst 1, 1, [], [(1, 0)]), (81, .iadd, 1, [], []), (82, .invokestatic 73, 3, [2], []), (85, .invokestatic 73, 3, [2], []), (88, .iastore, 1, [], []), (89, .iinc 2 1, 3, [2], [(1, 0)]), (92, .goto (-64), 3, [28], []), (95, .iinc 1 1, 3, [1], [(1, 0)]), (98, .goto (-78), 3, [20], []), (101, .return_, 1, [], [])]
noncomputable def cd105 : List (Nat × AI) := [(0, .iconst 0, 1, [], [(0, 0)]), (1, .istore_n 2, 1, [2], []), (2, .iconst 0, 1, [], [(0, 0)]), (3, .istore_n 3, 1, [3], []), (4, .iload_n 3, 1, [3], []), (5, .iload_n 1, 1, [1], []), (6, .if_icmp .ge 49, 3, [55], []), (9, .iload_n 3, 1, [3], []), (10, .aload_n 0, 1, [0], []), (11, .getfield 37, 3, [10, 8, 2], []), (14, .arraylength, 1, [], []), (15, .if_icmp .ge 40, 3, [55], []), (18, .aload_n 0, 1, [0], []), (19, .iload_n 2, 1, [2], []), (20, .invokevirtual 79, 3, [106, 2, 1, 10, 3], []), (23, .istore 4, 2, [4], []), (25, .iload 4, 2, [4], []), (27, .bipush (-9), 2, [], [((-9), 0)]), (29, .if_icmp .ne 4, 3, [33], []), (32, .return_, 1, [], []), (33, .aload_n 0, 1, [0], []), (34, .getfield 37, 3, [10, 8, 2], []), (37, .iload_n 3, 1, [3], []), (38, .iload 4, 2, [4], []), (40, .iastore, 1, [], []), (41, .aload_n 0, 1, [0], []), (42, .getfield 15, 3, [10, 1, 2], []), (45, .iload 4, 2, [4], []), (47, .iaload, 1, [], []), (48, .istore_n 2, 1, [2], []), (49, .iinc 3 1, 3, [3], [(1, 0)]), (52, .goto (-48), 3, [4], []), (55, .return_, 1, [], [])]
noncomputable def cd106 : List (Nat × AI) := [(0, .iconst 0, 1, [], [(0, 0)]), (1, .istore_n 2, 1, [2], []), (2, .iload_n 2, 1, [2], []), (3, .aload_n 0, 1, [0], []), (4, .getfield 40, 3, [10, 9, 0], []), (7, .if_icmp .ge 52, 3, [59], []), (10, .aload_n 0, 1, [0], []), (11, .getfield 30, 3, [10, 6, 2], []), (14, .iload_n 2, 1, [2], []), (15, .baload, 1, [], []), (16, .ifCond .eq 37, 3, [53], []), (19, .aload_n 0, 1, [0], []), (20, .getfield 11, 3, [10, 0, 2], []), (23, .iload_n 2, 1, [2], []), (24, .iaload, 1, [], []), (25, .iload_n 1, 1, [1], []), (26, .if_icmp .ne 27, 3, [53], []), (29, .aload_n 0, 1, [0], []), (30, .getfield 34, 3, [10, 7, 2], []), (33, .aload_n 0, 1, [0], []), (34, .getfield 15, 3, [10, 1, 2], []), (37, .iload_n 2, 1, [2], []), (38, .iaload, 1, [], []), (39, .iaload, 1, [], []), (40, .aload_n 0, 1, [0], []), (41, .getfield 34, 3, [10, 7, 2], []), (44, .iload_n 1, 1, [1], []), (45, .iaload, 1, [], []), (46, .iconst 1, 1, [], [(1, 0)]), (47, .isub, 1, [], []), (48, .if_icmp .ne 5, 3, [53], []), (51, .iload_n 2, 1, [2], []), (52, .ireturn, 1, [0], []), (53, .iinc 2 1, 3, [2], [(1, 0)]), (56, .goto (-54), 3, [2], []), (59, .bipush (-9), 2, [], [((-9), 0)]), (61, .ireturn, 1, [0], [])]
noncomputable def cd107 : List (Nat × AI) := [(0, .aload_n 0, 1, [0], []), (1, .invokespecial 3, 3, [], []), (4, .aload_n 0, 1, [0], []), (5, .new 9, 3, [7], []), (8, .dup, 1, [], []), (9, .invokespecial 11, 3, [76, 1, 0, 7, 1], []), (12, .putfield 12, 3, [11, 0, 2], []), (15, .aload_n 0, 1, [0], []), (16, .new 18, 3, [6], []), (19, .dup, 1, [], []), (20, .invokespecial 20, 3, [66, 1, 0, 6, 1], []), (23, .putfield 21, 3, [11, 1, 2], []), (26, .aload_n 0, 1, [0], []), (27, .new 25, 3, [0], []), (30, .dup, 1, [], []), (31, .invokespecial 27, 3, [0, 1, 0, 0, 1], []), (34, .putfield 28, 3, [11, 2, 2], []), (37, .aload_n 0, 1, [0], []), (38, .new 32, 3, [10], []), (41, .dup, 1, [], []), (42, .invokespecial 34, 3, [99, 1, 0, 10, 1], []), (45, .putfield 35, 3, [11, 3, 2], []), (48, .aload_n 0, 1, [0], []), (49, .new 39, 3, [8], []), (52, .dup, 1, [], []), (53, .invokespecial 41, 3, [86, 1, 0, 8, 1], []), (56, .putfield 42, 3, [11, 4, 2], []), (59, .aload_n 0, 1, [0], []), (60, .new 46, 3, [4], []), (63, .dup, 1, [], []), (64, .invokespecial 48, 3, [43, 1, 0, 4, 1], []), (67, .putfield 49, 3, [11, 5, 2], []), (70, .aload_n 0, 1, [0], []), (71, .new 53, 3, [1], []), (74, .dup, 1, [], []), (75, .invokespecial 55, 3, [5, 1, 0, 1, 1], []), (78, .putfield 56, 3, [11, 6, 2], []), (81, .aload_n 0, 1, [0], []), (82, .new 60, 3, [5], []), (85, .dup, 1, [], []), (86, .invokespecial 62, 3, [56, 1, 0, 5, 1], []), (89, .putfield 63, 3, [11, 7, 2], []), (92, .aload_n 0, 1, [0], []), (93, .new 67, 3, [2], []), (96, .dup, 1, [], []), (97, .invokespecial 69, 3, [27, 1, 0, 2, 1], []), (100, .putfield 70, 3, [11, 8, 2], []), (103, .aload_n 0, 1, [0], []), (104, .new 74, 3, [9], []), (107, .dup, 1, [], []), (108, .invokespecial 76, 3, [94, 1, 0, 9, 1], []), (111, .putfield 77, 3, [11, 9, 2], []), (114, .aload_n 0, 1, [0], []), (115, .iconst 3, 1, [], [(3, 0)]), (116, .putfield 81, 3, [11, 10, 0], []), (119, .return_, 1, [], [])]
noncomputable def cd108 : List (Nat × AI) := [(0, .aload_n 0, 1, [0], []), (1, .getfield 12, 3, [11, 0, 2], []), (4, .iload_n 1, 1, [1], []), (5, .iload_n 2, 1, [2], []), (6, .iconst 1, 1, [], [(1, 0)]), (7, .iload_n 3, 1, [3], []), (8, .iload 4, 2, [4], []), (10, .invokevirtual 85, 3, [84, 6, 1, 7, 7], []), (13, .istore 5, 2, [5], []), (15, .iload 5, 2, [5], []), (17, .ifCond .eq 6, 3, [23], []), (20, .iload 5, 2, [5], []), (22, .ireturn, 1, [0], []), (23, .aload_n 0, 1, [0], []), (24, .getfield 21, 3, [11, 1, 2], []), (27, .aload_n 0, 1, [0], []), (28, .getfield 12, 3, [11, 0, 2], []), (31, .getfield 89, 3, [7, 3, 2], []), (34, .iload 4, 2, [4], []), (36, .invokevirtual 93, 3, [67, 3, 3, 6, 5], []), (39, .astore 6, 2, [6], []), (41, .aload 6, 2, [6], []), (43, .ifnonnull 16, 3, [59], []), (46, .bipush (-100), 2, [], [((-100), 0)]), (48, .aload_n 0, 1, [0], []), (49, .getfield 21, 3, [11, 1, 2], []), (52, .getfield 97, 3, [6, 2, 0], []), (55, .isub, 1, [], []), (56, .goto 12, 3, [68], []), (59, .aload_n 0, 1, [0], []), (60, .getfield 28, 3, [11, 2, 2], []), (63, .aload 6, 2, [6], []), (65, .invokevirtual 100, 3, [1, 2, 1, 0, 2], []), (68, .ireturn, 1, [0], [])]
noncomputable def cd109 : List (Nat × AI) := [(0, .aload_n 0, 1, [0], []), (1, .getfield 28, 3, [11, 2, 2], []), (4, .iload_n 1, 1, [1], []), (5, .invokevirtual 104, 3, [2, 2, 3, 0, 2], []), (8, .astore_n 3, 1, [3], []), (9, .aload_n 3, 1, [3], []), (10, .ifnonnull 5, 3, [15], []), (13, .iconst (-1), 1, [], [((-1), 0)]), (14, .ireturn, 1, [0], []), (15, .iload_n 2, 1, [2], []), (16, .invokestatic 108, 3, [162, 1, 1, 11, 1], []), (19, .ifCond .ne 6, 3, [25], []), (22, .bipush (-2), 2, [], [((-2), 0)]), (24, .ireturn, 1, [0], []), (25, .aload_n 3, 1, [3], []), (26, .getfield 112, 3, [3, 6, 0], []), (29, .istore 4, 2, [4], []), (31, .aload_n 3, 1, [3], []), (32, .iload_n 2, 1, [2], []), (33, .putfield 112, 3, [3, 6, 0], []), (36, .iload 4, 2, [4], []), (38, .ireturn, 1, [0], [])]
noncomputable def cd110 : List (Nat × AI) := [(0, .aload_n 0, 1, [0], []), (1, .getfield 28, 3, [11, 2, 2], []), (4, .iload_n 1, 1, [1], []), (5, .invokevirtual 104, 3, [2, 2, 3, 0, 2], []), (8, .astore_n 3, 1, [3], []), (9, .aload_n 3, 1, [3], []), (10, .ifnonnull 5, 3, [15], []), (13, .iconst (-1), 1, [], [((-1), 0)]), (14, .ireturn, 1, [0], []), (15, .iload_n 2, 1, [2], []), (16, .tableswitch 93 0 6 #[44, 51, 58, 65, 72, 79, 86], 44, [109], [(0, 60), (1, 67), (2, 74), (3, 81), (4, 88), (5, 95), (6, 102)]), (60, .aload_n 3, 1, [3], []), (61, .getfield 117, 3, [3, 0, 0], []), (64, .goto 47, 3, [111], []), (67, .aload_n 3, 1, [3], []), (68, .getfield 120, 3, [3, 1, 0], []), (71, .goto 40, 3, [111], []), (74, .aload_n 3, 1, [3], []), (75, .getfield 123, 3, [3, 2, 0], []), (78, .goto 33, 3, [111], []), (81, .aload_n 3, 1, [3], []), (82, .getfield 126, 3, [3, 3, 0], []), (85, .goto 26, 3, [111], []), (88, .aload_n 3, 1, [3], []), (89, .getfield 129, 3, [3, 4, 0], []), (92, .goto 19, 3, [111], []), (95, .aload_n 3, 1, [3], []), (96, .getfield 132, 3, [3, 5, 0], []), (99, .goto 12, 3, [111], []), (102, .aload_n 3, 1, [3], []), (103, .getfield 112, 3, [3, 6, 0], []), (106, .goto 5, 3, [111], []), (109, .bipush (-2), 2, [], [((-2), 0)]), (111, .ireturn, 1, [0], [])]
noncomputable def cd111 : List (Nat × AI) := [(0, .aload_n 0, 1, [0], []), (1, .iload_n 1, 1, [1], []), (2, .iload_n 2, 1, [2], []), (3, .iload_n 3, 1, [3], []), (4, .iload 4, 2, [4], []), (6, .iload 5, 2, [5], []), (8, .invokevirtual 135, 3, [112, 6, 1, 11, 6], []), (11, .istore 6, 2, [6], []), (13, .iload 6, 2, [6], []), (15, .bipush (-2), 2, [], [((-2), 0)]), (17, .if_icmp .ne 6, 3, [23], []), (20, .bipush (-2), 2, [], [((-2), 0)]), (22, .ireturn, 1, [0], []), (23, .iload 6, 2, [6], []), (25, .bipush (-9), 2, [], [((-9), 0)]), (27, .if_icmp .ne 7, 3, [34], []), (30, .iconst 0, 1, [], [(0, 0)]), (31, .goto 4, 3, [35], []), (34, .iconst 1, 1, [], [(1, 0)]), (35, .ireturn, 1, [0], [])]
noncomputable def cd112 : List (Nat × AI) := [(0, .iload_n 1, 1, [1], []), (1, .iload_n 2, 1, [2], []), (2, .iload_n 3, 1, [3], []), (3, .iload 4, 2, [4], []), (5, .invokestatic 139, 3, [163, 4, 1, 11, 4], []), (8, .ifCond .eq 11, 3, [19], []), (11, .iload 5, 2, [5], []), (13, .invokestatic 108, 3, [162, 1, 1, 11, 1], []), (16, .ifCond .ne 6, 3, [22], []), (19, .bipush (-2), 2, [], [((-2), 0)]), (21, .ireturn, 1, [0], []), (22, .aload_n 0, 1, [0], []), (23, .getfield 28, 3, [11, 2, 2], []), (26, .iload_n 1, 1, [1], []), (27, .iload_n 2, 1, [2], []), (28, .iload_n 3, 1, [3], []), (29, .iload 4, 2, [4], []), (31, .iload 5, 2, [5], []), (33, .invokevirtual 143, 3, [3, 6, 1, 0, 8], []), (36, .ireturn, 1, [0], [])]
noncomputable def cd113 : List (Nat × AI) := [(0, .iload_n 1, 1, [1], []), (1, .invokestatic 108, 3, [162, 1, 1, 11, 1], []), (4, .ifCond .eq 14, 3, [18], []), (7, .aload_n 0, 1, [0], []), (8, .getfield 28, 3, [11, 2, 2], []), (11, .iload_n 1, 1, [1], []), (12, .invokevirtual 146, 3, [4, 2, 1, 0, 5], []), (15, .goto 5, 3, [20], []), (18, .bipush (-2), 2, [], [((-2), 0)]), (20, .ireturn, 1, [0], [])]
noncomputable def cd114 : List (Nat × AI) := [(0, .iload_n 1, 1, [1], []), (1, .iconst 0, 1, [], [(0, 0)]), (2, .bipush 11, 2, [], [(11, 0)]), (4, .invokestatic 150, 3, [161, 3, 1, 11, 3], []), (7, .ifCond .eq 31, 3, [38], []), (10, .iload_n 2, 1, [2], []), (11, .iconst 0, 1, [], [(0, 0)]), (12, .bipush 11, 2, [], [(11, 0)]), (14, .invokestatic 150, 3, [161, 3, 1, 11, 3], []), (17, .ifCond .eq 21, 3, [38], []), (20, .iload_n 1, 1, [1], []), (21, .iload_n 2, 1, [2], []), (22, .if_icmp .eq 16, 3, [38], []), (25, .iload_n 3, 1, [3], []), (26, .iload 4, 2, [4], []), (28, .iload 5, 2, [5], []), (30, .iload 6, 2, [6], []), (32, .invokestatic 139, 3, [163, 4, 1, 11, 4], []), (35, .ifCond .ne 6, 3, [41], []), (38, .bipush (-2), 2, [], [((-2), 0)]), (40, .ireturn, 1, [0], []), (41, .aload_n 0, 1, [0], []), (42, .getfield 35, 3, [11, 3, 2], []), (45, .iload_n 1, 1, [1], []), (46, .iload_n 2, 1, [2], []), (47, .iload_n 3, 1, [3], []), (48, .iload 4, 2, [4], []), (50, .iload 5, 2, [5], []), (52, .iload 6, 2, [6], []), (54, .invokevirtual 154, 3, [100, 7, 1, 10, 7], []), (57, .ireturn, 1, [0], [])]
noncomputable def cd115 : List (Nat × AI) := [(0, .iload_n 1, 1, [1], []), (1, .invokestatic 108, 3, [162, 1, 1, 11, 1], []), (4, .ifCond .ne 6, 3, [10], []), (7, .bipush (-2), 2, [], [((-2), 0)]), (9, .ireturn, 1, [0], []), (10, .iload_n 2, 1, [2], []), (11, .iconst (-1), 1, [], [((-1), 0)]), (12, .if_icmp .ge 5, 3, [17], []), (15, .iconst (-1), 1, [], [((-1), 0)]), (16, .ireturn, 1, [0], []), (17, .aload_n 0, 1, [0], []), (18, .getfield 35, 3, [11, 3, 2], []), (21, .aload_n 0, 1, [0], []), (22, .getfield 28, 3, [11, 2, 2], []), (25, .iload_n 1, 1, [1], []), (26, .invokevirtual 158, 3, [103, 3, 1, 10, 4], []), (29, .istore_n 3, 1, [3], []), (30, .iload_n 3, 1, [3], []), (31, .bipush (-9), 2, [], [((-9), 0)]), (33, .if_icmp .eq 8, 3, [41], []), (36, .iload_n 2, 1, [2], []), (37, .iconst (-1), 1, [], [((-1), 0)]), (38, .if_icmp .ne 5, 3, [43], []), (41, .iload_n 3, 1, [3], []), (42, .ireturn, 1, [0], []), (43, .iload_n 2, 1, [2], []), (44, .iconst 0, 1, [], [(0, 0)]), (45, .iload_n 3, 1, [3], []), (46, .iconst 1, 1, [], [(1, 0)]), (47, .isub, 1, [], []), (48, .invokestatic 150, 3, [161, 3, 1, 11, 3], []), (51, .ifCond .eq 15, 3, [66], []), (54, .aload_n 0, 1, [0], []), (55, .getfield 35, 3, [11, 3, 2], []), (58, .getfield 162, 3, [10, 8, 2], []), (61, .iload_n 2, 1, [2], []), (62, .iaload, 1, [], []), (63, .goto 4, 3, [67], []), (66, .iconst (-1), 1, [], [((-1), 0)]), (67, .ireturn, 1, [0], [])]
noncomputable def cd116 : List (Nat × AI) := [(0, .aload_n 0, 1, [0], []), (1, .getfield 12, 3, [11, 0, 2], []), (4, .iload_n 2, 1, [2], []), (5, .iload_n 3, 1, [3], []), (6, .iload_n 1, 1, [1], []), (7, .invokestatic 108, 3, [162, 1, 1, 11, 1], []), (10, .iload 4, 2, [4], []), (12, .iload 5, 2, [5], []), (14, .invokevirtual 85, 3, [84, 6, 1, 7, 7], []), (17, .istore 6, 2, [6], []), (19, .iload 6, 2, [6], []), (21, .ifCond .eq 6, 3, [27], []), (24, .iload 6, 2, [6], []), (26, .ireturn, 1, [0], []), (27, .aload_n 0, 1, [0], []), (28, .getfield 21, 3, [11, 1, 2], []), (31, .aload_n 0, 1, [0], []), (32, .getfield 12, 3, [11, 0, 2], []), (35, .getfield 89, 3, [7, 3, 2], []), (38, .iload 5, 2, [5], []), (40, .invokevirtual 93, 3, [67, 3, 3, 6, 5], []), (43, .astore 7, 2, [7], []), (45, .aload 7, 2, [7], []), (47, .ifnonnull 16, 3, [63], []), (50, .bipush (-100), 2, [], [((-100), 0)]), (52, .aload_n 0, 1, [0], []), (53, .getfield 21, 3, [11, 1, 2], []), (56, .getfield 97, 3, [6, 2, 0], []), (59, .isub, 1, [], []), (60, .goto 17, 3, [77], []), (63, .aload_n 0, 1, [0], []), (64, .getfield 35, 3, [11, 3, 2], []), (67, .aload_n 0, 1, [0], []), (68, .getfield 28, 3, [11, 2, 2], []), (71, .aload 7, 2, [7], []), (73, .iload_n 1, 1, [1], []), (74, .invokevirtual 165, 3, [102, 4, 1, 10, 6], []), (77, .ireturn, 1, [0], [])]
noncomputable def cd117 : List (Nat × AI) := [(0, .iload_n 1, 1, [1], []), (1, .iconst 1, 1, [], [(1, 0)]), (2, .bipush 24, 2, [], [(24, 0)]), (4, .invokestatic 150, 3, [161, 3, 1, 11, 3], []), (7, .ifCond .eq 14, 3, [21], []), (10, .aload_n 0, 1, [0], []), (11, .getfield 42, 3, [11, 4, 2], []), (14, .iload_n 1, 1, [1], []), (15, .invokevirtual 169, 3, [87, 2, 1, 8, 2], []), (18, .goto 5, 3, [23], []), (21, .bipush (-2), 2, [], [((-2), 0)]), (23, .ireturn, 1, [0], [])]
noncomputable def cd118 : List (Nat × AI) := [(0, .aload_n 0, 1, [0], []), (1, .getfield 42, 3, [11, 4, 2], []), (4, .iload_n 1, 1, [1], []), (5, .invokevirtual 172, 3, [88, 2, 1, 8, 2], []), (8, .ifCond .ne 5, 3, [13], []), (11, .iconst (-1), 1, [], [((-1), 0)]), (12, .ireturn, 1, [0], []), (13, .iload_n 2, 1, [2], []), (14, .iconst 0, 1, [], [(0, 0)]), (15, .sipush 999, 3, [], [(999, 0)]), (18, .invokestatic 150, 3, [161, 3, 1, 11, 3], []), (21, .ifCond .eq 10, 3, [31], []), (24, .iload_n 3, 1, [3], []), (25, .invokestatic 108, 3, [162, 1, 1, 11, 1], []), (28, .ifCond .ne 6, 3, [34], []), (31, .bipush (-2), 2, [], [((-2), 0)]), (33, .ireturn, 1, [0], []), (34, .aload_n 0, 1, [0], []), (35, .getfield 42, 3, [11, 4, 2], []), (38, .iload_n 1, 1, [1], []), (39, .iload_n 2, 1, [2], []), (40, .iload_n 3, 1, [3], []), (41, .invokevirtual 175, 3, [89, 4, 1, 8, 4], []), (44, .ireturn, 1, [0], [])]
noncomputable def cd119 : List (Nat × AI) := [(0, .aload_n 0, 1, [0], []), (1, .getfield 42, 3, [11, 4, 2], []), (4, .invokevirtual 179, 3, [90, 1, 1, 8, 3], []), (7, .ireturn, 1, [0], [])]
noncomputable def cd120 : List (Nat × AI) := [(0, .aload_n 0, 1, [0], []), (1, .getfield 42, 3, [11, 4, 2], []), (4, .iload_n 1, 1, [1], []), (5, .invokevirtual 172, 3, [88, 2, 1, 8, 2], []), (8, .ifCond .eq 15, 3, [23], []), (11, .aload_n 0, 1, [0], []), (12, .getfield 42, 3, [11, 4, 2], []), (15, .iload_n 1, 1, [1], []), (16, .iload_n 2, 1, [2], []), (17, .invokevirtual 183, 3, [92, 3, 1, 8, 5], []), (20, .goto 4, 3, [24], []), (23, .iconst (-1), 1, [], [((-1), 0)]), (24, .ireturn, 1, [0], [])]
noncomputable def cd121 : List (Nat × AI) := [(0, .aload_n 0, 1, [0], []), (1, .getfield 12, 3, [11, 0, 2], []), (4, .iload_n 1, 1, [1], []), (5, .iload_n 2, 1, [2], []), (6, .iconst 1, 1, [], [(1, 0)]), (7, .iload_n 3, 1, [3], []), (8, .iload 4, 2, [4], []), (10, .invokevirtual 85, 3, [84, 6, 1, 7, 7], []), (13, .istore 5, 2, [5], []), (15, .iload 5, 2, [5], []), (17, .ifCond .eq 6, 3, [23], []), (20, .iload 5, 2, [5], []), (22, .ireturn, 1, [0], []), (23, .aload_n 0, 1, [0], []), (24, .getfield 12, 3, [11, 0, 2], []), (27, .getfield 89, 3, [7, 3, 2], []), (30, .iload 4, 2, [4], []), (32, .invokestatic 187, 3, [44, 2, 1, 4, 3], []), (35, .ifCond .eq 22, 3, [57], []), (38, .aload_n 0, 1, [0], []), (39, .getfield 49, 3, [11, 5, 2], []), (42, .aload_n 0, 1, [0], []), (43, .getfield 12, 3, [11, 0, 2], []), (46, .getfield 89, 3, [7, 3, 2], []), (49, .iload 4, 2, [4], []), (51, .invokevirtual 191, 3, [47, 3, 1, 4, 5], []), (54, .goto 5, 3, [59], []), (57, .bipush (-2), 2, [], [((-2), 0)]), (59, .ireturn, 1, [0], [])]
noncomputable def cd122 : List (Nat × AI) := [(0, .iload_n 1, 1, [1], []), (1, .iconst 0, 1, [], [(0, 0)]), (2, .bipush 11, 2, [], [(11, 0)]), (4, .invokestatic 150, 3, [161, 3, 1, 11, 3], []), (7, .ifCond .eq 16, 3, [23], []), (10, .iload_n 2, 1, [2], []), (11, .iconst (-1), 1, [], [((-1), 0)]), (12, .iconst 1, 1, [], [(1, 0)]), (13, .invokestatic 150, 3, [161, 3, 1, 11, 3], []), (16, .ifCond .eq 7, 3, [23], []), (19, .iconst 1, 1, [], [(1, 0)]), (20, .goto 4, 3, [24], []), (23, .iconst 0, 1, [], [(0, 0)]), (24, .istore 7, 2, [7], []), (26, .aload_n 0, 1, [0], []), (27, .getfield 12, 3, [11, 0, 2], []), (30, .iload_n 3, 1, [3], []), (31, .iload 4, 2, [4], []), (33, .iload 7, 2, [7], []), (35, .iload 5, 2, [5], []), (37, .iload 6, 2, [6], []), (39, .invokevirtual 85, 3, [84, 6, 1, 7, 7], []), (42, .istore 8, 2, [8], []), (44, .iload 8, 2, [8], []), (46, .ifCond .eq 6, 3, [52], []), (49, .iload 8, 2, [8], []), (51, .ireturn, 1, [0], []), (52, .aload_n 0, 1, [0], []), (53, .getfield 12, 3, [11, 0, 2], []), (56, .getfield 89, 3, [7, 3, 2], []), (59, .iload 6, 2, [6], []), (61, .invokestatic 187, 3, [44, 2, 1, 4, 3], []), (64, .ifCond .eq 24, 3, [88], []), (67, .aload_n 0, 1, [0], []), (68, .getfield 49, 3, [11, 5, 2], []), (71, .iload_n 1, 1, [1], []), (72, .iload_n 2, 1, [2], []), (73, .aload_n 0, 1, [0], []), (74, .getfield 12, 3, [11, 0, 2], []), (77, .getfield 89, 3, [7, 3, 2], []), (80, .iload 6, 2, [6], []), (82, .invokevirtual 195, 3, [48, 5, 1, 4, 7], []), (85, .goto 5, 3, [90], []), (88, .bipush (-2), 2, [], [((-2), 0)]), (90, .ireturn, 1, [0], [])]
noncomputable def cd123 : List (Nat × AI) := [(0, .aload_n 0, 1, [0], []), (1, .getfield 49, 3, [11, 5, 2], []), (4, .iload_n 1, 1, [1], []), (5, .invokevirtual 199, 3, [46, 2, 1, 4, 2], []), (8, .ifCond .ne 5, 3, [13], []), (11, .iconst (-1), 1, [], [((-1), 0)]), (12, .ireturn, 1, [0], []), (13, .iload_n 2, 1, [2], []), (14, .iconst (-1), 1, [], [((-1), 0)]), (15, .iconst 1, 1, [], [(1, 0)]), (16, .invokestatic 150, 3, [161, 3, 1, 11, 3], []), (19, .ifCond .eq 15, 3, [34], []), (22, .aload_n 0, 1, [0], []), (23, .getfield 49, 3, [11, 5, 2], []), (26, .iload_n 1, 1, [1], []), (27, .iload_n 2, 1, [2], []), (28, .invokevirtual 202, 3, [49, 3, 1, 4, 4], []), (31, .goto 5, 3, [36], []), (34, .bipush (-2), 2, [], [((-2), 0)]), (36, .ireturn, 1, [0], [])]
noncomputable def cd124 : List (Nat × AI) := [(0, .aload_n 0, 1, [0], []), (1, .getfield 49, 3, [11, 5, 2], []), (4, .iload_n 1, 1, [1], []), (5, .invokevirtual 199, 3, [46, 2, 1, 4, 2], []), (8, .ifCond .eq 15, 3, [23], []), (11, .aload_n 0, 1, [0], []), (12, .getfield 49, 3, [11, 5, 2], []), (15, .getfield 205, 3, [4, 6, 2], []), (18, .iload_n 1, 1, [1], []), (19, .iaload, 1, [], []), (20, .goto 4, 3, [24], []), (23, .iconst (-1), 1, [], [((-1), 0)]), (24, .ireturn, 1, [0], [])]
noncomputable def cd125 : List (Nat × AI) := [(0, .aload_n 0, 1, [0], []), (1, .getfield 49, 3, [11, 5, 2], []), (4, .iconst 0, 1, [], [(0, 0)]), (5, .invokevirtual 208, 3, [54, 2, 1, 4, 4], []), (8, .ireturn, 1, [0], [])]
noncomputable def cd126 : List (Nat × AI) := [(0, .iload_n 1, 1, [1], []), (1, .iconst 0, 1, [], [(0, 0)]), (2, .iconst 1, 1, [], [(1, 0)]), (3, .invokestatic 150, 3, [161, 3, 1, 11, 3], []), (6, .ifCond .ne 6, 3, [12], []), (9, .bipush (-2), 2, [], [((-2), 0)]), (11, .ireturn, 1, [0], []), (12, .iload_n 1, 1, [1], []), (13, .ifCond .ne 29, 3, [42], []), (16, .aload_n 0, 1, [0], []), (17, .getfield 49, 3, [11, 5, 2], []), (20, .iload_n 2, 1, [2], []), (21, .invokevirtual 211, 3, [45, 2, 1, 4, 2], []), (24, .ifCond .eq 16, 3, [40], []), (27, .aload_n 0, 1, [0], []), (28, .getfield 49, 3, [11, 5, 2], []), (31, .iconst 1, 1, [], [(1, 0)]), (32, .iload_n 2, 1, [2], []), (33, .ishl, 1, [], []), (34, .invokevirtual 214, 3, [55, 2, 1, 4, 4], []), (37, .goto 4, 3, [41], []), (40, .iconst (-1), 1, [], [((-1), 0)]), (41, .ireturn, 1, [0], []), (42, .aload_n 0, 1, [0], []), (43, .getfield 49, 3, [11, 5, 2], []), (46, .iload_n 2, 1, [2], []), (47, .invokevirtual 199, 3, [46, 2, 1, 4, 2], []), (50, .ifCond .eq 22, 3, [72], []), (53, .aload_n 0, 1, [0], []), (54, .getfield 49, 3, [11, 5, 2], []), (57, .aload_n 0, 1, [0], []), (58, .getfield 49, 3, [11, 5, 2], []), (61, .getfield 205, 3, [4, 6, 2], []), (64, .iload_n 2, 1, [2], []), (65, .iaload, 1, [], []), (66, .invokevirtual 214, 3, [55, 2, 1, 4, 4], []), (69, .goto 4, 3, [73], []), (72, .iconst (-1), 1, [], [((-1), 0)]), (73, .ireturn, 1, [0], [])]
noncomputable def cd127 : List (Nat × AI) := [(0, .iload_n 1, 1, [1], []), (1, .iconst 0, 1, [], [(0, 0)]), (2, .iconst 2, 1, [], [(2, 0)]), (3, .invokestatic 150, 3, [161, 3, 1, 11, 3], []), (6, .ifCond .eq 25, 3, [31], []), (9, .iload_n 2, 1, [2], []), (10, .iconst 0, 1, [], [(0, 0)]), (11, .bipush 99, 2, [], [(99, 0)]), (13, .invokestatic 150, 3, [161, 3, 1, 11, 3], []), (16, .ifCond .eq 15, 3, [31], []), (19, .aload_n 0, 1, [0], []), (20, .getfield 56, 3, [11, 6, 2], []), (23, .iload_n 1, 1, [1], []), (24, .iload_n 2, 1, [2], []), (25, .invokevirtual 217, 3, [6, 3, 1, 1, 3], []), (28, .goto 5, 3, [33], []), (31, .bipush (-2), 2, [], [((-2), 0)]), (33, .ireturn, 1, [0], [])]
noncomputable def cd128 : List (Nat × AI) := [(0, .aload_n 0, 1, [0], []), (1, .getfield 56, 3, [11, 6, 2], []), (4, .invokevirtual 220, 3, [7, 1, 1, 1, 1], []), (7, .ireturn, 1, [0], [])]
noncomputable def cd129 : List (Nat × AI) := [(0, .aload_n 0, 1, [0], []), (1, .getfield 56, 3, [11, 6, 2], []), (4, .iload_n 1, 1, [1], []), (5, .invokevirtual 223, 3, [9, 2, 1, 1, 2], []), (8, .ifCond .eq 14, 3, [22], []), (11, .aload_n 0, 1, [0], []), (12, .getfield 56, 3, [11, 6, 2], []), (15, .iload_n 2, 1, [2], []), (16, .invokevirtual 226, 3, [8, 2, 1, 1, 2], []), (19, .ifCond .ne 5, 3, [24], []), (22, .iconst (-1), 1, [], [((-1), 0)]), (23, .ireturn, 1, [0], []), (24, .iload_n 3, 1, [3], []), (25, .invokestatic 108, 3, [162, 1, 1, 11, 1], []), (28, .ifCond .eq 17, 3, [45], []), (31, .aload_n 0, 1, [0], []), (32, .getfield 56, 3, [11, 6, 2], []), (35, .iload_n 1, 1, [1], []), (36, .iload_n 2, 1, [2], []), (37, .iconst 0, 1, [], [(0, 0)]), (38, .iload_n 3, 1, [3], []), (39, .invokevirtual 229, 3, [10, 5, 1, 1, 5], []), (42, .goto 5, 3, [47], []), (45, .bipush (-2), 2, [], [((-2), 0)]), (47, .ireturn, 1, [0], [])]
noncomputable def cd130 : List (Nat × AI) := [(0, .aload_n 0, 1, [0], []), (1, .getfield 56, 3, [11, 6, 2], []), (4, .iload_n 1, 1, [1], []), (5, .invokevirtual 223, 3, [9, 2, 1, 1, 2], []), (8, .ifCond .ne 5, 3, [13], []), (11, .iconst (-1), 1, [], [((-1), 0)]), (12, .ireturn, 1, [0], []), (13, .iload_n 2, 1, [2], []), (14, .ifCond .eq 7, 3, [21], []), (17, .iconst 1, 1, [], [(1, 0)]), (18, .goto 4, 3, [22], []), (21, .iconst 2, 1, [], [(2, 0)]), (22, .istore 4, 2, [4], []), (24, .iload_n 3, 1, [3], []), (25, .invokestatic 108, 3, [162, 1, 1, 11, 1], []), (28, .ifCond .eq 19, 3, [47], []), (31, .aload_n 0, 1, [0], []), (32, .getfield 56, 3, [11, 6, 2], []), (35, .iload_n 1, 1, [1], []), (36, .bipush (-9), 2, [], [((-9), 0)]), (38, .iload 4, 2, [4], []), (40, .iload_n 3, 1, [3], []), (41, .invokevirtual 229, 3, [10, 5, 1, 1, 5], []), (44, .goto 5, 3, [49], []), (47, .bipush (-2), 2, [], [((-2), 0)]), (49, .ireturn, 1, [0], [])]
noncomputable def cd131 : List (Nat × AI) := [(0, .iload_n 1, 1, [1], []), (1, .invokestatic 108, 3, [162, 1, 1, 11, 1], []), (4, .ifCond .eq 12, 3, [16], []), (7, .iload_n 2, 1, [2], []), (8, .iconst 0, 1, [], [(0, 0)]), (9, .iconst 5, 1, [], [(5, 0)]), (10, .invokestatic 150, 3, [161, 3, 1, 11, 3], []), (13, .ifCond .ne 6, 3, [19], []), (16, .bipush (-2), 2, [], [((-2), 0)]), (18, .ireturn, 1, [0], []), (19, .aload_n 0, 1, [0], []), (20, .getfield 56, 3, [11, 6, 2], []), (23, .iload_n 1, 1, [1], []), (24, .invokevirtual 233, 3, [11, 2, 0, 1, 3], []), (27, .iload_n 2, 1, [2], []), (28, .tableswitch 87 0 4 #[36, 46, 56, 66, 76], 36, [115], [(0, 64), (1, 74), (2, 84), (3, 94), (4, 104)]), (64, .aload_n 0, 1, [0], []), (65, .getfield 56, 3, [11, 6, 2], []), (68, .invokevirtual 237, 3, [14, 1, 1, 1, 3], []), (71, .goto 52, 3, [123], []), (74, .aload_n 0, 1, [0], []), (75, .getfield 56, 3, [11, 6, 2], []), (78, .invokevirtual 240, 3, [15, 1, 1, 1, 4], []), (81, .goto 42, 3, [123], []), (84, .aload_n 0, 1, [0], []), (85, .getfield 56, 3, [11, 6, 2], []), (88, .invokevirtual 243, 3, [17, 1, 1, 1, 4], []), (91, .goto 32, 3, [123], []), (94, .aload_n 0, 1, [0], []), (95, .getfield 56, 3, [11, 6, 2], []), (98, .invokevirtual 246, 3, [16, 1, 1, 1, 2], []), (101, .goto 22, 3, [123], []), (104, .aload_n 0, 1, [0], []), (105, .getfield 56, 3, [11, 6, 2], []), (108, .iconst 1, 1, [], [(1, 0)]), (109, .invokevirtual 249, 3, [18, 2, 1, 1, 4], []), (112, .goto 11, 3, [123], []), (115, .aload_n 0, 1, [0], []), (116, .getfield 56, 3, [11, 6, 2], []), (119, .iconst 2, 1, [], [(2, 0)]), (120, .invokevirtual 249, 3, [18, 2, 1, 1, 4], []), (123, .ireturn, 1, [0], [])]
noncomputable def cd132 : List (Nat × AI) := [(0, .aload_n 0, 1, [0], []), (1, .getfield 56, 3, [11, 6, 2], []), (4, .iload_n 1, 1, [1], []), (5, .invokevirtual 226, 3, [8, 2, 1, 1, 2], []), (8, .ifCond .eq 14, 3, [22], []), (11, .aload_n 0, 1, [0], []), (12, .getfield 56, 3, [11, 6, 2], []), (15, .iload_n 1, 1, [1], []), (16, .invokevirtual 252, 3, [19, 2, 1, 1, 3], []), (19, .goto 4, 3, [23], []), (22, .iconst (-1), 1, [], [((-1), 0)]), (23, .ireturn, 1, [0], [])]
noncomputable def cd133 : List (Nat × AI) := [(0, .aload_n 0, 1, [0], []), (1, .getfield 63, 3, [11, 7, 2], []), (4, .iconst 0, 1, [], [(0, 0)]), (5, .iload_n 1, 1, [1], []), (6, .invokevirtual 255, 3, [57, 3, 1, 5, 3], []), (9, .ireturn, 1, [0], [])]
noncomputable def cd134 : List (Nat × AI) := [(0, .aload_n 0, 1, [0], []), (1, .getfield 63, 3, [11, 7, 2], []), (4, .iload_n 1, 1, [1], []), (5, .invokevirtual 259, 3, [58, 2, 1, 5, 2], []), (8, .ifCond .eq 15, 3, [23], []), (11, .aload_n 0, 1, [0], []), (12, .getfield 63, 3, [11, 7, 2], []), (15, .iload_n 1, 1, [1], []), (16, .iconst 0, 1, [], [(0, 0)]), (17, .invokevirtual 255, 3, [57, 3, 1, 5, 3], []), (20, .goto 5, 3, [25], []), (23, .bipush (-2), 2, [], [((-2), 0)]), (25, .ireturn, 1, [0], [])]
noncomputable def cd135 : List (Nat × AI) := [(0, .aload_n 0, 1, [0], []), (1, .getfield 63, 3, [11, 7, 2], []), (4, .iload_n 1, 1, [1], []), (5, .invokevirtual 262, 3, [59, 2, 1, 5, 2], []), (8, .ifCond .ne 5, 3, [13], []), (11, .iconst (-1), 1, [], [((-1), 0)]), (12, .ireturn, 1, [0], []), (13, .aload_n 0, 1, [0], []), (14, .getfield 63, 3, [11, 7, 2], []), (17, .iload_n 1, 1, [1], []), (18, .invokevirtual 265, 3, [60, 2, 1, 5, 2], []), (21, .ifCond .eq 15, 3, [36], []), (24, .aload_n 0, 1, [0], []), (25, .getfield 63, 3, [11, 7, 2], []), (28, .iload_n 1, 1, [1], []), (29, .iload_n 2, 1, [2], []), (30, .invokevirtual 268, 3, [62, 3, 1, 5, 4], []), (33, .goto 5, 3, [38], []), (36, .bipush (-3), 2, [], [((-3), 0)]), (38, .ireturn, 1, [0], [])]
noncomputable def cd136 : List (Nat × AI) := [(0, .aload_n 0, 1, [0], []), (1, .getfield 63, 3, [11, 7, 2], []), (4, .bipush (-9), 2, [], [((-9), 0)]), (6, .invokevirtual 271, 3, [63, 2, 1, 5, 5], []), (9, .ireturn, 1, [0], [])]
noncomputable def cd137 : List (Nat × AI) := [(0, .aload_n 0, 1, [0], []), (1, .getfield 63, 3, [11, 7, 2], []), (4, .iload_n 1, 1, [1], []), (5, .invokevirtual 262, 3, [59, 2, 1, 5, 2], []), (8, .ifCond .ne 5, 3, [13], []), (11, .iconst (-1), 1, [], [((-1), 0)]), (12, .ireturn, 1, [0], []), (13, .aload_n 0, 1, [0], []), (14, .getfield 63, 3, [11, 7, 2], []), (17, .iload_n 1, 1, [1], []), (18, .invokevirtual 274, 3, [61, 2, 1, 5, 2], []), (21, .ifCond .eq 14, 3, [35], []), (24, .aload_n 0, 1, [0], []), (25, .getfield 63, 3, [11, 7, 2], []), (28, .iload_n 1, 1, [1], []), (29, .invokevirtual 277, 3, [64, 2, 1, 5, 2], []), (32, .goto 5, 3, [37], []), (35, .bipush (-3), 2, [], [((-3), 0)]), (37, .ireturn, 1, [0], [])]
noncomputable def cd138 : List (Nat × AI) := [(0, .aload_n 0, 1, [0], []), (1, .getfield 63, 3, [11, 7, 2], []), (4, .invokevirtual 280, 3, [65, 1, 1, 5, 5], []), (7, .ireturn, 1, [0], [])]
noncomputable def cd139 : List (Nat × AI) := [(0, .iload_n 1, 1, [1], []), (1, .iconst 1, 1, [], [(1, 0)]), (2, .iconst 4, 1, [], [(4, 0)]), (3, .invokestatic 150, 3, [161, 3, 1, 11, 3], []), (6, .ifCond .eq 14, 3, [20], []), (9, .iload_n 2, 1, [2], []), (10, .iconst 1, 1, [], [(1, 0)]), (11, .sipush 600, 3, [], [(600, 0)]), (14, .invokestatic 150, 3, [161, 3, 1, 11, 3], []), (17, .ifCond .ne 6, 3, [23], []), (20, .bipush (-2), 2, [], [((-2), 0)]), (22, .ireturn, 1, [0], []), (23, .aload_n 0, 1, [0], []), (24, .getfield 70, 3, [11, 8, 2], []), (27, .iload_n 1, 1, [1], []), (28, .iload_n 2, 1, [2], []), (29, .invokevirtual 283, 3, [28, 3, 1, 2, 3], []), (32, .ireturn, 1, [0], [])]
noncomputable def cd140 : List (Nat × AI) := [(0, .iload_n 1, 1, [1], []), (1, .iconst 1, 1, [], [(1, 0)]), (2, .sipush 600, 3, [], [(600, 0)]), (5, .invokestatic 150, 3, [161, 3, 1, 11, 3], []), (8, .ifCond .eq 20, 3, [28], []), (11, .iload_n 2, 1, [2], []), (12, .invokestatic 108, 3, [162, 1, 1, 11, 1], []), (15, .ifCond .eq 13, 3, [28], []), (18, .iload_n 3, 1, [3], []), (19, .iconst 0, 1, [], [(0, 0)]), (20, .bipush 9, 2, [], [(9, 0)]), (22, .invokestatic 150, 3, [161, 3, 1, 11, 3], []), (25, .ifCond .ne 6, 3, [31], []), (28, .bipush (-2), 2, [], [((-2), 0)]), (30, .ireturn, 1, [0], []), (31, .aload_n 0, 1, [0], []), (32, .getfield 70, 3, [11, 8, 2], []), (35, .iload_n 1, 1, [1], []), (36, .iload_n 2, 1, [2], []), (37, .iload_n 3, 1, [3], []), (38, .invokevirtual 286, 3, [29, 4, 1, 2, 4], []), (41, .ireturn, 1, [0], [])]
noncomputable def cd141 : List (Nat × AI) := [(0, .aload_n 0, 1, [0], []), (1, .getfield 70, 3, [11, 8, 2], []), (4, .iload_n 1, 1, [1], []), (5, .invokevirtual 289, 3, [30, 2, 1, 2, 2], []), (8, .ifCond .ne 5, 3, [13], []), (11, .iconst (-1), 1, [], [((-1), 0)]), (12, .ireturn, 1, [0], []), (13, .iload_n 2, 1, [2], []), (14, .tableswitch 94 0 4 #[34, 46, 58, 70, 82], 34, [108], [(0, 48), (1, 60), (2, 72), (3, 84), (4, 96)]), (48, .aload_n 0, 1, [0], []), (49, .getfield 70, 3, [11, 8, 2], []), (52, .getfield 292, 3, [2, 0, 2], []), (55, .iload_n 1, 1, [1], []), (56, .iaload, 1, [], []), (57, .goto 53, 3, [110], []), (60, .aload_n 0, 1, [0], []), (61, .getfield 70, 3, [11, 8, 2], []), (64, .getfield 295, 3, [2, 1, 2], []), (67, .iload_n 1, 1, [1], []), (68, .iaload, 1, [], []), (69, .goto 41, 3, [110], []), (72, .aload_n 0, 1, [0], []), (73, .getfield 70, 3, [11, 8, 2], []), (76, .getfield 298, 3, [2, 2, 2], []), (79, .iload_n 1, 1, [1], []), (80, .iaload, 1, [], []), (81, .goto 29, 3, [110], []), (84, .aload_n 0, 1, [0], []), (85, .getfield 70, 3, [11, 8, 2], []), (88, .getfield 301, 3, [2, 3, 2], []), (91, .iload_n 1, 1, [1], []), (92, .iaload, 1, [], []), (93, .goto 17, 3, [110], []), (96, .aload_n 0, 1, [0], []), (97, .getfield 70, 3, [11, 8, 2], []), (100, .getfield 304, 3, [2, 4, 2], []), (103, .iload_n 1, 1, [1], []), (104, .iaload, 1, [], []), (105, .goto 5, 3, [110], []), (108, .bipush (-2), 2, [], [((-2), 0)]), (110, .ireturn, 1, [0], [])]
noncomputable def cd142 : List (Nat × AI) := [(0, .iload_n 1, 1, [1], []), (1, .invokestatic 108, 3, [162, 1, 1, 11, 1], []), (4, .ifCond .eq 14, 3, [18], []), (7, .aload_n 0, 1, [0], []), (8, .getfield 70, 3, [11, 8, 2], []), (11, .iload_n 1, 1, [1], []), (12, .invokevirtual 307, 3, [35, 2, 1, 2, 5], []), (15, .goto 5, 3, [20], []), (18, .bipush (-2), 2, [], [((-2), 0)]), (20, .ireturn, 1, [0], [])]
noncomputable def cd143 : List (Nat × AI) := [(0, .iload_n 2, 1, [2], []), (1, .iconst 1, 1, [], [(1, 0)]), (2, .bipush 20, 2, [], [(20, 0)]), (4, .invokestatic 150, 3, [161, 3, 1, 11, 3], []), (7, .ifCond .eq 24, 3, [31], []), (10, .iload_n 1, 1, [1], []), (11, .iconst 0, 1, [], [(0, 0)]), (12, .iload_n 2, 1, [2], []), (13, .invokestatic 150, 3, [161, 3, 1, 11, 3], []), (16, .ifCond .eq 15, 3, [31], []), (19, .aload_n 0, 1, [0], []), (20, .getfield 70, 3, [11, 8, 2], []), (23, .iload_n 1, 1, [1], []), (24, .iload_n 2, 1, [2], []), (25, .invokevirtual 310, 3, [36, 3, 1, 2, 3], []), (28, .goto 5, 3, [33], []), (31, .bipush (-2), 2, [], [((-2), 0)]), (33, .ireturn, 1, [0], [])]
noncomputable def cd144 : List (Nat × AI) := [(0, .aload_n 0, 1, [0], []), (1, .getfield 70, 3, [11, 8, 2], []), (4, .invokevirtual 313, 3, [37, 1, 1, 2, 2], []), (7, .ireturn, 1, [0], [])]
noncomputable def cd145 : List (Nat × AI) := [(0, .iload_n 1, 1, [1], []), (1, .iconst 0, 1, [], [(0, 0)]), (2, .iconst 2, 1, [], [(2, 0)]), (3, .invokestatic 150, 3, [161, 3, 1, 11, 3], []), (6, .ifCond .eq 22, 3, [28], []), (9, .iload_n 2, 1, [2], []), (10, .iconst 0, 1, [], [(0, 0)]), (11, .iconst 1, 1, [], [(1, 0)]), (12, .invokestatic 150, 3, [161, 3, 1, 11, 3], []), (15, .ifCond .eq 13, 3, [28], []), (18, .aload_n 0, 1, [0], []), (19, .getfield 70, 3, [11, 8, 2], []), (22, .getfield 316, 3, [2, 9, 0], []), (25, .ifCond .ne 7, 3, [32], []), (28, .ldc2_w 319, 3, [], []), (31, .lreturn, 1, [], []), (32, .aload_n 0, 1, [0], []), (33, .getfield 70, 3, [11, 8, 2], []), (36, .iload_n 1, 1, [1], []), (37, .iload_n 2, 1, [2], []), (38, .invokevirtual 321, 3, [38, 3, 2, 2, 7], []), (41, .lreturn, 1, [], [])]
noncomputable def cd146 : List (Nat × AI) := [(0, .iload_n 1, 1, [1], []), (1, .iconst 1, 1, [], [(1, 0)]), (2, .bipush 30, 2, [], [(30, 0)]), (4, .invokestatic 150, 3, [161, 3, 1, 11, 3], []), (7, .ifCond .ne 6, 3, [13], []), (10, .bipush (-2), 2, [], [((-2), 0)]), (12, .ireturn, 1, [0], []), (13, .aload_n 0, 1, [0], []), (14, .getfield 81, 3, [11, 10, 0], []), (17, .istore_n 2, 1, [2], []), (18, .aload_n 0, 1, [0], []), (19, .iload_n 1, 1, [1], []), (20, .putfield 81, 3, [11, 10, 0], []), (23, .iload_n 2, 1, [2], []), (24, .ireturn, 1, [0], [])]
noncomputable def cd147 : List (Nat × AI) := [(0, .iload_n 1, 1, [1], []), (1, .iload_n 2, 1, [2], []), (2, .invokestatic 325, 3, [164, 2, 1, 11, 2], []), (5, .ifCond .eq 44, 3, [49], []), (8, .iload 5, 2, [5], []), (10, .iload 6, 2, [6], []), (12, .invokestatic 325, 3, [164, 2, 1, 11, 2], []), (15, .ifCond .eq 34, 3, [49], []), (18, .iload_n 3, 1, [3], []), (19, .bipush (-3), 2, [], [((-3), 0)]), (21, .iconst 3, 1, [], [(3, 0)]), (22, .invokestatic 150, 3, [161, 3, 1, 11, 3], []), (25, .ifCond .eq 24, 3, [49], []), (28, .iload 4, 2, [4], []), (30, .bipush (-3), 2, [], [((-3), 0)]), (32, .iconst 3, 1, [], [(3, 0)]), (33, .invokestatic 150, 3, [161, 3, 1, 11, 3], []), (36, .ifCond .eq 13, 3, [49], []), (39, .iload 7, 2, [7], []), (41, .iconst 1, 1, [], [(1, 0)]), (42, .iconst 5, 1, [], [(5, 0)]), (43, .invokestatic 150, 3, [161, 3, 1, 11, 3], []), (46, .ifCond .ne 6, 3, [52], []), (49, .bipush (-2), 2, [], [((-2), 0)]), (51, .ireturn, 1, [0], []), (52, .iconst 0, 1, [], [(0, 0)]), (53, .istore 8, 2, [8], []), (55, .iload 8, 2, [8], []), (57, .bipush 23, 2, [], [(23, 0)]), (59, .if_icmp .gt 81, 3, [140], []), (62, .iload_n 1, 1, [1], []), (63, .iload 8, 2, [8], []), (65, .iload_n 3, 1, [3], []), (66, .imul, 1, [], []), (67, .iadd, 1, [], []), (68, .istore 9, 2, [9], []), (70, .iload_n 2, 1, [2], []), (71, .iload 8, 2, [8], []), (73, .iload 4, 2, [4], []), (75, .imul, 1, [], []), (76, .iadd, 1, [], []), (77, .istore 10, 2, [10], []), (79, .iload 8, 2, [8], []), (81, .iload 7, 2, [7], []), (83, .imul, 1, [], []), (84, .istore 11, 2, [11], []), (86, .iload 9, 2, [9], []), (88, .iload 10, 2, [10], []), (90, .invokestatic 325, 3, [164, 2, 1, 11, 2], []), (93, .ifCond .eq 41, 3, [134], []), (96, .iload 9, 2, [9], []), (98, .aload_n 0, 1, [0], []), (99, .getfield 81, 3, [11, 10, 0], []), (102, .if_icmp .ge 32, 3, [134], []), (105, .iload 9, 2, [9], []), (107, .iload 5, 2, [5], []), (109, .isub, 1, [], []), (110, .invokestatic 329, 3, [3], []), (113, .iload 11, 2, [11], []), (115, .if_icmp .gt 19, 3, [134], []), (118, .iload 10, 2, [10], []), (120, .iload 6, 2, [6], []), (122, .isub, 1, [], []), (123, .invokestatic 329, 3, [3], []), (126, .iload 11, 2, [11], []), (128, .if_icmp .gt 6, 3, [134], []), (131, .iload 8, 2, [8], []), (133, .ireturn, 1, [0], []), (134, .iinc 8 1, 3, [8], [(1, 0)]), (137, .goto (-82), 3, [55], []), (140, .bipush (-9), 2, [], [((-9), 0)]), (142, .ireturn, 1, [0], [])]
noncomputable def cd148 : List (Nat × AI) := [(0, .iload_n 1, 1, [1], []), (1, .iconst 0, 1, [], [(0, 0)]), (2, .bipush 99, 2, [], [(99, 0)]), (4, .invokestatic 150, 3, [161, 3, 1, 11, 3], []), (7, .ifCond .eq 26, 3, [33], []), (10, .iload_n 2, 1, [2], []), (11, .iconst 0, 1, [], [(0, 0)]), (12, .sipush 999, 3, [], [(999, 0)]), (15, .invokestatic 150, 3, [161, 3, 1, 11, 3], []), (18, .ifCond .eq 15, 3, [33], []), (21, .aload_n 0, 1, [0], []), (22, .getfield 77, 3, [11, 9, 2], []), (25, .iload_n 1, 1, [1], []), (26, .iload_n 2, 1, [2], []), (27, .invokevirtual 334, 3, [95, 3, 1, 9, 3], []), (30, .goto 5, 3, [35], []), (33, .bipush (-2), 2, [], [((-2), 0)]), (35, .ireturn, 1, [0], [])]
noncomputable def cd149 : List (Nat × AI) := [(0, .aload_n 0, 1, [0], []), (1, .getfield 77, 3, [11, 9, 2], []), (4, .iload_n 1, 1, [1], []), (5, .invokevirtual 337, 3, [96, 2, 1, 9, 2], []), (8, .ifCond .ne 5, 3, [13], []), (11, .iconst (-1), 1, [], [((-1), 0)]), (12, .ireturn, 1, [0], []), (13, .iload_n 2, 1, [2], []), (14, .iconst 0, 1, [], [(0, 0)]), (15, .sipush 999, 3, [], [(999, 0)]), (18, .invokestatic 150, 3, [161, 3, 1, 11, 3], []), (21, .ifCond .eq 15, 3, [36], []), (24, .aload_n 0, 1, [0], []), (25, .getfield 77, 3, [11, 9, 2], []), (28, .iload_n 1, 1, [1], []), (29, .iload_n 2, 1, [2], []), (30, .invokevirtual 340, 3, [97, 3, 1, 9, 6], []), (33, .goto 5, 3, [38], []), (36, .bipush (-2), 2, [], [((-2), 0)]), (38, .ireturn, 1, [0], [])]
noncomputable def cd150 : List (Nat × AI) := [(0, .aload_n 0, 1, [0], []), (1, .getfield 77, 3, [11, 9, 2], []), (4, .iload_n 1, 1, [1], []), (5, .invokevirtual 337, 3, [96, 2, 1, 9, 2], []), (8, .ifCond .ne 5, 3, [13], []), (11, .iconst (-1), 1, [], [((-1), 0)]), (12, .ireturn, 1, [0], []), (13, .iload_n 2, 1, [2], []), (14, .tableswitch 94 0 4 #[34, 46, 58, 70, 82], 34, [108], [(0, 48), (1, 60), (2, 72), (3, 84), (4, 96)]), (48, .aload_n 0, 1, [0], []), (49, .getfield 77, 3, [11, 9, 2], []), (52, .getfield 343, 3, [9, 0, 2], []), (55, .iload_n 1, 1, [1], []), (56, .iaload, 1, [], []), (57, .goto 53, 3, [110], []), (60, .aload_n 0, 1, [0], []), (61, .getfield 77, 3, [11, 9, 2], []), (64, .getfield 346, 3, [9, 1, 2], []), (67, .iload_n 1, 1, [1], []), (68, .iaload, 1, [], []), (69, .goto 41, 3, [110], []), (72, .aload_n 0, 1, [0], []), (73, .getfield 77, 3, [11, 9, 2], []), (76, .getfield 349, 3, [9, 2, 2], []), (79, .iload_n 1, 1, [1], []), (80, .iaload, 1, [], []), (81, .goto 29, 3, [110], []), (84, .aload_n 0, 1, [0], []), (85, .getfield 77, 3, [11, 9, 2], []), (88, .getfield 352, 3, [9, 3, 2], []), (91, .iload_n 1, 1, [1], []), (92, .iaload, 1, [], []), (93, .goto 17, 3, [110], []), (96, .aload_n 0, 1, [0], []), (97, .getfield 77, 3, [11, 9, 2], []), (100, .getfield 355, 3, [9, 4, 2], []), (103, .iload_n 1, 1, [1], []), (104, .iaload, 1, [], []), (105, .goto 5, 3, [110], []), (108, .bipush (-2), 2, [], [((-2), 0)]), (110, .ireturn, 1, [0], [])]
noncomputable def cd151 : List (Nat × AI) := [(0, .aload_n 0, 1, [0], []), (1, .getfield 12, 3, [11, 0, 2], []), (4, .iload_n 1, 1, [1], []), (5, .iload_n 2, 1, [2], []), (6, .iload_n 3, 1, [3], []), (7, .invokevirtual 358, 3, [80, 4, 1, 7, 4], []), (10, .ireturn, 1, [0], [])]
noncomputable def cd152 : List (Nat × AI) := [(0, .iload_n 1, 1, [1], []), (1, .invokestatic 361, 3, [77, 1, 1, 7, 1], []), (4, .ifCond .eq 14, 3, [18], []), (7, .aload_n 0, 1, [0], []), (8, .getfield 12, 3, [11, 0, 2], []), (11, .iload_n 1, 1, [1], []), (12, .invokevirtual 364, 3, [81, 2, 1, 7, 3], []), (15, .goto 4, 3, [19], []), (18, .iconst (-1), 1, [], [((-1), 0)]), (19, .ireturn, 1, [0], [])]
noncomputable def cd153 : List (Nat × AI) := [(0, .aload_n 0, 1, [0], []), (1, .getfield 12, 3, [11, 0, 2], []), (4, .iload_n 1, 1, [1], []), (5, .iload_n 2, 1, [2], []), (6, .iload_n 3, 1, [3], []), (7, .invokevirtual 367, 3, [82, 4, 1, 7, 4], []), (10, .ireturn, 1, [0], [])]
noncomputable def cd154 : List (Nat × AI) := [(0, .aload_n 0, 1, [0], []), (1, .getfield 12, 3, [11, 0, 2], []), (4, .iload_n 1, 1, [1], []), (5, .iload_n 3, 1, [3], []), (6, .iconst 1, 1, [], [(1, 0)]), (7, .iload_n 2, 1, [2], []), (8, .iconst 1, 1, [], [(1, 0)]), (9, .invokevirtual 85, 3, [84, 6, 1, 7, 7], []), (12, .ifCond .ne 16, 3, [28], []), (15, .aload_n 0, 1, [0], []), (16, .getfield 12, 3, [11, 0, 2], []), (19, .getfield 89, 3, [7, 3, 2], []), (22, .iconst 0, 1, [], [(0, 0)]), (23, .iaload, 1, [], []), (24, .i2l, 1, [], []), (25, .goto 6, 3, [31], []), (28, .ldc2_w 319, 3, [], []), (31, .lreturn, 1, [], [])]
noncomputable def cd155 : List (Nat × AI) := [(0, .aload_n 0, 1, [0], []), (1, .getfield 56, 3, [11, 6, 2], []), (4, .iload_n 1, 1, [1], []), (5, .invokevirtual 226, 3, [8, 2, 1, 1, 2], []), (8, .ifCond .eq 14, 3, [22], []), (11, .aload_n 0, 1, [0], []), (12, .getfield 56, 3, [11, 6, 2], []), (15, .iload_n 1, 1, [1], []), (16, .invokevirtual 370, 3, [21, 2, 1, 1, 2], []), (19, .goto 4, 3, [23], []), (22, .iconst (-1), 1, [], [((-1), 0)]), (23, .ireturn, 1, [0], [])]
noncomputable def cd156 : List (Nat × AI) := [(0, .aload_n 0, 1, [0], []), (1, .getfield 56, 3, [11, 6, 2], []), (4, .iload_n 1, 1, [1], []), (5, .invokevirtual 226, 3, [8, 2, 1, 1, 2], []), (8, .ifCond .eq 14, 3, [22], []), (11, .aload_n 0, 1, [0], []), (12, .getfield 56, 3, [11, 6, 2], []), (15, .iload_n 1, 1, [1], []), (16, .invokevirtual 373, 3, [26, 2, 1, 1, 3], []), (19, .goto 4, 3, [23], []), (22, .iconst (-1), 1, [], [((-1), 0)]), (23, .ireturn, 1, [0], [])]
noncomputable def cd157 : List (Nat × AI) := [(0, .aload_n 0, 1, [0], []), (1, .getfield 12, 3, [11, 0, 2], []), (4, .iconst 0, 1, [], [(0, 0)]), (5, .putfield 376, 3, [7, 4, 0], []), (8, .aload_n 0, 1, [0], []), (9, .getfield 56, 3, [11, 6, 2], []), (12, .iload_n 1, 1, [1], []), (13, .invokevirtual 226, 3, [8, 2, 1, 1, 2], []), (16, .ifCond .ne 5, 3, [21], []), (19, .iconst (-1), 1, [], [((-1), 0)]), (20, .ireturn, 1, [0], []), (21, .iload_n 2, 1, [2], []), (22, .iconst 0, 1, [], [(0, 0)]), (23, .iconst 2, 1, [], [(2, 0)]), (24, .invokestatic 150, 3, [161, 3, 1, 11, 3], []), (27, .ifCond .ne 6, 3, [33], []), (30, .bipush (-2), 2, [], [((-2), 0)]), (32, .ireturn, 1, [0], []), (33, .aload_n 0, 1, [0], []), (34, .getfield 56, 3, [11, 6, 2], []), (37, .getfield 379, 3, [1, 0, 2], []), (40, .iload_n 1, 1, [1], []), (41, .iaload, 1, [], []), (42, .iload_n 2, 1, [2], []), (43, .if_icmp .lt 7, 3, [50], []), (46, .iconst 1, 1, [], [(1, 0)]), (47, .goto 11, 3, [58], []), (50, .aload_n 0, 1, [0], []), (51, .getfield 12, 3, [11, 0, 2], []), (54, .iconst 2, 1, [], [(2, 0)]), (55, .invokevirtual 382, 3, [79, 2, 1, 7, 2], []), (58, .ireturn, 1, [0], [])]
noncomputable def cd158 : List (Nat × AI) := [(0, .aload_n 0, 1, [0], []), (1, .getfield 56, 3, [11, 6, 2], []), (4, .getfield 385, 3, [1, 12, 0], []), (7, .ireturn, 1, [0], [])]
noncomputable def cd159 : List (Nat × AI) := [(0, .aload_n 0, 1, [0], []), (1, .getfield 12, 3, [11, 0, 2], []), (4, .getfield 376, 3, [7, 4, 0], []), (7, .ireturn, 1, [0], [])]
noncomputable def cd160 : List (Nat × AI) := [(0, .iload_n 1, 1, [1], []), (1, .tableswitch 183 0 11 #[63, 73, 83, 93, 103, 113, 123, 133, 143, 153, 163, 173], 63, [184], [(0, 64), (1, 74), (2, 84), (3, 94), (4, 104), (5, 114), (6, 124), (7, 134), (8, 144), (9, 154), (10, 164), (11, 174)]), (64, .aload_n 0, 1, [0], []), (65, .getfield 28, 3, [11, 2, 2], []), (68, .getfield 388, 3, [0, 1, 0], []), (71, .goto 115, 3, [186], []), (74, .aload_n 0, 1, [0], []), (75, .getfield 35, 3, [11, 3, 2], []), (78, .getfield 391, 3, [10, 9, 0], []), (81, .goto 105, 3, [186], []), (84, .aload_n 0, 1, [0], []), (85, .getfield 42, 3, [11, 4, 2], []), (88, .getfield 392, 3, [8, 5, 0], []), (91, .goto 95, 3, [186], []), (94, .aload_n 0, 1, [0], []), (95, .getfield 49, 3, [11, 5, 2], []), (98, .getfield 393, 3, [4, 7, 0], []), (101, .goto 85, 3, [186], []), (104, .aload_n 0, 1, [0], []), (105, .getfield 49, 3, [11, 5, 2], []), (108, .getfield 396, 3, [4, 8, 0], []), (111, .goto 75, 3, [186], []), (114, .aload_n 0, 1, [0], []), (115, .getfield 56, 3, [11, 6, 2], []), (118, .getfield 399, 3, [1, 9, 0], []), (121, .goto 65, 3, [186], []), (124, .aload_n 0, 1, [0], []), (125, .getfield 56, 3, [11, 6, 2], []), (128, .getfield 400, 3, [1, 10, 0], []), (131, .goto 55, 3, [186], []), (134, .aload_n 0, 1, [0], []), (135, .getfield 56, 3, [11, 6, 2], []), (138, .getfield 403, 3, [1, 11, 0], []), (141, .goto 45, 3, [186], []), (144, .aload_n 0, 1, [0], []), (145, .getfield 63, 3, [11, 7, 2], []), (148, .getfield 406, 3, [5, 2, 0], []), (151, .goto 35, 3, [186], []), (154, .aload_n 0, 1, [0], []), (155, .getfield 70, 3, [11, 8, 2], []), (158, .getfield 407, 3, [2, 7, 0], []), (161, .goto 25, 3, [186], []), (164, .aload_n 0, 1, [0], []), (165, .getfield 77, 3, [11, 9, 2], []), (168, .getfield 410, 3, [9, 5, 0], []), (171, .goto 15, 3, [186], []), (174, .aload_n 0, 1, [0], []), (175, .getfield 70, 3, [11, 8, 2], []), (178, .getfield 316, 3, [2, 9, 0], []), (181, .goto 5, 3, [186], []), (184, .bipush (-2), 2, [], [((-2), 0)]), (186, .ireturn, 1, [0], [])]
noncomputable def cd161 : List (Nat × AI) := [(0, .iload_n 0, 1, [0], []), (1, .iload_n 1, 1, [1], []), (2, .if_icmp .lt 12, 3, [14], []), (5, .iload_n 0, 1, [0], []), (6, .iload_n 2, 1, [2], []), (7, .if_icmp .gt 7, 3, [14], []), (10, .iconst 1, 1, [], [(1, 0)]), (11, .goto 4, 3, [15], []), (14, .iconst 0, 1, [], [(0, 0)]), (15, .ireturn, 1, [1], [])]
noncomputable def cd162 : List (Nat × AI) := [(0, .iload_n 0, 1, [0], []), (1, .iconst 0, 1, [], [(0, 0)]), (2, .bipush 99, 2, [], [(99, 0)]), (4, .invokestatic 150, 3, [161, 3, 1, 11, 3], []), (7, .ireturn, 1, [1], [])]
noncomputable def cd163 : List (Nat × AI) := [(0, .iload_n 0, 1, [0], []), (1, .iconst 0, 1, [], [(0, 0)]), (2, .iconst 3, 1, [], [(3, 0)]), (3, .invokestatic 150, 3, [161, 3, 1, 11, 3], []), (6, .ifCond .eq 35, 3, [41], []), (9, .iload_n 1, 1, [1], []), (10, .iconst 0, 1, [], [(0, 0)]), (11, .iconst 3, 1, [], [(3, 0)]), (12, .invokestatic 150, 3, [161, 3, 1, 11, 3], []), (15, .ifCond .eq 26, 3, [41], []), (18, .iload_n 2, 1, [2], []), (19, .iconst 0, 1, [], [(0, 0)]), (20, .bipush 99, 2, [], [(99, 0)]), (22, .invokestatic 150, 3, [161, 3, 1, 11, 3], []), (25, .ifCond .eq 16, 3, [41], []), (28, .iload_n 3, 1, [3], []), (29, .iconst 0, 1, [], [(0, 0)]), (30, .iconst 4, 1, [], [(4, 0)]), (31, .invokestatic 150, 3, [161, 3, 1, 11, 3], []), (34, .ifCond .eq 7, 3, [41], []), (37, .iconst 1, 1, [], [(1, 0)]), (38, .goto 4, 3, [42], []), (41, .iconst 0, 1, [], [(0, 0)]), (42, .ireturn, 1, [1], [])]
noncomputable def cd164 : List (Nat × AI) := [(0, .iload_n 0, 1, [0], []), (1, .iconst 0, 1, [], [(0, 0)]), (2, .bipush 30, 2, [], [(30, 0)]), (4, .invokestatic 150, 3, [161, 3, 1, 11, 3], []), (7, .ifCond .eq 17, 3, [24], []), (10, .iload_n 1, 1, [1], []), (11, .iconst 0, 1, [], [(0, 0)]), (12, .bipush 30, 2, [], [(30, 0)]), (14, .invokestatic 150, 3, [161, 3, 1, 11, 3], []), (17, .ifCond .eq 7, 3, [24], []), (20, .iconst 1, 1, [], [(1, 0)]), (21, .goto 4, 3, [25], []), (24, .iconst 0, 1, [], [(0, 0)]), (25, .ireturn, 1, [1], [])]
noncomputable def cd165_0 : List (Nat × AI) := [(0, .aload_n 0, 1, [0], []), (1, .invokespecial 1, 3, [], []), (4, .aload_n 0, 1, [0], []), (5, .iconst 4, 1, [], [(4, 0)]), (6, .newarray .int, 2, [0], []), (8, .dup, 1, [], []), (9, .iconst 0, 1, [], [(0, 0)]), (10, .bipush (-9), 2, [], [((-9), 0)]), (12, .iastore, 1, [], []), (13, .dup, 1, [], []), (14, .iconst 1, 1, [], [(1, 0)]), (15, .bipush (-9), 2, [], [((-9), 0)]), (17, .iastore, 1, [], []), (18, .dup, 1, [], []), (19, .iconst 2, 1, [], [(2, 0)]), (20, .bipush (-9), 2, [], [((-9), 0)]), (22, .iastore, 1, [], []), (23, .dup, 1, [], []), (24, .iconst 3, 1, [], [(3, 0)]), (25, .bipush (-9), 2, [], [((-9), 0)]), (27, .iastore, 1, [], []), (28, .putfield 9, 3, [12, 2, 2], []), (31, .aload_n 0, 1, [0], []), (32, .iconst 4, 1, [], [(4, 0)]), (33, .newarray .int, 2, [0], []), (35, .putfield 13, 3, [12, 3, 2], []), (38, .aload_n 0, 1, [0], []), (39, .sipush 240, 3, [], [(240, 0)]), (42, .newarray .int, 2, [0], []), (44, .putfield 16, 3, [12, 4, 2], []), (47, .aload_n 0, 1, [0], []), (48, .bipush 25, 2, [], [(25, 0)]), (50, .newarray .int, 2, [0], []), (52, .putfield 19, 3, [12, 6, 2], []), (55, .aload_n 0, 1, [0], []), (56, .bipush 25, 2, [], [(25, 0)]), (58, .newarray .int, 2, [0], []), (60, .putfield 22, 3, [12, 7, 2], []), (63, .aload_n 0, 1, [0], []), (64, .bipush 25, 2, [], [(25, 0)]), (66, .newarray .int, 2, [0], []), (68, .putfield 25, 3, [12, 8, 2], []), (71, .aload_n 0, 1, [0], []), (72, .bipush 25, 2, [], [(25, 0)]), (74, .newarray .int, 2, [0], []), (76, .putfield 28, 3, [12, 9, 2], []), (79, .aload_n 0, 1, [0], []), (80, .bipush 25, 2, [], [(25, 0)]), (82, .newarray .int, 2, [0], []), (84, .putfield 31, 3, [12, 10, 2], []), (87, .aload_n 0, 1, [0], []), (88, .bipush 25, 2, [], [(25, 0)]), (90, .newarray .int, 2, [0], []), (92, .putfield 34, 3, [12, 11, 2], []), (95, .aload_n 0, 1, [0], []), (96, .bipush 25, 2, [], [(25, 0)]), (98, .newarray .int, 2, [0], []), (100, .putfield 37, 3, [12, 12, 2], []), (103, .aload_n 0, 1, [0], []), (104, .bipush 24, 2, [], [(24, 0)]), (106, .newarray .int, 2, [0], []), (108, .putfield 40, 3, [12, 17, 2], []), (111, .aload_n 0, 1, [0], []), (112, .bipush 24, 2, [], [(24, 0)]), (114, .newarray .int, 2, [0], []), (116, .putfield 43, 3, [12, 18, 2], []), (119, .aload_n 0, 1, [0], []), (120, .bipush 24, 2, [], [(24, 0)]), (122, .newarray .int, 2, [0], []), (124, .putfield 46, 3, [12, 19, 2], []), (127, .aload_n 0, 1, [0], []), (128, .bipush 24, 2, [], [(24, 0)]), (130, .newarray .int, 2, [0], []), (132, .putfield 49, 3, [12, 20, 2], []), (135, .aload_n 0, 1, [0], []), (136, .bipush 24, 2, [], [(24, 0)]), (138, .newarray .int, 2, [0], []), (140, .putfield 52, 3, [12, 21, 2], []), (143, .aload_n 0, 1, [0], []), (144, .bipush 24, 2, [], [(24, 0)]), (146, .newarray .int, 2, [0], []), (148, .putfield 55, 3, [12, 22, 2], []), (151, .aload_n 0, 1, [0], []), (152, .bipush 12, 2, [], [(12, 0)]), (154, .newarray .int, 2, [0], []), (156, .putfield 58, 3, [12, 23, 2], []), (159, .aload_n 0, 1, [0], []), (160, .bipush 12, 2, [], [(12, 0)]), (162, .newarray .int, 2, [0], []), (164, .putfield 61, 3, [12, 24, 2], []), (167, .aload_n 0, 1, [0], []), (168, .bipush 6, 2, [], [(6, 0)]), (170, .newarray .int, 2, [0], []), (172, .putfield 64, 3, [12, 26, 2], []), (175, .aload_n 0, 1, [0], []), (176, .bipush 40, 2, [], [(40, 0)]), (178, .newarray .int, 2, [0], []), (180, .putfield 67, 3, [12, 28, 2], []), (183, .aload_n 0, 1, [0], []), (184, .bipush 40, 2, [], [(40, 0)])]
noncomputable def cd165_1 : List (Nat × AI) := [(186, .newarray .int, 2, [0], []), (188, .putfield 70, 3, [12, 29, 2], []), (191, .aload_n 0, 1, [0], []), (192, .bipush 40, 2, [], [(40, 0)]), (194, .newarray .int, 2, [0], []), (196, .putfield 73, 3, [12, 30, 2], []), (199, .aload_n 0, 1, [0], []), (200, .bipush 8, 2, [], [(8, 0)]), (202, .newarray .int, 2, [0], []), (204, .putfield 76, 3, [12, 32, 2], []), (207, .aload_n 0, 1, [0], []), (208, .bipush 96, 2, [], [(96, 0)]), (210, .newarray .int, 2, [0], []), (212, .putfield 79, 3, [12, 33, 2], []), (215, .aload_n 0, 1, [0], []), (216, .bipush 12, 2, [], [(12, 0)]), (218, .newarray .int, 2, [0], []), (220, .putfield 82, 3, [12, 35, 2], []), (223, .aload_n 0, 1, [0], []), (224, .bipush 12, 2, [], [(12, 0)]), (226, .newarray .int, 2, [0], []), (228, .putfield 85, 3, [12, 36, 2], []), (231, .aload_n 0, 1, [0], []), (232, .bipush 12, 2, [], [(12, 0)]), (234, .newarray .int, 2, [0], []), (236, .putfield 88, 3, [12, 37, 2], []), (239, .aload_n 0, 1, [0], []), (240, .sipush 144, 3, [], [(144, 0)]), (243, .newarray .int, 2, [0], []), (245, .putfield 91, 3, [12, 38, 2], []), (248, .aload_n 0, 1, [0], []), (249, .bipush 12, 2, [], [(12, 0)]), (251, .newarray .int, 2, [0], []), (253, .putfield 94, 3, [12, 39, 2], []), (256, .aload_n 0, 1, [0], []), (257, .bipush 12, 2, [], [(12, 0)]), (259, .newarray .int, 2, [0], []), (261, .putfield 97, 3, [12, 41, 2], []), (264, .aload_n 0, 1, [0], []), (265, .bipush 12, 2, [], [(12, 0)]), (267, .newarray .int, 2, [0], []), (269, .putfield 100, 3, [12, 42, 2], []), (272, .aload_n 0, 1, [0], []), (273, .bipush 60, 2, [], [(60, 0)]), (275, .newarray .int, 2, [0], []), (277, .putfield 103, 3, [12, 45, 2], []), (280, .aload_n 0, 1, [0], []), (281, .bipush 60, 2, [], [(60, 0)]), (283, .newarray .int, 2, [0], []), (285, .putfield 106, 3, [12, 46, 2], []), (288, .aload_n 0, 1, [0], []), (289, .bipush 60, 2, [], [(60, 0)]), (291, .newarray .boolean, 2, [1], []), (293, .putfield 109, 3, [12, 47, 2], []), (296, .aload_n 0, 1, [0], []), (297, .bipush 60, 2, [], [(60, 0)]), (299, .newarray .int, 2, [0], []), (301, .putfield 113, 3, [12, 48, 2], []), (304, .aload_n 0, 1, [0], []), (305, .bipush 12, 2, [], [(12, 0)]), (307, .newarray .int, 2, [0], []), (309, .putfield 116, 3, [12, 49, 2], []), (312, .aload_n 0, 1, [0], []), (313, .bipush 24, 2, [], [(24, 0)]), (315, .newarray .int, 2, [0], []), (317, .putfield 119, 3, [12, 57, 2], []), (320, .aload_n 0, 1, [0], []), (321, .bipush 24, 2, [], [(24, 0)]), (323, .newarray .boolean, 2, [1], []), (325, .putfield 122, 3, [12, 58, 2], []), (328, .aload_n 0, 1, [0], []), (329, .iconst 1, 1, [], [(1, 0)]), (330, .putfield 125, 3, [12, 59, 0], []), (333, .aload_n 0, 1, [0], []), (334, .sipush 300, 3, [], [(300, 0)]), (337, .putfield 129, 3, [12, 60, 0], []), (340, .aload_n 0, 1, [0], []), (341, .bipush 30, 2, [], [(30, 0)]), (343, .newarray .int, 2, [0], []), (345, .putfield 132, 3, [12, 62, 2], []), (348, .aload_n 0, 1, [0], []), (349, .bipush 30, 2, [], [(30, 0)]), (351, .newarray .int, 2, [0], []), (353, .putfield 135, 3, [12, 63, 2], []), (356, .aload_n 0, 1, [0], []), (357, .bipush 30, 2, [], [(30, 0)]), (359, .newarray .int, 2, [0], []), (361, .putfield 138, 3, [12, 64, 2], []), (364, .aload_n 0, 1, [0], []), (365, .bipush 30, 2, [], [(30, 0)]), (367, .newarray .int, 2, [0], []), (369, .putfield 141, 3, [12, 65, 2], []), (372, .aload_n 0, 1, [0], []), (373, .bipush 30, 2, [], [(30, 0)]), (375, .newarray .int, 2, [0], []), (377, .putfield 144, 3, [12, 66, 2], []), (380, .aload_n 0, 1, [0], []), (381, .bipush 12, 2, [], [(12, 0)]), (383, .newarray .int, 2, [0], []), (385, .putfield 147, 3, [12, 68, 2], [])]
noncomputable def cd165_2 : List (Nat × AI) := [(388, .aload_n 0, 1, [0], []), (389, .bipush 12, 2, [], [(12, 0)]), (391, .newarray .int, 2, [0], []), (393, .putfield 150, 3, [12, 69, 2], []), (396, .aload_n 0, 1, [0], []), (397, .iconst 3, 1, [], [(3, 0)]), (398, .putfield 153, 3, [12, 70, 0], []), (401, .aload_n 0, 1, [0], []), (402, .bipush 6, 2, [], [(6, 0)]), (404, .newarray .int, 2, [0], []), (406, .putfield 156, 3, [12, 72, 2], []), (409, .aload_n 0, 1, [0], []), (410, .bipush 6, 2, [], [(6, 0)]), (412, .newarray .int, 2, [0], []), (414, .putfield 159, 3, [12, 73, 2], []), (417, .aload_n 0, 1, [0], []), (418, .bipush 6, 2, [], [(6, 0)]), (420, .newarray .int, 2, [0], []), (422, .putfield 162, 3, [12, 74, 2], []), (425, .aload_n 0, 1, [0], []), (426, .bipush 6, 2, [], [(6, 0)]), (428, .newarray .int, 2, [0], []), (430, .putfield 165, 3, [12, 75, 2], []), (433, .aload_n 0, 1, [0], []), (434, .bipush 6, 2, [], [(6, 0)]), (436, .newarray .int, 2, [0], []), (438, .putfield 168, 3, [12, 76, 2], []), (441, .return_, 1, [], [])]
noncomputable def cd165 : List (Nat × AI) := cd165_0 ++ (cd165_1 ++ (cd165_2))
noncomputable def cd166 : List (Nat × AI) := [(0, .aload_n 0, 1, [0], []), (1, .iload_n 1, 1, [1], []), (2, .putfield 171, 3, [12, 0, 0], []), (5, .bipush (-10), 2, [], [((-10), 0)]), (7, .iload_n 1, 1, [1], []), (8, .isub, 1, [], []), (9, .ireturn, 1, [0], [])]
noncomputable def cd167 : List (Nat × AI) := [(0, .aload_n 0, 1, [0], []), (1, .iload_n 1, 1, [1], []), (2, .putfield 171, 3, [12, 0, 0], []), (5, .ldc2_w 174, 3, [], []), (8, .lreturn, 1, [], [])]
noncomputable def cd168 : List (Nat × AI) := [(0, .iload_n 0, 1, [0], []), (1, .iload_n 1, 1, [1], []), (2, .if_icmp .lt 12, 3, [14], []), (5, .iload_n 0, 1, [0], []), (6, .iload_n 2, 1, [2], []), (7, .if_icmp .gt 7, 3, [14], []), (10, .iconst 1, 1, [], [(1, 0)]), (11, .goto 4, 3, [15], []), (14, .iconst 0, 1, [], [(0, 0)]), (15, .ireturn, 1, [1], [])]
noncomputable def cd169 : List (Nat × AI) := [(0, .iload_n 0, 1, [0], []), (1, .iconst 0, 1, [], [(0, 0)]), (2, .bipush 99, 2, [], [(99, 0)]), (4, .invokestatic 176, 3, [168, 3, 1, 12, 3], []), (7, .ireturn, 1, [1], [])]
noncomputable def cd170 : List (Nat × AI) := [(0, .iload_n 0, 1, [0], []), (1, .iconst 0, 1, [], [(0, 0)]), (2, .iconst 3, 1, [], [(3, 0)]), (3, .invokestatic 176, 3, [168, 3, 1, 12, 3], []), (6, .ireturn, 1, [1], [])]
noncomputable def cd171 : List (Nat × AI) := [(0, .iload_n 0, 1, [0], []), (1, .iconst 0, 1, [], [(0, 0)]), (2, .iconst 2, 1, [], [(2, 0)]), (3, .invokestatic 176, 3, [168, 3, 1, 12, 3], []), (6, .ireturn, 1, [1], [])]
noncomputable def cd172 : List (Nat × AI) := [(0, .aload_n 0, 1, [0], []), (1, .getfield 9, 3, [12, 2, 2], []), (4, .iload_n 1, 1, [1], []), (5, .iaload, 1, [], []), (6, .bipush (-9), 2, [], [((-9), 0)]), (8, .if_icmp .eq 19, 3, [27], []), (11, .aload_n 0, 1, [0], []), (12, .getfield 9, 3, [12, 2, 2], []), (15, .iload_n 1, 1, [1], []), (16, .iaload, 1, [], []), (17, .iload_n 2, 1, [2], []), (18, .if_icmp .eq 9, 3, [27], []), (21, .aload_n 0, 1, [0], []), (22, .iconst 2, 1, [], [(2, 0)]), (23, .invokevirtual 180, 3, [166, 2, 1, 12, 2], []), (26, .ireturn, 1, [0], []), (27, .aload_n 0, 1, [0], []), (28, .getfield 9, 3, [12, 2, 2], []), (31, .iload_n 1, 1, [1], []), (32, .iaload, 1, [], []), (33, .bipush (-9), 2, [], [((-9), 0)]), (35, .if_icmp .ne 9, 3, [44], []), (38, .aload_n 0, 1, [0], []), (39, .iconst 1, 1, [], [(1, 0)]), (40, .invokevirtual 180, 3, [166, 2, 1, 12, 2], []), (43, .ireturn, 1, [0], []), (44, .iload 4, 2, [4], []), (46, .ifCond .ge 9, 3, [55], []), (49, .aload_n 0, 1, [0], []), (50, .iconst 4, 1, [], [(4, 0)]), (51, .invokevirtual 180, 3, [166, 2, 1, 12, 2], []), (54, .ireturn, 1, [0], []), (55, .iload_n 3, 1, [3], []), (56, .ifCond .lt 26, 3, [82], []), (59, .iload_n 3, 1, [3], []), (60, .aload_n 0, 1, [0], []), (61, .getfield 13, 3, [12, 3, 2], []), (64, .iload_n 1, 1, [1], []), (65, .iaload, 1, [], []), (66, .if_icmp .gt 16, 3, [82], []), (69, .iload 4, 2, [4], []), (71, .aload_n 0, 1, [0], []), (72, .getfield 13, 3, [12, 3, 2], []), (75, .iload_n 1, 1, [1], []), (76, .iaload, 1, [], []), (77, .iload_n 3, 1, [3], []), (78, .isub, 1, [], []), (79, .if_icmp .le 9, 3, [88], []), (82, .aload_n 0, 1, [0], []), (83, .iconst 3, 1, [], [(3, 0)]), (84, .invokevirtual 180, 3, [166, 2, 1, 12, 2], []), (87, .ireturn, 1, [0], []), (88, .iconst 0, 1, [], [(0, 0)]), (89, .ireturn, 1, [0], [])]
noncomputable def cd173 : List (Nat × AI) := [(0, .iload_n 0, 1, [0], []), (1, .lookupswitch 51 #[(99, 47), (107, 49), (109, 43), (115, 45)], 43, [52], [(99, 48), (107, 50), (109, 44), (115, 46)]), (44, .iconst 0, 1, [], [(0, 0)]), (45, .ireturn, 1, [0], []), (46, .iconst 1, 1, [], [(1, 0)]), (47, .ireturn, 1, [0], []), (48, .iconst 2, 1, [], [(2, 0)]), (49, .ireturn, 1, [0], []), (50, .iconst 3, 1, [], [(3, 0)]), (51, .ireturn, 1, [0], []), (52, .bipush (-9), 2, [], [((-9), 0)]), (54, .ireturn, 1, [0], [])]
noncomputable def cd174 : List (Nat × AI) := [(0, .iload_n 0, 1, [0], []), (1, .lookupswitch 51 #[(100, 43), (101, 47), (112, 45), (118, 49)], 43, [52], [(100, 44), (101, 48), (112, 46), (118, 50)]), (44, .iconst 0, 1, [], [(0, 0)]), (45, .ireturn, 1, [0], []), (46, .iconst 1, 1, [], [(1, 0)]), (47, .ireturn, 1, [0], []), (48, .iconst 2, 1, [], [(2, 0)]), (49, .ireturn, 1, [0], []), (50, .iconst 3, 1, [], [(3, 0)]), (51, .ireturn, 1, [0], []), (52, .bipush (-9), 2, [], [((-9), 0)]), (54, .ireturn, 1, [0], [])]
noncomputable def cd175 : List (Nat × AI) := [(0, .aload_n 0, 1, [0], []), (1, .getfield 184, 3, [12, 13, 0], []), (4, .aload_n 0, 1, [0], []), (5, .getfield 187, 3, [12, 14, 0], []), (8, .if_icmp .ge 15, 3, [23], []), (11, .aload_n 0, 1, [0], []), (12, .getfield 16, 3, [12, 4, 2], []), (15, .aload_n 0, 1, [0], []), (16, .getfield 184, 3, [12, 13, 0], []), (19, .iaload, 1, [], []), (20, .goto 5, 3, [25], []), (23, .bipush (-9), 2, [], [((-9), 0)]), (25, .ireturn, 1, [0], [])]
noncomputable def cd176 : List (Nat × AI) := [(0, .iconst 0, 1, [], [(0, 0)]), (1, .istore_n 1, 1, [1], []), (2, .iconst 0, 1, [], [(0, 0)]), (3, .istore_n 2, 1, [2], []), (4, .iload_n 1, 1, [1], []), (5, .iconst 2, 1, [], [(2, 0)]), (6, .if_icmp .ge 46, 3, [52], []), (9, .aload_n 0, 1, [0], []), (10, .invokevirtual 190, 3, [175, 1, 1, 12, 1], []), (13, .bipush 48, 2, [], [(48, 0)]), (15, .bipush 57, 2, [], [(57, 0)]), (17, .invokestatic 176, 3, [168, 3, 1, 12, 3], []), (20, .ifCond .eq 32, 3, [52], []), (23, .bipush 10, 2, [], [(10, 0)]), (25, .iload_n 2, 1, [2], []), (26, .imul, 1, [], []), (27, .aload_n 0, 1, [0], []), (28, .invokevirtual 190, 3, [175, 1, 1, 12, 1], []), (31, .iadd, 1, [], []), (32, .bipush 48, 2, [], [(48, 0)]), (34, .isub, 1, [], []), (35, .istore_n 2, 1, [2], []), (36, .aload_n 0, 1, [0], []), (37, .dup, 1, [], []), (38, .getfield 184, 3, [12, 13, 0], []), (41, .iconst 1, 1, [], [(1, 0)]), (42, .iadd, 1, [], []), (43, .putfield 184, 3, [12, 13, 0], []), (46, .iinc 1 1, 3, [1], [(1, 0)]), (49, .goto (-45), 3, [4], []), (52, .aload_n 0, 1, [0], []), (53, .dup, 1, [], []), (54, .getfield 194, 3, [12, 15, 3], []), (57, .iload_n 1, 1, [1], []), (58, .ifCond .ne 7, 3, [65], []), (61, .iconst 1, 1, [], [(1, 0)]), (62, .goto 4, 3, [66], []), (65, .iconst 0, 1, [], [(0, 0)]), (66, .ior, 1, [], []), (67, .putfield 194, 3, [12, 15, 3], []), (70, .iload_n 2, 1, [2], []), (71, .ireturn, 1, [0], [])]
noncomputable def cd177 : List (Nat × AI) := [(0, .aload_n 0, 1, [0], []), (1, .invokevirtual 190, 3, [175, 1, 1, 12, 1], []), (4, .iload_n 1, 1, [1], []), (5, .if_icmp .ne 23, 3, [28], []), (8, .aload_n 0, 1, [0], []), (9, .getfield 194, 3, [12, 15, 3], []), (12, .ifCond .ne 16, 3, [28], []), (15, .aload_n 0, 1, [0], []), (16, .dup, 1, [], []), (17, .getfield 184, 3, [12, 13, 0], []), (20, .iconst 1, 1, [], [(1, 0)]), (21, .iadd, 1, [], []), (22, .putfield 184, 3, [12, 13, 0], []), (25, .goto 8, 3, [33], []), (28, .aload_n 0, 1, [0], []), (29, .iconst 1, 1, [], [(1, 0)]), (30, .putfield 194, 3, [12, 15, 3], []), (33, .return_, 1, [], [])]
noncomputable def cd178_0 : List (Nat × AI) := [(0, .aload_n 0, 1, [0], []), (1, .iload_n 1, 1, [1], []), (2, .putfield 184, 3, [12, 13, 0], []), (5, .aload_n 0, 1, [0], []), (6, .iload_n 1, 1, [1], []), (7, .iload_n 2, 1, [2], []), (8, .iadd, 1, [], []), (9, .putfield 187, 3, [12, 14, 0], []), (12, .aload_n 0, 1, [0], []), (13, .iconst 0, 1, [], [(0, 0)]), (14, .putfield 194, 3, [12, 15, 3], []), (17, .bipush 24, 2, [], [(24, 0)]), (19, .istore_n 3, 1, [3], []), (20, .aload_n 0, 1, [0], []), (21, .getfield 19, 3, [12, 6, 2], []), (24, .iload_n 3, 1, [3], []), (25, .aload_n 0, 1, [0], []), (26, .invokevirtual 190, 3, [175, 1, 1, 12, 1], []), (29, .invokestatic 198, 3, [173, 1, 1, 12, 1], []), (32, .iastore, 1, [], []), (33, .aload_n 0, 1, [0], []), (34, .getfield 19, 3, [12, 6, 2], []), (37, .iload_n 3, 1, [3], []), (38, .iaload, 1, [], []), (39, .bipush (-9), 2, [], [((-9), 0)]), (41, .if_icmp .ne 10, 3, [51], []), (44, .aload_n 0, 1, [0], []), (45, .getfield 184, 3, [12, 13, 0], []), (48, .iload_n 1, 1, [1], []), (49, .isub, 1, [], []), (50, .ireturn, 1, [0], []), (51, .aload_n 0, 1, [0], []), (52, .dup, 1, [], []), (53, .getfield 184, 3, [12, 13, 0], []), (56, .iconst 1, 1, [], [(1, 0)]), (57, .iadd, 1, [], []), (58, .putfield 184, 3, [12, 13, 0], []), (61, .aload_n 0, 1, [0], []), (62, .invokevirtual 190, 3, [175, 1, 1, 12, 1], []), (65, .bipush 42, 2, [], [(42, 0)]), (67, .if_icmp .eq 24, 3, [91], []), (70, .aload_n 0, 1, [0], []), (71, .invokevirtual 190, 3, [175, 1, 1, 12, 1], []), (74, .bipush 48, 2, [], [(48, 0)]), (76, .bipush 51, 2, [], [(51, 0)]), (78, .invokestatic 176, 3, [168, 3, 1, 12, 3], []), (81, .ifCond .ne 10, 3, [91], []), (84, .aload_n 0, 1, [0], []), (85, .getfield 184, 3, [12, 13, 0], []), (88, .iload_n 1, 1, [1], []), (89, .isub, 1, [], []), (90, .ireturn, 1, [0], []), (91, .aload_n 0, 1, [0], []), (92, .getfield 22, 3, [12, 7, 2], []), (95, .iload_n 3, 1, [3], []), (96, .aload_n 0, 1, [0], []), (97, .invokevirtual 190, 3, [175, 1, 1, 12, 1], []), (100, .bipush 42, 2, [], [(42, 0)]), (102, .if_icmp .ne 7, 3, [109], []), (105, .iconst 4, 1, [], [(4, 0)]), (106, .goto 10, 3, [116], []), (109, .aload_n 0, 1, [0], []), (110, .invokevirtual 190, 3, [175, 1, 1, 12, 1], []), (113, .bipush 48, 2, [], [(48, 0)]), (115, .isub, 1, [], []), (116, .iastore, 1, [], []), (117, .aload_n 0, 1, [0], []), (118, .dup, 1, [], []), (119, .getfield 184, 3, [12, 13, 0], []), (122, .iconst 1, 1, [], [(1, 0)]), (123, .iadd, 1, [], []), (124, .putfield 184, 3, [12, 13, 0], []), (127, .aload_n 0, 1, [0], []), (128, .getfield 25, 3, [12, 8, 2], []), (131, .iload_n 3, 1, [3], []), (132, .bipush (-9), 2, [], [((-9), 0)]), (134, .iastore, 1, [], []), (135, .aload_n 0, 1, [0], []), (136, .invokevirtual 190, 3, [175, 1, 1, 12, 1], []), (139, .bipush 62, 2, [], [(62, 0)]), (141, .if_icmp .ne 23, 3, [164], []), (144, .aload_n 0, 1, [0], []), (145, .dup, 1, [], []), (146, .getfield 184, 3, [12, 13, 0], []), (149, .iconst 1, 1, [], [(1, 0)]), (150, .iadd, 1, [], []), (151, .putfield 184, 3, [12, 13, 0], []), (154, .aload_n 0, 1, [0], []), (155, .getfield 25, 3, [12, 8, 2], []), (158, .iload_n 3, 1, [3], []), (159, .aload_n 0, 1, [0], []), (160, .invokevirtual 201, 3, [176, 1, 1, 12, 3], []), (163, .iastore, 1, [], []), (164, .aload_n 0, 1, [0], []), (165, .bipush 64, 2, [], [(64, 0)]), (167, .invokevirtual 204, 3, [177, 2, 0, 12, 2], []), (170, .aload_n 0, 1, [0], []), (171, .getfield 194, 3, [12, 15, 3], []), (174, .ifCond .ne 13, 3, [187], []), (177, .aload_n 0, 1, [0], [])]
noncomputable def cd178_1 : List (Nat × AI) := [(178, .getfield 28, 3, [12, 9, 2], []), (181, .iload_n 3, 1, [3], []), (182, .aload_n 0, 1, [0], []), (183, .invokevirtual 201, 3, [176, 1, 1, 12, 3], []), (186, .iastore, 1, [], []), (187, .aload_n 0, 1, [0], []), (188, .bipush 45, 2, [], [(45, 0)]), (190, .invokevirtual 204, 3, [177, 2, 0, 12, 2], []), (193, .aload_n 0, 1, [0], []), (194, .getfield 194, 3, [12, 15, 3], []), (197, .ifCond .ne 13, 3, [210], []), (200, .aload_n 0, 1, [0], []), (201, .getfield 31, 3, [12, 10, 2], []), (204, .iload_n 3, 1, [3], []), (205, .aload_n 0, 1, [0], []), (206, .invokevirtual 201, 3, [176, 1, 1, 12, 3], []), (209, .iastore, 1, [], []), (210, .aload_n 0, 1, [0], []), (211, .getfield 194, 3, [12, 15, 3], []), (214, .ifCond .eq 10, 3, [224], []), (217, .aload_n 0, 1, [0], []), (218, .getfield 184, 3, [12, 13, 0], []), (221, .iload_n 1, 1, [1], []), (222, .isub, 1, [], []), (223, .ireturn, 1, [0], []), (224, .aload_n 0, 1, [0], []), (225, .getfield 34, 3, [12, 11, 2], []), (228, .iload_n 3, 1, [3], []), (229, .iconst 0, 1, [], [(0, 0)]), (230, .iastore, 1, [], []), (231, .aload_n 0, 1, [0], []), (232, .getfield 37, 3, [12, 12, 2], []), (235, .iload_n 3, 1, [3], []), (236, .bipush (-9), 2, [], [((-9), 0)]), (238, .iastore, 1, [], []), (239, .aload_n 0, 1, [0], []), (240, .getfield 184, 3, [12, 13, 0], []), (243, .aload_n 0, 1, [0], []), (244, .getfield 187, 3, [12, 14, 0], []), (247, .if_icmp .ne 6, 3, [253], []), (250, .bipush (-9), 2, [], [((-9), 0)]), (252, .ireturn, 1, [0], []), (253, .aload_n 0, 1, [0], []), (254, .invokevirtual 190, 3, [175, 1, 1, 12, 1], []), (257, .bipush 33, 2, [], [(33, 0)]), (259, .if_icmp .eq 10, 3, [269], []), (262, .aload_n 0, 1, [0], []), (263, .getfield 184, 3, [12, 13, 0], []), (266, .iload_n 1, 1, [1], []), (267, .isub, 1, [], []), (268, .ireturn, 1, [0], []), (269, .aload_n 0, 1, [0], []), (270, .dup, 1, [], []), (271, .getfield 184, 3, [12, 13, 0], []), (274, .iconst 1, 1, [], [(1, 0)]), (275, .iadd, 1, [], []), (276, .putfield 184, 3, [12, 13, 0], []), (279, .iconst 1, 1, [], [(1, 0)]), (280, .istore 4, 2, [4], []), (282, .iload 4, 2, [4], []), (284, .ifCond .eq 85, 3, [369], []), (287, .aload_n 0, 1, [0], []), (288, .invokevirtual 190, 3, [175, 1, 1, 12, 1], []), (291, .invokestatic 208, 3, [174, 1, 1, 12, 1], []), (294, .istore 5, 2, [5], []), (296, .iload 5, 2, [5], []), (298, .bipush (-9), 2, [], [((-9), 0)]), (300, .if_icmp .eq 18, 3, [318], []), (303, .aload_n 0, 1, [0], []), (304, .getfield 34, 3, [12, 11, 2], []), (307, .iload_n 3, 1, [3], []), (308, .iaload, 1, [], []), (309, .iload 5, 2, [5], []), (311, .ishr, 1, [], []), (312, .iconst 1, 1, [], [(1, 0)]), (313, .iand, 1, [], []), (314, .iconst 1, 1, [], [(1, 0)]), (315, .if_icmp .ne 10, 3, [325], []), (318, .aload_n 0, 1, [0], []), (319, .getfield 184, 3, [12, 13, 0], []), (322, .iload_n 1, 1, [1], []), (323, .isub, 1, [], []), (324, .ireturn, 1, [0], []), (325, .aload_n 0, 1, [0], []), (326, .getfield 34, 3, [12, 11, 2], []), (329, .iload_n 3, 1, [3], []), (330, .dup2, 1, [], []), (331, .iaload, 1, [], []), (332, .iconst 1, 1, [], [(1, 0)]), (333, .iload 5, 2, [5], []), (335, .ishl, 1, [], []), (336, .ior, 1, [], []), (337, .iastore, 1, [], []), (338, .aload_n 0, 1, [0], []), (339, .dup, 1, [], []), (340, .getfield 184, 3, [12, 13, 0], []), (343, .iconst 1, 1, [], [(1, 0)]), (344, .iadd, 1, [], []), (345, .putfield 184, 3, [12, 13, 0], []), (348, .aload_n 0, 1, [0], [])]
noncomputable def cd178_2 : List (Nat × AI) := [(349, .getfield 184, 3, [12, 13, 0], []), (352, .aload_n 0, 1, [0], []), (353, .getfield 187, 3, [12, 14, 0], []), (356, .if_icmp .ge 7, 3, [363], []), (359, .iconst 1, 1, [], [(1, 0)]), (360, .goto 4, 3, [364], []), (363, .iconst 0, 1, [], [(0, 0)]), (364, .istore 4, 2, [4], []), (366, .goto (-84), 3, [282], []), (369, .bipush (-9), 2, [], [((-9), 0)]), (371, .ireturn, 1, [0], [])]
noncomputable def cd178 : List (Nat × AI) := cd178_0 ++ (cd178_1 ++ (cd178_2))
noncomputable def cd179 : List (Nat × AI) := [(0, .aload_n 0, 1, [0], []), (1, .getfield 19, 3, [12, 6, 2], []), (4, .iload_n 2, 1, [2], []), (5, .aload_n 0, 1, [0], []), (6, .getfield 19, 3, [12, 6, 2], []), (9, .iload_n 1, 1, [1], []), (10, .iaload, 1, [], []), (11, .iastore, 1, [], []), (12, .aload_n 0, 1, [0], []), (13, .getfield 22, 3, [12, 7, 2], []), (16, .iload_n 2, 1, [2], []), (17, .aload_n 0, 1, [0], []), (18, .getfield 22, 3, [12, 7, 2], []), (21, .iload_n 1, 1, [1], []), (22, .iaload, 1, [], []), (23, .iastore, 1, [], []), (24, .aload_n 0, 1, [0], []), (25, .getfield 25, 3, [12, 8, 2], []), (28, .iload_n 2, 1, [2], []), (29, .aload_n 0, 1, [0], []), (30, .getfield 25, 3, [12, 8, 2], []), (33, .iload_n 1, 1, [1], []), (34, .iaload, 1, [], []), (35, .iastore, 1, [], []), (36, .aload_n 0, 1, [0], []), (37, .getfield 28, 3, [12, 9, 2], []), (40, .iload_n 2, 1, [2], []), (41, .aload_n 0, 1, [0], []), (42, .getfield 28, 3, [12, 9, 2], []), (45, .iload_n 1, 1, [1], []), (46, .iaload, 1, [], []), (47, .iastore, 1, [], []), (48, .aload_n 0, 1, [0], []), (49, .getfield 31, 3, [12, 10, 2], []), (52, .iload_n 2, 1, [2], []), (53, .aload_n 0, 1, [0], []), (54, .getfield 31, 3, [12, 10, 2], []), (57, .iload_n 1, 1, [1], []), (58, .iaload, 1, [], []), (59, .iastore, 1, [], []), (60, .aload_n 0, 1, [0], []), (61, .getfield 34, 3, [12, 11, 2], []), (64, .iload_n 2, 1, [2], []), (65, .aload_n 0, 1, [0], []), (66, .getfield 34, 3, [12, 11, 2], []), (69, .iload_n 1, 1, [1], []), (70, .iaload, 1, [], []), (71, .iastore, 1, [], []), (72, .aload_n 0, 1, [0], []), (73, .getfield 37, 3, [12, 12, 2], []), (76, .iload_n 2, 1, [2], []), (77, .aload_n 0, 1, [0], []), (78, .getfield 37, 3, [12, 12, 2], []), (81, .iload_n 1, 1, [1], []), (82, .iaload, 1, [], []), (83, .iastore, 1, [], []), (84, .return_, 1, [], [])]
noncomputable def cd180 : List (Nat × AI) := [(0, .aload_n 0, 1, [0], []), (1, .iconst 0, 1, [], [(0, 0)]), (2, .putfield 171, 3, [12, 0, 0], []), (5, .iload_n 1, 1, [1], []), (6, .invokestatic 211, 3, [170, 1, 1, 12, 1], []), (9, .ifCond .ne 5, 3, [14], []), (12, .iconst (-1), 1, [], [((-1), 0)]), (13, .ireturn, 1, [0], []), (14, .iload_n 2, 1, [2], []), (15, .invokestatic 215, 3, [171, 1, 1, 12, 1], []), (18, .ifCond .ne 6, 3, [24], []), (21, .bipush (-2), 2, [], [((-2), 0)]), (23, .ireturn, 1, [0], []), (24, .aload_n 0, 1, [0], []), (25, .iload_n 1, 1, [1], []), (26, .iload_n 2, 1, [2], []), (27, .iload_n 3, 1, [3], []), (28, .iload 4, 2, [4], []), (30, .invokevirtual 218, 3, [172, 5, 1, 12, 5], []), (33, .istore 5, 2, [5], []), (35, .iload 5, 2, [5], []), (37, .ifCond .eq 6, 3, [43], []), (40, .iload 5, 2, [5], []), (42, .ireturn, 1, [0], []), (43, .aload_n 0, 1, [0], []), (44, .bipush 60, 2, [], [(60, 0)]), (46, .iload_n 1, 1, [1], []), (47, .imul, 1, [], []), (48, .iload_n 3, 1, [3], []), (49, .iadd, 1, [], []), (50, .iload 4, 2, [4], []), (52, .invokevirtual 222, 3, [178, 3, 1, 12, 6], []), (55, .istore 6, 2, [6], []), (57, .iload 6, 2, [6], []), (59, .bipush (-9), 2, [], [((-9), 0)]), (61, .if_icmp .eq 9, 3, [70], []), (64, .bipush (-100), 2, [], [((-100), 0)]), (66, .iload 6, 2, [6], []), (68, .isub, 1, [], []), (69, .ireturn, 1, [0], []), (70, .aload_n 0, 1, [0], []), (71, .getfield 226, 3, [12, 5, 0], []), (74, .bipush 24, 2, [], [(24, 0)]), (76, .if_icmp .ne 6, 3, [82], []), (79, .bipush (-4), 2, [], [((-4), 0)]), (81, .ireturn, 1, [0], []), (82, .aload_n 0, 1, [0], []), (83, .bipush 24, 2, [], [(24, 0)]), (85, .aload_n 0, 1, [0], []), (86, .getfield 226, 3, [12, 5, 0], []), (89, .invokevirtual 229, 3, [179, 3, 0, 12, 3], []), (92, .aload_n 0, 1, [0], []), (93, .dup, 1, [], []), (94, .getfield 226, 3, [12, 5, 0], []), (97, .iconst 1, 1, [], [(1, 0)]), (98, .iadd, 1, [], []), (99, .putfield 226, 3, [12, 5, 0], []), (102, .aload_n 0, 1, [0], []), (103, .getfield 226, 3, [12, 5, 0], []), (106, .iconst 1, 1, [], [(1, 0)]), (107, .isub, 1, [], []), (108, .ireturn, 1, [0], [])]
noncomputable def cd181 : List (Nat × AI) := [(0, .iload_n 1, 1, [1], []), (1, .ifCond .lt 15, 3, [16], []), (4, .iload_n 1, 1, [1], []), (5, .aload_n 0, 1, [0], []), (6, .getfield 226, 3, [12, 5, 0], []), (9, .if_icmp .ge 7, 3, [16], []), (12, .iconst 1, 1, [], [(1, 0)]), (13, .goto 4, 3, [17], []), (16, .iconst 0, 1, [], [(0, 0)]), (17, .ireturn, 1, [1], [])]
noncomputable def cd182 : List (Nat × AI) := [(0, .aload_n 0, 1, [0], []), (1, .iload_n 1, 1, [1], []), (2, .invokevirtual 233, 3, [181, 2, 1, 12, 2], []), (5, .ifCond .ne 5, 3, [10], []), (8, .iconst (-1), 1, [], [((-1), 0)]), (9, .ireturn, 1, [0], []), (10, .iload_n 2, 1, [2], []), (11, .invokestatic 236, 3, [169, 1, 1, 12, 1], []), (14, .ifCond .ne 6, 3, [20], []), (17, .bipush (-2), 2, [], [((-2), 0)]), (19, .ireturn, 1, [0], []), (20, .aload_n 0, 1, [0], []), (21, .getfield 37, 3, [12, 12, 2], []), (24, .iload_n 1, 1, [1], []), (25, .iaload, 1, [], []), (26, .istore_n 3, 1, [3], []), (27, .aload_n 0, 1, [0], []), (28, .getfield 37, 3, [12, 12, 2], []), (31, .iload_n 1, 1, [1], []), (32, .iload_n 2, 1, [2], []), (33, .iastore, 1, [], []), (34, .iload_n 3, 1, [3], []), (35, .ireturn, 1, [0], [])]
noncomputable def cd183 : List (Nat × AI) := [(0, .aload_n 0, 1, [0], []), (1, .iload_n 1, 1, [1], []), (2, .invokevirtual 233, 3, [181, 2, 1, 12, 2], []), (5, .ifCond .ne 5, 3, [10], []), (8, .iconst (-1), 1, [], [((-1), 0)]), (9, .ireturn, 1, [0], []), (10, .iload_n 2, 1, [2], []), (11, .tableswitch 90 0 6 #[41, 48, 55, 62, 69, 76, 83], 41, [101], [(0, 52), (1, 59), (2, 66), (3, 73), (4, 80), (5, 87), (6, 94)]), (52, .aload_n 0, 1, [0], []), (53, .getfield 19, 3, [12, 6, 2], []), (56, .iload_n 1, 1, [1], []), (57, .iaload, 1, [], []), (58, .ireturn, 1, [0], []), (59, .aload_n 0, 1, [0], []), (60, .getfield 22, 3, [12, 7, 2], []), (63, .iload_n 1, 1, [1], []), (64, .iaload, 1, [], []), (65, .ireturn, 1, [0], []), (66, .aload_n 0, 1, [0], []), (67, .getfield 25, 3, [12, 8, 2], []), (70, .iload_n 1, 1, [1], []), (71, .iaload, 1, [], []), (72, .ireturn, 1, [0], []), (73, .aload_n 0, 1, [0], []), (74, .getfield 28, 3, [12, 9, 2], []), (77, .iload_n 1, 1, [1], []), (78, .iaload, 1, [], []), (79, .ireturn, 1, [0], []), (80, .aload_n 0, 1, [0], []), (81, .getfield 31, 3, [12, 10, 2], []), (84, .iload_n 1, 1, [1], []), (85, .iaload, 1, [], []), (86, .ireturn, 1, [0], []), (87, .aload_n 0, 1, [0], []), (88, .getfield 34, 3, [12, 11, 2], []), (91, .iload_n 1, 1, [1], []), (92, .iaload, 1, [], []), (93, .ireturn, 1, [0], []), (94, .aload_n 0, 1, [0], []), (95, .getfield 37, 3, [12, 12, 2], []), (98, .iload_n 1, 1, [1], []), (99, .iaload, 1, [], []), (100, .ireturn, 1, [0], []), (101, .bipush (-2), 2, [], [((-2), 0)]), (103, .ireturn, 1, [0], [])]
noncomputable def cd184 : List (Nat × AI) := [(0, .iload_n 2, 1, [2], []), (1, .aload_n 0, 1, [0], []), (2, .getfield 28, 3, [12, 9, 2], []), (5, .iload_n 1, 1, [1], []), (6, .iaload, 1, [], []), (7, .aload_n 0, 1, [0], []), (8, .getfield 31, 3, [12, 10, 2], []), (11, .iload_n 1, 1, [1], []), (12, .iaload, 1, [], []), (13, .invokestatic 176, 3, [168, 3, 1, 12, 3], []), (16, .ifCond .eq 28, 3, [44], []), (19, .aload_n 0, 1, [0], []), (20, .getfield 37, 3, [12, 12, 2], []), (23, .iload_n 1, 1, [1], []), (24, .iaload, 1, [], []), (25, .bipush (-9), 2, [], [((-9), 0)]), (27, .if_icmp .eq 13, 3, [40], []), (30, .iload_n 2, 1, [2], []), (31, .aload_n 0, 1, [0], []), (32, .getfield 37, 3, [12, 12, 2], []), (35, .iload_n 1, 1, [1], []), (36, .iaload, 1, [], []), (37, .if_icmp .ge 7, 3, [44], []), (40, .iconst 1, 1, [], [(1, 0)]), (41, .goto 4, 3, [45], []), (44, .iconst 0, 1, [], [(0, 0)]), (45, .ireturn, 1, [1], [])]
noncomputable def cd185 : List (Nat × AI) := [(0, .aload_n 0, 1, [0], []), (1, .getfield 19, 3, [12, 6, 2], []), (4, .iload_n 1, 1, [1], []), (5, .iaload, 1, [], []), (6, .iload_n 2, 1, [2], []), (7, .if_icmp .ne 49, 3, [56], []), (10, .aload_n 0, 1, [0], []), (11, .getfield 22, 3, [12, 7, 2], []), (14, .iload_n 1, 1, [1], []), (15, .iaload, 1, [], []), (16, .iconst 4, 1, [], [(4, 0)]), (17, .if_icmp .eq 13, 3, [30], []), (20, .aload_n 0, 1, [0], []), (21, .getfield 22, 3, [12, 7, 2], []), (24, .iload_n 1, 1, [1], []), (25, .iaload, 1, [], []), (26, .iload_n 3, 1, [3], []), (27, .if_icmp .ne 29, 3, [56], []), (30, .aload_n 0, 1, [0], []), (31, .getfield 25, 3, [12, 8, 2], []), (34, .iload_n 1, 1, [1], []), (35, .iaload, 1, [], []), (36, .bipush (-9), 2, [], [((-9), 0)]), (38, .if_icmp .eq 14, 3, [52], []), (41, .iload 4, 2, [4], []), (43, .aload_n 0, 1, [0], []), (44, .getfield 25, 3, [12, 8, 2], []), (47, .iload_n 1, 1, [1], []), (48, .iaload, 1, [], []), (49, .if_icmp .le 7, 3, [56], []), (52, .iconst 1, 1, [], [(1, 0)]), (53, .goto 4, 3, [57], []), (56, .iconst 0, 1, [], [(0, 0)]), (57, .istore 7, 2, [7], []), (59, .iload 7, 2, [7], []), (61, .ifCond .eq 37, 3, [98], []), (64, .aload_n 0, 1, [0], []), (65, .iload_n 1, 1, [1], []), (66, .iload 6, 2, [6], []), (68, .invokevirtual 239, 3, [184, 3, 1, 12, 3], []), (71, .ifCond .eq 27, 3, [98], []), (74, .iload 5, 2, [5], []), (76, .iconst 4, 1, [], [(4, 0)]), (77, .if_icmp .eq 17, 3, [94], []), (80, .aload_n 0, 1, [0], []), (81, .getfield 34, 3, [12, 11, 2], []), (84, .iload_n 1, 1, [1], []), (85, .iaload, 1, [], []), (86, .iload 5, 2, [5], []), (88, .ishr, 1, [], []), (89, .iconst 1, 1, [], [(1, 0)]), (90, .iand, 1, [], []), (91, .ifCond .ne 7, 3, [98], []), (94, .iconst 1, 1, [], [(1, 0)]), (95, .goto 4, 3, [99], []), (98, .iconst 0, 1, [], [(0, 0)]), (99, .ireturn, 1, [1], [])]
noncomputable def cd186 : List (Nat × AI) := [(0, .iload_n 0, 1, [0], []), (1, .iconst 0, 1, [], [(0, 0)]), (2, .iconst 3, 1, [], [(3, 0)]), (3, .invokestatic 176, 3, [168, 3, 1, 12, 3], []), (6, .ifCond .eq 35, 3, [41], []), (9, .iload_n 1, 1, [1], []), (10, .iconst 0, 1, [], [(0, 0)]), (11, .iconst 3, 1, [], [(3, 0)]), (12, .invokestatic 176, 3, [168, 3, 1, 12, 3], []), (15, .ifCond .eq 26, 3, [41], []), (18, .iload_n 2, 1, [2], []), (19, .iconst 0, 1, [], [(0, 0)]), (20, .bipush 99, 2, [], [(99, 0)]), (22, .invokestatic 176, 3, [168, 3, 1, 12, 3], []), (25, .ifCond .eq 16, 3, [41], []), (28, .iload_n 3, 1, [3], []), (29, .iconst 0, 1, [], [(0, 0)]), (30, .iconst 4, 1, [], [(4, 0)]), (31, .invokestatic 176, 3, [168, 3, 1, 12, 3], []), (34, .ifCond .eq 7, 3, [41], []), (37, .iconst 1, 1, [], [(1, 0)]), (38, .goto 4, 3, [42], []), (41, .iconst 0, 1, [], [(0, 0)]), (42, .ireturn, 1, [1], [])]
noncomputable def cd187 : List (Nat × AI) := [(0, .iconst 0, 1, [], [(0, 0)]), (1, .istore 6, 2, [6], []), (3, .iload 6, 2, [6], []), (5, .aload_n 0, 1, [0], []), (6, .getfield 226, 3, [12, 5, 0], []), (9, .if_icmp .ge 28, 3, [37], []), (12, .aload_n 0, 1, [0], []), (13, .iload 6, 2, [6], []), (15, .iload_n 1, 1, [1], []), (16, .iload_n 2, 1, [2], []), (17, .iload_n 3, 1, [3], []), (18, .iload 4, 2, [4], []), (20, .iload 5, 2, [5], []), (22, .invokevirtual 243, 3, [185, 7, 1, 12, 8], []), (25, .ifCond .eq 6, 3, [31], []), (28, .iload 6, 2, [6], []), (30, .ireturn, 1, [0], []), (31, .iinc 6 1, 3, [6], [(1, 0)]), (34, .goto (-31), 3, [3], []), (37, .bipush (-9), 2, [], [((-9), 0)]), (39, .ireturn, 1, [0], [])]
noncomputable def cd188 : List (Nat × AI) := [(0, .iload_n 1, 1, [1], []), (1, .iload_n 2, 1, [2], []), (2, .iload_n 3, 1, [3], []), (3, .iload 4, 2, [4], []), (5, .invokestatic 247, 3, [186, 4, 1, 12, 4], []), (8, .ifCond .eq 11, 3, [19], []), (11, .iload 5, 2, [5], []), (13, .invokestatic 236, 3, [169, 1, 1, 12, 1], []), (16, .ifCond .ne 6, 3, [22], []), (19, .bipush (-2), 2, [], [((-2), 0)]), (21, .ireturn, 1, [0], []), (22, .aload_n 0, 1, [0], []), (23, .iload_n 1, 1, [1], []), (24, .iload_n 2, 1, [2], []), (25, .iload_n 3, 1, [3], []), (26, .iload 4, 2, [4], []), (28, .iload 5, 2, [5], []), (30, .invokevirtual 251, 3, [187, 6, 1, 12, 7], []), (33, .bipush (-9), 2, [], [((-9), 0)]), (35, .if_icmp .ne 7, 3, [42], []), (38, .iconst 0, 1, [], [(0, 0)]), (39, .goto 4, 3, [43], []), (42, .iconst 1, 1, [], [(1, 0)]), (43, .ireturn, 1, [0], [])]
noncomputable def cd189 : List (Nat × AI) := [(0, .iload_n 1, 1, [1], []), (1, .iload_n 2, 1, [2], []), (2, .iload_n 3, 1, [3], []), (3, .iload 4, 2, [4], []), (5, .invokestatic 247, 3, [186, 4, 1, 12, 4], []), (8, .ifCond .eq 25, 3, [33], []), (11, .iload 5, 2, [5], []), (13, .invokestatic 236, 3, [169, 1, 1, 12, 1], []), (16, .ifCond .eq 17, 3, [33], []), (19, .aload_n 0, 1, [0], []), (20, .iload_n 1, 1, [1], []), (21, .iload_n 2, 1, [2], []), (22, .iload_n 3, 1, [3], []), (23, .iload 4, 2, [4], []), (25, .iload 5, 2, [5], []), (27, .invokevirtual 251, 3, [187, 6, 1, 12, 7], []), (30, .goto 5, 3, [35], []), (33, .bipush (-2), 2, [], [((-2), 0)]), (35, .ireturn, 1, [0], [])]
noncomputable def cd190 : List (Nat × AI) := [(0, .iload_n 1, 1, [1], []), (1, .invokestatic 236, 3, [169, 1, 1, 12, 1], []), (4, .ifCond .ne 6, 3, [10], []), (7, .bipush (-2), 2, [], [((-2), 0)]), (9, .ireturn, 1, [0], []), (10, .iconst 0, 1, [], [(0, 0)]), (11, .istore_n 2, 1, [2], []), (12, .iconst 0, 1, [], [(0, 0)]), (13, .istore_n 3, 1, [3], []), (14, .iload_n 3, 1, [3], []), (15, .aload_n 0, 1, [0], []), (16, .getfield 226, 3, [12, 5, 0], []), (19, .if_icmp .ge 26, 3, [45], []), (22, .iload_n 2, 1, [2], []), (23, .aload_n 0, 1, [0], []), (24, .iload_n 3, 1, [3], []), (25, .iload_n 1, 1, [1], []), (26, .invokevirtual 239, 3, [184, 3, 1, 12, 3], []), (29, .ifCond .eq 7, 3, [36], []), (32, .iconst 1, 1, [], [(1, 0)]), (33, .goto 4, 3, [37], []), (36, .iconst 0, 1, [], [(0, 0)]), (37, .iadd, 1, [], []), (38, .istore_n 2, 1, [2], []), (39, .iinc 3 1, 3, [3], [(1, 0)]), (42, .goto (-28), 3, [14], []), (45, .iload_n 2, 1, [2], []), (46, .ireturn, 1, [0], [])]
noncomputable def cd191 : List (Nat × AI) := [(0, .iload_n 1, 1, [1], []), (1, .iconst 0, 1, [], [(0, 0)]), (2, .bipush 11, 2, [], [(11, 0)]), (4, .invokestatic 176, 3, [168, 3, 1, 12, 3], []), (7, .ifCond .eq 31, 3, [38], []), (10, .iload_n 2, 1, [2], []), (11, .iconst 0, 1, [], [(0, 0)]), (12, .bipush 11, 2, [], [(11, 0)]), (14, .invokestatic 176, 3, [168, 3, 1, 12, 3], []), (17, .ifCond .eq 21, 3, [38], []), (20, .iload_n 1, 1, [1], []), (21, .iload_n 2, 1, [2], []), (22, .if_icmp .eq 16, 3, [38], []), (25, .iload_n 3, 1, [3], []), (26, .iload 4, 2, [4], []), (28, .iload 5, 2, [5], []), (30, .iload 6, 2, [6], []), (32, .invokestatic 247, 3, [186, 4, 1, 12, 4], []), (35, .ifCond .ne 6, 3, [41], []), (38, .bipush (-2), 2, [], [((-2), 0)]), (40, .ireturn, 1, [0], []), (41, .aload_n 0, 1, [0], []), (42, .getfield 255, 3, [12, 16, 0], []), (45, .bipush 24, 2, [], [(24, 0)]), (47, .if_icmp .ne 6, 3, [53], []), (50, .bipush (-4), 2, [], [((-4), 0)]), (52, .ireturn, 1, [0], []), (53, .aload_n 0, 1, [0], []), (54, .getfield 40, 3, [12, 17, 2], []), (57, .aload_n 0, 1, [0], []), (58, .getfield 255, 3, [12, 16, 0], []), (61, .iload_n 1, 1, [1], []), (62, .iastore, 1, [], []), (63, .aload_n 0, 1, [0], []), (64, .getfield 43, 3, [12, 18, 2], []), (67, .aload_n 0, 1, [0], []), (68, .getfield 255, 3, [12, 16, 0], []), (71, .iload_n 2, 1, [2], []), (72, .iastore, 1, [], []), (73, .aload_n 0, 1, [0], []), (74, .getfield 46, 3, [12, 19, 2], []), (77, .aload_n 0, 1, [0], []), (78, .getfield 255, 3, [12, 16, 0], []), (81, .iload_n 3, 1, [3], []), (82, .iastore, 1, [], []), (83, .aload_n 0, 1, [0], []), (84, .getfield 49, 3, [12, 20, 2], []), (87, .aload_n 0, 1, [0], []), (88, .getfield 255, 3, [12, 16, 0], []), (91, .iload 4, 2, [4], []), (93, .iastore, 1, [], []), (94, .aload_n 0, 1, [0], []), (95, .getfield 52, 3, [12, 21, 2], []), (98, .aload_n 0, 1, [0], []), (99, .getfield 255, 3, [12, 16, 0], []), (102, .iload 5, 2, [5], []), (104, .iastore, 1, [], []), (105, .aload_n 0, 1, [0], []), (106, .getfield 55, 3, [12, 22, 2], []), (109, .aload_n 0, 1, [0], []), (110, .getfield 255, 3, [12, 16, 0], []), (113, .iload 6, 2, [6], []), (115, .iastore, 1, [], []), (116, .aload_n 0, 1, [0], []), (117, .dup, 1, [], []), (118, .getfield 255, 3, [12, 16, 0], []), (121, .iconst 1, 1, [], [(1, 0)]), (122, .iadd, 1, [], []), (123, .putfield 255, 3, [12, 16, 0], []), (126, .aload_n 0, 1, [0], []), (127, .getfield 255, 3, [12, 16, 0], []), (130, .iconst 1, 1, [], [(1, 0)]), (131, .isub, 1, [], []), (132, .ireturn, 1, [0], [])]
noncomputable def cd192 : List (Nat × AI) := [(0, .aload_n 0, 1, [0], []), (1, .aload_n 0, 1, [0], []), (2, .getfield 46, 3, [12, 19, 2], []), (5, .iload_n 1, 1, [1], []), (6, .iaload, 1, [], []), (7, .aload_n 0, 1, [0], []), (8, .getfield 49, 3, [12, 20, 2], []), (11, .iload_n 1, 1, [1], []), (12, .iaload, 1, [], []), (13, .aload_n 0, 1, [0], []), (14, .getfield 52, 3, [12, 21, 2], []), (17, .iload_n 1, 1, [1], []), (18, .iaload, 1, [], []), (19, .aload_n 0, 1, [0], []), (20, .getfield 55, 3, [12, 22, 2], []), (23, .iload_n 1, 1, [1], []), (24, .iaload, 1, [], []), (25, .iload_n 2, 1, [2], []), (26, .invokevirtual 251, 3, [187, 6, 1, 12, 7], []), (29, .bipush (-9), 2, [], [((-9), 0)]), (31, .if_icmp .ne 7, 3, [38], []), (34, .iconst 1, 1, [], [(1, 0)]), (35, .goto 4, 3, [39], []), (38, .iconst 0, 1, [], [(0, 0)]), (39, .ireturn, 1, [1], [])]
noncomputable def cd193 : List (Nat × AI) := [(0, .iconst 0, 1, [], [(0, 0)]), (1, .istore_n 2, 1, [2], []), (2, .iload_n 2, 1, [2], []), (3, .bipush 12, 2, [], [(12, 0)]), (5, .if_icmp .ge 27, 3, [32], []), (8, .aload_n 0, 1, [0], []), (9, .getfield 58, 3, [12, 23, 2], []), (12, .iload_n 2, 1, [2], []), (13, .iload_n 2, 1, [2], []), (14, .bipush 11, 2, [], [(11, 0)]), (16, .if_icmp .ne 7, 3, [23], []), (19, .iconst 0, 1, [], [(0, 0)]), (20, .goto 5, 3, [25], []), (23, .bipush (-9), 2, [], [((-9), 0)]), (25, .iastore, 1, [], []), (26, .iinc 2 1, 3, [2], [(1, 0)]), (29, .goto (-27), 3, [2], []), (32, .iconst 0, 1, [], [(0, 0)]), (33, .istore_n 2, 1, [2], []), (34, .iload_n 2, 1, [2], []), (35, .bipush 12, 2, [], [(12, 0)]), (37, .if_icmp .ge 79, 3, [116], []), (40, .iconst 0, 1, [], [(0, 0)]), (41, .istore_n 3, 1, [3], []), (42, .iload_n 3, 1, [3], []), (43, .aload_n 0, 1, [0], []), (44, .getfield 255, 3, [12, 16, 0], []), (47, .if_icmp .ge 63, 3, [110], []), (50, .aload_n 0, 1, [0], []), (51, .getfield 58, 3, [12, 23, 2], []), (54, .aload_n 0, 1, [0], []), (55, .getfield 43, 3, [12, 18, 2], []), (58, .iload_n 3, 1, [3], []), (59, .iaload, 1, [], []), (60, .iaload, 1, [], []), (61, .iload_n 2, 1, [2], []), (62, .if_icmp .ne 42, 3, [104], []), (65, .aload_n 0, 1, [0], []), (66, .getfield 58, 3, [12, 23, 2], []), (69, .aload_n 0, 1, [0], []), (70, .getfield 40, 3, [12, 17, 2], []), (73, .iload_n 3, 1, [3], []), (74, .iaload, 1, [], []), (75, .iaload, 1, [], []), (76, .bipush (-9), 2, [], [((-9), 0)]), (78, .if_icmp .ne 26, 3, [104], []), (81, .aload_n 0, 1, [0], []), (82, .iload_n 3, 1, [3], []), (83, .iload_n 1, 1, [1], []), (84, .invokevirtual 258, 3, [192, 3, 1, 12, 3], []), (87, .ifCond .eq 17, 3, [104], []), (90, .aload_n 0, 1, [0], []), (91, .getfield 58, 3, [12, 23, 2], []), (94, .aload_n 0, 1, [0], []), (95, .getfield 40, 3, [12, 17, 2], []), (98, .iload_n 3, 1, [3], []), (99, .iaload, 1, [], []), (100, .iload_n 2, 1, [2], []), (101, .iconst 1, 1, [], [(1, 0)]), (102, .iadd, 1, [], []), (103, .iastore, 1, [], []), (104, .iinc 3 1, 3, [3], [(1, 0)]), (107, .goto (-65), 3, [42], []), (110, .iinc 2 1, 3, [2], [(1, 0)]), (113, .goto (-79), 3, [34], []), (116, .aload_n 0, 1, [0], []), (117, .getfield 58, 3, [12, 23, 2], []), (120, .iconst 0, 1, [], [(0, 0)]), (121, .iaload, 1, [], []), (122, .bipush (-9), 2, [], [((-9), 0)]), (124, .if_icmp .ne 6, 3, [130], []), (127, .bipush (-9), 2, [], [((-9), 0)]), (129, .ireturn, 1, [0], []), (130, .iconst 0, 1, [], [(0, 0)]), (131, .istore_n 2, 1, [2], []), (132, .iconst 0, 1, [], [(0, 0)]), (133, .istore_n 3, 1, [3], []), (134, .iload_n 3, 1, [3], []), (135, .aload_n 0, 1, [0], []), (136, .getfield 58, 3, [12, 23, 2], []), (139, .iconst 0, 1, [], [(0, 0)]), (140, .iaload, 1, [], []), (141, .if_icmp .ge 80, 3, [221], []), (144, .iconst 0, 1, [], [(0, 0)]), (145, .istore 4, 2, [4], []), (147, .aload_n 0, 1, [0], []), (148, .getfield 40, 3, [12, 17, 2], []), (151, .iload 4, 2, [4], []), (153, .iaload, 1, [], []), (154, .iload_n 2, 1, [2], []), (155, .if_icmp .ne 38, 3, [193], []), (158, .aload_n 0, 1, [0], []), (159, .getfield 58, 3, [12, 23, 2], []), (162, .aload_n 0, 1, [0], []), (163, .getfield 43, 3, [12, 18, 2], []), (166, .iload 4, 2, [4], []), (168, .iaload, 1, [], []), (169, .iaload, 1, [], []), (170, .aload_n 0, 1, [0], []), (171, .getfield 58, 3, [12, 23, 2], []), (174, .iconst 0, 1, [], [(0, 0)]), (175, .iaload, 1, [], []), (176, .iload_n 3, 1, [3], []), (177, .isub, 1, [], []), (178, .iconst 1, 1, [], [(1, 0)]), (179, .isub, 1, [], []), (180, .if_icmp .ne 13, 3, [193], []), (183, .aload_n 0, 1, [0], []), (184, .iload 4, 2, [4], []), (186, .iload_n 1, 1, [1], []), (187, .invokevirtual 258, 3, [192, 3, 1, 12, 3], []), (190, .ifCond .ne 9, 3, [199], []), (193, .iinc 4 1, 3, [4], [(1, 0)]), (196, .goto (-49), 3, [147], []), (199, .aload_n 0, 1, [0], []), (200, .getfield 61, 3, [12, 24, 2], []), (203, .iload_n 3, 1, [3], []), (204, .iload 4, 2, [4], []), (206, .iastore, 1, [], []), (207, .aload_n 0, 1, [0], []), (208, .getfield 43, 3, [12, 18, 2], []), (211, .iload 4, 2, [4], []), (213, .iaload, 1, [], []), (214, .istore_n 2, 1, [2], []), (215, .iinc 3 1, 3, [3], [(1, 0)]), (218, .goto (-84), 3, [134], []), (221, .aload_n 0, 1, [0], []), (222, .getfield 58, 3, [12, 23, 2], []), (225, .iconst 0, 1, [], [(0, 0)]), (226, .iaload, 1, [], []), (227, .ireturn, 1, [0], [])]
noncomputable def cd194 : List (Nat × AI) := [(0, .iload_n 1, 1, [1], []), (1, .invokestatic 236, 3, [169, 1, 1, 12, 1], []), (4, .ifCond .ne 6, 3, [10], []), (7, .bipush (-2), 2, [], [((-2), 0)]), (9, .ireturn, 1, [0], []), (10, .iload_n 2, 1, [2], []), (11, .iconst (-1), 1, [], [((-1), 0)]), (12, .if_icmp .ge 5, 3, [17], []), (15, .iconst (-1), 1, [], [((-1), 0)]), (16, .ireturn, 1, [0], []), (17, .aload_n 0, 1, [0], []), (18, .iload_n 1, 1, [1], []), (19, .invokevirtual 261, 3, [193, 2, 1, 12, 5], []), (22, .istore_n 3, 1, [3], []), (23, .iload_n 3, 1, [3], []), (24, .bipush (-9), 2, [], [((-9), 0)]), (26, .if_icmp .eq 8, 3, [34], []), (29, .iload_n 2, 1, [2], []), (30, .iconst (-1), 1, [], [((-1), 0)]), (31, .if_icmp .ne 5, 3, [36], []), (34, .iload_n 3, 1, [3], []), (35, .ireturn, 1, [0], []), (36, .iload_n 2, 1, [2], []), (37, .iload_n 3, 1, [3], []), (38, .if_icmp .ge 12, 3, [50], []), (41, .aload_n 0, 1, [0], []), (42, .getfield 61, 3, [12, 24, 2], []), (45, .iload_n 2, 1, [2], []), (46, .iaload, 1, [], []), (47, .goto 4, 3, [51], []), (50, .iconst (-1), 1, [], [((-1), 0)]), (51, .ireturn, 1, [0], [])]
noncomputable def cd195 : List (Nat × AI) := [(0, .aload_n 0, 1, [0], []), (1, .iconst 0, 1, [], [(0, 0)]), (2, .putfield 171, 3, [12, 0, 0], []), (5, .iload_n 2, 1, [2], []), (6, .invokestatic 211, 3, [170, 1, 1, 12, 1], []), (9, .ifCond .ne 5, 3, [14], []), (12, .iconst (-1), 1, [], [((-1), 0)]), (13, .ireturn, 1, [0], []), (14, .iload_n 3, 1, [3], []), (15, .invokestatic 215, 3, [171, 1, 1, 12, 1], []), (18, .ifCond .eq 10, 3, [28], []), (21, .iload_n 1, 1, [1], []), (22, .invokestatic 236, 3, [169, 1, 1, 12, 1], []), (25, .ifCond .ne 6, 3, [31], []), (28, .bipush (-2), 2, [], [((-2), 0)]), (30, .ireturn, 1, [0], []), (31, .aload_n 0, 1, [0], []), (32, .iload_n 2, 1, [2], []), (33, .iload_n 3, 1, [3], []), (34, .iload 4, 2, [4], []), (36, .iload 5, 2, [5], []), (38, .invokevirtual 218, 3, [172, 5, 1, 12, 5], []), (41, .istore 6, 2, [6], []), (43, .iload 6, 2, [6], []), (45, .ifCond .eq 6, 3, [51], []), (48, .iload 6, 2, [6], []), (50, .ireturn, 1, [0], []), (51, .aload_n 0, 1, [0], []), (52, .bipush 60, 2, [], [(60, 0)]), (54, .iload_n 2, 1, [2], []), (55, .imul, 1, [], []), (56, .iload 4, 2, [4], []), (58, .iadd, 1, [], []), (59, .iload 5, 2, [5], []), (61, .invokevirtual 222, 3, [178, 3, 1, 12, 6], []), (64, .istore 7, 2, [7], []), (66, .iload 7, 2, [7], []), (68, .bipush (-9), 2, [], [((-9), 0)]), (70, .if_icmp .eq 9, 3, [79], []), (73, .bipush (-100), 2, [], [((-100), 0)]), (75, .iload 7, 2, [7], []), (77, .isub, 1, [], []), (78, .ireturn, 1, [0], []), (79, .iconst 0, 1, [], [(0, 0)]), (80, .istore 8, 2, [8], []), (82, .iconst 0, 1, [], [(0, 0)]), (83, .istore 9, 2, [9], []), (85, .iload 9, 2, [9], []), (87, .aload_n 0, 1, [0], []), (88, .getfield 255, 3, [12, 16, 0], []), (91, .if_icmp .ge 67, 3, [158], []), (94, .iload 8, 2, [8], []), (96, .aload_n 0, 1, [0], []), (97, .iload 9, 2, [9], []), (99, .iload_n 1, 1, [1], []), (100, .invokevirtual 258, 3, [192, 3, 1, 12, 3], []), (103, .ifCond .eq 45, 3, [148], []), (106, .aload_n 0, 1, [0], []), (107, .bipush 24, 2, [], [(24, 0)]), (109, .aload_n 0, 1, [0], []), (110, .getfield 46, 3, [12, 19, 2], []), (113, .iload 9, 2, [9], []), (115, .iaload, 1, [], []), (116, .aload_n 0, 1, [0], []), (117, .getfield 49, 3, [12, 20, 2], []), (120, .iload 9, 2, [9], []), (122, .iaload, 1, [], []), (123, .aload_n 0, 1, [0], []), (124, .getfield 52, 3, [12, 21, 2], []), (127, .iload 9, 2, [9], []), (129, .iaload, 1, [], []), (130, .aload_n 0, 1, [0], []), (131, .getfield 55, 3, [12, 22, 2], []), (134, .iload 9, 2, [9], []), (136, .iaload, 1, [], []), (137, .iload_n 1, 1, [1], []), (138, .invokevirtual 243, 3, [185, 7, 1, 12, 8], []), (141, .ifCond .eq 7, 3, [148], []), (144, .iconst 1, 1, [], [(1, 0)]), (145, .goto 4, 3, [149], []), (148, .iconst 0, 1, [], [(0, 0)]), (149, .iadd, 1, [], []), (150, .istore 8, 2, [8], []), (152, .iinc 9 1, 3, [9], [(1, 0)]), (155, .goto (-70), 3, [85], []), (158, .iload 8, 2, [8], []), (160, .ireturn, 1, [0], [])]
noncomputable def cd196 : List (Nat × AI) := [(0, .iload_n 1, 1, [1], []), (1, .ifCond .lt 15, 3, [16], []), (4, .iload_n 1, 1, [1], []), (5, .aload_n 0, 1, [0], []), (6, .getfield 264, 3, [12, 25, 0], []), (9, .if_icmp .ge 7, 3, [16], []), (12, .iconst 1, 1, [], [(1, 0)]), (13, .goto 4, 3, [17], []), (16, .iconst 0, 1, [], [(0, 0)]), (17, .ireturn, 1, [1], [])]
noncomputable def cd197 : List (Nat × AI) := [(0, .iload_n 1, 1, [1], []), (1, .iconst 1, 1, [], [(1, 0)]), (2, .bipush 24, 2, [], [(24, 0)]), (4, .invokestatic 176, 3, [168, 3, 1, 12, 3], []), (7, .ifCond .ne 6, 3, [13], []), (10, .bipush (-2), 2, [], [((-2), 0)]), (12, .ireturn, 1, [0], []), (13, .aload_n 0, 1, [0], []), (14, .getfield 264, 3, [12, 25, 0], []), (17, .bipush 6, 2, [], [(6, 0)]), (19, .if_icmp .ne 6, 3, [25], []), (22, .bipush (-4), 2, [], [((-4), 0)]), (24, .ireturn, 1, [0], []), (25, .aload_n 0, 1, [0], []), (26, .getfield 64, 3, [12, 26, 2], []), (29, .aload_n 0, 1, [0], []), (30, .getfield 264, 3, [12, 25, 0], []), (33, .iload_n 1, 1, [1], []), (34, .iastore, 1, [], []), (35, .aload_n 0, 1, [0], []), (36, .dup, 1, [], []), (37, .getfield 264, 3, [12, 25, 0], []), (40, .iconst 1, 1, [], [(1, 0)]), (41, .iadd, 1, [], []), (42, .putfield 264, 3, [12, 25, 0], []), (45, .aload_n 0, 1, [0], []), (46, .getfield 264, 3, [12, 25, 0], []), (49, .iconst 1, 1, [], [(1, 0)]), (50, .isub, 1, [], []), (51, .ireturn, 1, [0], [])]
noncomputable def cd198 : List (Nat × AI) := [(0, .aload_n 0, 1, [0], []), (1, .iload_n 1, 1, [1], []), (2, .invokevirtual 267, 3, [196, 2, 1, 12, 2], []), (5, .ifCond .ne 5, 3, [10], []), (8, .iconst (-1), 1, [], [((-1), 0)]), (9, .ireturn, 1, [0], []), (10, .iload_n 2, 1, [2], []), (11, .iconst 0, 1, [], [(0, 0)]), (12, .sipush 999, 3, [], [(999, 0)]), (15, .invokestatic 176, 3, [168, 3, 1, 12, 3], []), (18, .ifCond .eq 10, 3, [28], []), (21, .iload_n 3, 1, [3], []), (22, .invokestatic 236, 3, [169, 1, 1, 12, 1], []), (25, .ifCond .ne 6, 3, [31], []), (28, .bipush (-2), 2, [], [((-2), 0)]), (30, .ireturn, 1, [0], []), (31, .aload_n 0, 1, [0], []), (32, .getfield 270, 3, [12, 27, 0], []), (35, .bipush 40, 2, [], [(40, 0)]), (37, .if_icmp .ne 6, 3, [43], []), (40, .bipush (-4), 2, [], [((-4), 0)]), (42, .ireturn, 1, [0], []), (43, .aload_n 0, 1, [0], []), (44, .getfield 67, 3, [12, 28, 2], []), (47, .aload_n 0, 1, [0], []), (48, .getfield 270, 3, [12, 27, 0], []), (51, .iload_n 1, 1, [1], []), (52, .iastore, 1, [], []), (53, .aload_n 0, 1, [0], []), (54, .getfield 70, 3, [12, 29, 2], []), (57, .aload_n 0, 1, [0], []), (58, .getfield 270, 3, [12, 27, 0], []), (61, .iload_n 2, 1, [2], []), (62, .iastore, 1, [], []), (63, .aload_n 0, 1, [0], []), (64, .getfield 73, 3, [12, 30, 2], []), (67, .aload_n 0, 1, [0], []), (68, .getfield 270, 3, [12, 27, 0], []), (71, .iload_n 3, 1, [3], []), (72, .iastore, 1, [], []), (73, .aload_n 0, 1, [0], []), (74, .dup, 1, [], []), (75, .getfield 270, 3, [12, 27, 0], []), (78, .iconst 1, 1, [], [(1, 0)]), (79, .iadd, 1, [], []), (80, .putfield 270, 3, [12, 27, 0], []), (83, .aload_n 0, 1, [0], []), (84, .getfield 270, 3, [12, 27, 0], []), (87, .iconst 1, 1, [], [(1, 0)]), (88, .isub, 1, [], []), (89, .ireturn, 1, [0], [])]
noncomputable def cd199 : List (Nat × AI) := [(0, .iconst 0, 1, [], [(0, 0)]), (1, .istore_n 1, 1, [1], []), (2, .iconst 0, 1, [], [(0, 0)]), (3, .istore_n 2, 1, [2], []), (4, .iload_n 2, 1, [2], []), (5, .aload_n 0, 1, [0], []), (6, .getfield 270, 3, [12, 27, 0], []), (9, .if_icmp .ge 62, 3, [71], []), (12, .iconst 0, 1, [], [(0, 0)]), (13, .istore_n 3, 1, [3], []), (14, .iconst 0, 1, [], [(0, 0)]), (15, .istore 4, 2, [4], []), (17, .iload 4, 2, [4], []), (19, .iload_n 2, 1, [2], []), (20, .if_icmp .ge 33, 3, [53], []), (23, .iload_n 3, 1, [3], []), (24, .aload_n 0, 1, [0], []), (25, .getfield 70, 3, [12, 29, 2], []), (28, .iload 4, 2, [4], []), (30, .iaload, 1, [], []), (31, .aload_n 0, 1, [0], []), (32, .getfield 70, 3, [12, 29, 2], []), (35, .iload_n 2, 1, [2], []), (36, .iaload, 1, [], []), (37, .if_icmp .ne 7, 3, [44], []), (40, .iconst 1, 1, [], [(1, 0)]), (41, .goto 4, 3, [45], []), (44, .iconst 0, 1, [], [(0, 0)]), (45, .ior, 1, [], []), (46, .istore_n 3, 1, [3], []), (47, .iinc 4 1, 3, [4], [(1, 0)]), (50, .goto (-33), 3, [17], []), (53, .iload_n 1, 1, [1], []), (54, .iload_n 3, 1, [3], []), (55, .ifCond .eq 7, 3, [62], []), (58, .iconst 1, 1, [], [(1, 0)]), (59, .goto 4, 3, [63], []), (62, .iconst 0, 1, [], [(0, 0)]), (63, .iadd, 1, [], []), (64, .istore_n 1, 1, [1], []), (65, .iinc 2 1, 3, [2], [(1, 0)]), (68, .goto (-64), 3, [4], []), (71, .iload_n 1, 1, [1], []), (72, .ireturn, 1, [0], [])]
noncomputable def cd200 : List (Nat × AI) := [(0, .iconst 0, 1, [], [(0, 0)]), (1, .istore_n 3, 1, [3], []), (2, .iconst 0, 1, [], [(0, 0)]), (3, .istore 4, 2, [4], []), (5, .iload 4, 2, [4], []), (7, .aload_n 0, 1, [0], []), (8, .getfield 270, 3, [12, 27, 0], []), (11, .if_icmp .ge 39, 3, [50], []), (14, .iload_n 3, 1, [3], []), (15, .aload_n 0, 1, [0], []), (16, .getfield 67, 3, [12, 28, 2], []), (19, .iload 4, 2, [4], []), (21, .iaload, 1, [], []), (22, .iload_n 1, 1, [1], []), (23, .if_icmp .ne 18, 3, [41], []), (26, .aload_n 0, 1, [0], []), (27, .getfield 73, 3, [12, 30, 2], []), (30, .iload 4, 2, [4], []), (32, .iaload, 1, [], []), (33, .iload_n 2, 1, [2], []), (34, .if_icmp .ne 7, 3, [41], []), (37, .iconst 1, 1, [], [(1, 0)]), (38, .goto 4, 3, [42], []), (41, .iconst 0, 1, [], [(0, 0)]), (42, .iadd, 1, [], []), (43, .istore_n 3, 1, [3], []), (44, .iinc 4 1, 3, [4], [(1, 0)]), (47, .goto (-42), 3, [5], []), (50, .iload_n 3, 1, [3], []), (51, .iconst 4, 1, [], [(4, 0)]), (52, .aload_n 0, 1, [0], []), (53, .getfield 64, 3, [12, 26, 2], []), (56, .iload_n 1, 1, [1], []), (57, .iaload, 1, [], []), (58, .imul, 1, [], []), (59, .if_icmp .le 7, 3, [66], []), (62, .iconst 1, 1, [], [(1, 0)]), (63, .goto 4, 3, [67], []), (66, .iconst 0, 1, [], [(0, 0)]), (67, .ireturn, 1, [1], [])]
noncomputable def cd201 : List (Nat × AI) := [(0, .aload_n 0, 1, [0], []), (1, .iload_n 1, 1, [1], []), (2, .invokevirtual 267, 3, [196, 2, 1, 12, 2], []), (5, .ifCond .eq 8, 3, [13], []), (8, .iload_n 2, 1, [2], []), (9, .iconst (-1), 1, [], [((-1), 0)]), (10, .if_icmp .ge 5, 3, [15], []), (13, .iconst (-1), 1, [], [((-1), 0)]), (14, .ireturn, 1, [0], []), (15, .iconst 0, 1, [], [(0, 0)]), (16, .istore_n 3, 1, [3], []), (17, .iconst 0, 1, [], [(0, 0)]), (18, .istore 4, 2, [4], []), (20, .iload 4, 2, [4], []), (22, .bipush 99, 2, [], [(99, 0)]), (24, .if_icmp .gt 30, 3, [54], []), (27, .aload_n 0, 1, [0], []), (28, .iload_n 1, 1, [1], []), (29, .iload 4, 2, [4], []), (31, .invokevirtual 273, 3, [200, 3, 1, 12, 5], []), (34, .ifCond .eq 14, 3, [48], []), (37, .iload_n 3, 1, [3], []), (38, .iload_n 2, 1, [2], []), (39, .if_icmp .ne 6, 3, [45], []), (42, .iload 4, 2, [4], []), (44, .ireturn, 1, [0], []), (45, .iinc 3 1, 3, [3], [(1, 0)]), (48, .iinc 4 1, 3, [4], [(1, 0)]), (51, .goto (-31), 3, [20], []), (54, .iload_n 2, 1, [2], []), (55, .iconst (-1), 1, [], [((-1), 0)]), (56, .if_icmp .ne 7, 3, [63], []), (59, .iload_n 3, 1, [3], []), (60, .goto 4, 3, [64], []), (63, .iconst (-1), 1, [], [((-1), 0)]), (64, .ireturn, 1, [0], [])]
noncomputable def cd202 : List (Nat × AI) := [(0, .iload_n 2, 1, [2], []), (1, .iconst 1, 1, [], [(1, 0)]), (2, .bipush 12, 2, [], [(12, 0)]), (4, .invokestatic 176, 3, [168, 3, 1, 12, 3], []), (7, .ifCond .ne 5, 3, [12], []), (10, .iconst 0, 1, [], [(0, 0)]), (11, .ireturn, 1, [1], []), (12, .iconst 0, 1, [], [(0, 0)]), (13, .istore_n 3, 1, [3], []), (14, .iload_n 3, 1, [3], []), (15, .iload_n 2, 1, [2], []), (16, .if_icmp .ge 28, 3, [44], []), (19, .aload_n 0, 1, [0], []), (20, .getfield 16, 3, [12, 4, 2], []), (23, .iload_n 1, 1, [1], []), (24, .iload_n 3, 1, [3], []), (25, .iadd, 1, [], []), (26, .iaload, 1, [], []), (27, .iconst 0, 1, [], [(0, 0)]), (28, .bipush 9, 2, [], [(9, 0)]), (30, .invokestatic 176, 3, [168, 3, 1, 12, 3], []), (33, .ifCond .ne 5, 3, [38], []), (36, .iconst 0, 1, [], [(0, 0)]), (37, .ireturn, 1, [1], []), (38, .iinc 3 1, 3, [3], [(1, 0)]), (41, .goto (-27), 3, [14], []), (44, .iconst 1, 1, [], [(1, 0)]), (45, .ireturn, 1, [1], [])]
noncomputable def cd203 : List (Nat × AI) := [(0, .aload_n 0, 1, [0], []), (1, .iconst 0, 1, [], [(0, 0)]), (2, .putfield 171, 3, [12, 0, 0], []), (5, .iload_n 1, 1, [1], []), (6, .invokestatic 211, 3, [170, 1, 1, 12, 1], []), (9, .ifCond .ne 5, 3, [14], []), (12, .iconst (-1), 1, [], [((-1), 0)]), (13, .ireturn, 1, [0], []), (14, .iload_n 2, 1, [2], []), (15, .invokestatic 215, 3, [171, 1, 1, 12, 1], []), (18, .ifCond .ne 6, 3, [24], []), (21, .bipush (-2), 2, [], [((-2), 0)]), (23, .ireturn, 1, [0], []), (24, .aload_n 0, 1, [0], []), (25, .iload_n 1, 1, [1], []), (26, .iload_n 2, 1, [2], []), (27, .iload_n 3, 1, [3], []), (28, .iload 4, 2, [4], []), (30, .invokevirtual 218, 3, [172, 5, 1, 12, 5], []), (33, .istore 5, 2, [5], []), (35, .iload 5, 2, [5], []), (37, .ifCond .eq 6, 3, [43], []), (40, .iload 5, 2, [5], []), (42, .ireturn, 1, [0], []), (43, .bipush 60, 2, [], [(60, 0)]), (45, .iload_n 1, 1, [1], []), (46, .imul, 1, [], []), (47, .iload_n 3, 1, [3], []), (48, .iadd, 1, [], []), (49, .istore 6, 2, [6], []), (51, .aload_n 0, 1, [0], []), (52, .iload 6, 2, [6], []), (54, .iload 4, 2, [4], []), (56, .invokevirtual 276, 3, [202, 3, 1, 12, 4], []), (59, .ifCond .ne 6, 3, [65], []), (62, .bipush (-2), 2, [], [((-2), 0)]), (64, .ireturn, 1, [0], []), (65, .aload_n 0, 1, [0], []), (66, .getfield 279, 3, [12, 31, 0], []), (69, .bipush 8, 2, [], [(8, 0)]), (71, .if_icmp .ne 6, 3, [77], []), (74, .bipush (-4), 2, [], [((-4), 0)]), (76, .ireturn, 1, [0], []), (77, .aload_n 0, 1, [0], []), (78, .getfield 76, 3, [12, 32, 2], []), (81, .aload_n 0, 1, [0], []), (82, .getfield 279, 3, [12, 31, 0], []), (85, .iload 4, 2, [4], []), (87, .iastore, 1, [], []), (88, .iconst 0, 1, [], [(0, 0)]), (89, .istore 7, 2, [7], []), (91, .iload 7, 2, [7], []), (93, .iload 4, 2, [4], []), (95, .if_icmp .ge 34, 3, [129], []), (98, .aload_n 0, 1, [0], []), (99, .getfield 79, 3, [12, 33, 2], []), (102, .bipush 12, 2, [], [(12, 0)]), (104, .aload_n 0, 1, [0], []), (105, .getfield 279, 3, [12, 31, 0], []), (108, .imul, 1, [], []), (109, .iload 7, 2, [7], []), (111, .iadd, 1, [], []), (112, .aload_n 0, 1, [0], []), (113, .getfield 16, 3, [12, 4, 2], []), (116, .iload 6, 2, [6], []), (118, .iload 7, 2, [7], []), (120, .iadd, 1, [], []), (121, .iaload, 1, [], []), (122, .iastore, 1, [], []), (123, .iinc 7 1, 3, [7], [(1, 0)]), (126, .goto (-35), 3, [91], []), (129, .aload_n 0, 1, [0], []), (130, .dup, 1, [], []), (131, .getfield 279, 3, [12, 31, 0], []), (134, .iconst 1, 1, [], [(1, 0)]), (135, .iadd, 1, [], []), (136, .putfield 279, 3, [12, 31, 0], []), (139, .aload_n 0, 1, [0], []), (140, .getfield 279, 3, [12, 31, 0], []), (143, .iconst 1, 1, [], [(1, 0)]), (144, .isub, 1, [], []), (145, .ireturn, 1, [0], [])]
noncomputable def cd204 : List (Nat × AI) := [(0, .aload_n 0, 1, [0], []), (1, .iconst 0, 1, [], [(0, 0)]), (2, .putfield 171, 3, [12, 0, 0], []), (5, .iload_n 3, 1, [3], []), (6, .invokestatic 211, 3, [170, 1, 1, 12, 1], []), (9, .ifCond .ne 5, 3, [14], []), (12, .iconst (-1), 1, [], [((-1), 0)]), (13, .ireturn, 1, [0], []), (14, .iload 4, 2, [4], []), (16, .invokestatic 215, 3, [171, 1, 1, 12, 1], []), (19, .ifCond .eq 22, 3, [41], []), (22, .iload_n 1, 1, [1], []), (23, .iconst 0, 1, [], [(0, 0)]), (24, .bipush 11, 2, [], [(11, 0)]), (26, .invokestatic 176, 3, [168, 3, 1, 12, 3], []), (29, .ifCond .eq 12, 3, [41], []), (32, .iload_n 2, 1, [2], []), (33, .iconst (-1), 1, [], [((-1), 0)]), (34, .iconst 1, 1, [], [(1, 0)]), (35, .invokestatic 176, 3, [168, 3, 1, 12, 3], []), (38, .ifCond .ne 6, 3, [44], []), (41, .bipush (-2), 2, [], [((-2), 0)]), (43, .ireturn, 1, [0], []), (44, .aload_n 0, 1, [0], []), (45, .iload_n 3, 1, [3], []), (46, .iload 4, 2, [4], []), (48, .iload 5, 2, [5], []), (50, .iload 6, 2, [6], []), (52, .invokevirtual 218, 3, [172, 5, 1, 12, 5], []), (55, .istore 7, 2, [7], []), (57, .iload 7, 2, [7], []), (59, .ifCond .eq 6, 3, [65], []), (62, .iload 7, 2, [7], []), (64, .ireturn, 1, [0], []), (65, .bipush 60, 2, [], [(60, 0)]), (67, .iload_n 3, 1, [3], []), (68, .imul, 1, [], []), (69, .iload 5, 2, [5], []), (71, .iadd, 1, [], []), (72, .istore 8, 2, [8], []), (74, .aload_n 0, 1, [0], []), (75, .iload 8, 2, [8], []), (77, .iload 6, 2, [6], []), (79, .invokevirtual 276, 3, [202, 3, 1, 12, 4], []), (82, .ifCond .ne 6, 3, [88], []), (85, .bipush (-2), 2, [], [((-2), 0)]), (87, .ireturn, 1, [0], []), (88, .aload_n 0, 1, [0], []), (89, .getfield 282, 3, [12, 34, 0], []), (92, .bipush 12, 2, [], [(12, 0)]), (94, .if_icmp .ne 6, 3, [100], []), (97, .bipush (-4), 2, [], [((-4), 0)]), (99, .ireturn, 1, [0], []), (100, .aload_n 0, 1, [0], []), (101, .getfield 82, 3, [12, 35, 2], []), (104, .aload_n 0, 1, [0], []), (105, .getfield 282, 3, [12, 34, 0], []), (108, .iload_n 1, 1, [1], []), (109, .iastore, 1, [], []), (110, .aload_n 0, 1, [0], []), (111, .getfield 85, 3, [12, 36, 2], []), (114, .aload_n 0, 1, [0], []), (115, .getfield 282, 3, [12, 34, 0], []), (118, .iload_n 2, 1, [2], []), (119, .iastore, 1, [], []), (120, .aload_n 0, 1, [0], []), (121, .getfield 88, 3, [12, 37, 2], []), (124, .aload_n 0, 1, [0], []), (125, .getfield 282, 3, [12, 34, 0], []), (128, .iload 6, 2, [6], []), (130, .iastore, 1, [], []), (131, .iconst 0, 1, [], [(0, 0)]), (132, .istore 9, 2, [9], []), (134, .iload 9, 2, [9], []), (136, .iload 6, 2, [6], []), (138, .if_icmp .ge 34, 3, [172], []), (141, .aload_n 0, 1, [0], []), (142, .getfield 91, 3, [12, 38, 2], []), (145, .bipush 12, 2, [], [(12, 0)]), (147, .aload_n 0, 1, [0], []), (148, .getfield 282, 3, [12, 34, 0], []), (151, .imul, 1, [], []), (152, .iload 9, 2, [9], []), (154, .iadd, 1, [], []), (155, .aload_n 0, 1, [0], []), (156, .getfield 16, 3, [12, 4, 2], []), (159, .iload 8, 2, [8], []), (161, .iload 9, 2, [9], []), (163, .iadd, 1, [], []), (164, .iaload, 1, [], []), (165, .iastore, 1, [], []), (166, .iinc 9 1, 3, [9], [(1, 0)]), (169, .goto (-35), 3, [134], []), (172, .aload_n 0, 1, [0], []), (173, .dup, 1, [], []), (174, .getfield 282, 3, [12, 34, 0], []), (177, .iconst 1, 1, [], [(1, 0)]), (178, .iadd, 1, [], []), (179, .putfield 282, 3, [12, 34, 0], []), (182, .aload_n 0, 1, [0], []), (183, .getfield 282, 3, [12, 34, 0], []), (186, .iconst 1, 1, [], [(1, 0)]), (187, .isub, 1, [], []), (188, .ireturn, 1, [0], [])]
noncomputable def cd205 : List (Nat × AI) := [(0, .iload_n 1, 1, [1], []), (1, .ifCond .lt 15, 3, [16], []), (4, .iload_n 1, 1, [1], []), (5, .aload_n 0, 1, [0], []), (6, .getfield 282, 3, [12, 34, 0], []), (9, .if_icmp .ge 7, 3, [16], []), (12, .iconst 1, 1, [], [(1, 0)]), (13, .goto 4, 3, [17], []), (16, .iconst 0, 1, [], [(0, 0)]), (17, .ireturn, 1, [1], [])]
noncomputable def cd206 : List (Nat × AI) := [(0, .aload_n 0, 1, [0], []), (1, .iload_n 1, 1, [1], []), (2, .invokevirtual 285, 3, [205, 2, 1, 12, 2], []), (5, .ifCond .ne 5, 3, [10], []), (8, .iconst (-1), 1, [], [((-1), 0)]), (9, .ireturn, 1, [0], []), (10, .iload_n 2, 1, [2], []), (11, .iconst (-1), 1, [], [((-1), 0)]), (12, .iconst 1, 1, [], [(1, 0)]), (13, .invokestatic 176, 3, [168, 3, 1, 12, 3], []), (16, .ifCond .ne 6, 3, [22], []), (19, .bipush (-2), 2, [], [((-2), 0)]), (21, .ireturn, 1, [0], []), (22, .aload_n 0, 1, [0], []), (23, .getfield 85, 3, [12, 36, 2], []), (26, .iload_n 1, 1, [1], []), (27, .iaload, 1, [], []), (28, .istore_n 3, 1, [3], []), (29, .aload_n 0, 1, [0], []), (30, .getfield 85, 3, [12, 36, 2], []), (33, .iload_n 1, 1, [1], []), (34, .iload_n 2, 1, [2], []), (35, .iastore, 1, [], []), (36, .iload_n 3, 1, [3], []), (37, .iconst (-1), 1, [], [((-1), 0)]), (38, .if_icmp .ne 8, 3, [46], []), (41, .bipush (-9), 2, [], [((-9), 0)]), (43, .goto 4, 3, [47], []), (46, .iload_n 3, 1, [3], []), (47, .ireturn, 1, [0], [])]
noncomputable def cd207 : List (Nat × AI) := [(0, .aload_n 0, 1, [0], []), (1, .getfield 79, 3, [12, 33, 2], []), (4, .bipush 12, 2, [], [(12, 0)]), (6, .iload_n 1, 1, [1], []), (7, .imul, 1, [], []), (8, .iload_n 2, 1, [2], []), (9, .aload_n 0, 1, [0], []), (10, .getfield 76, 3, [12, 32, 2], []), (13, .iload_n 1, 1, [1], []), (14, .iaload, 1, [], []), (15, .irem, 1, [], []), (16, .iadd, 1, [], []), (17, .iaload, 1, [], []), (18, .ireturn, 1, [0], [])]
noncomputable def cd208 : List (Nat × AI) := [(0, .iconst 0, 1, [], [(0, 0)]), (1, .istore_n 3, 1, [3], []), (2, .iload_n 3, 1, [3], []), (3, .aload_n 0, 1, [0], []), (4, .getfield 88, 3, [12, 37, 2], []), (7, .iload_n 2, 1, [2], []), (8, .iaload, 1, [], []), (9, .if_icmp .ge 108, 3, [117], []), (12, .aload_n 0, 1, [0], []), (13, .getfield 82, 3, [12, 35, 2], []), (16, .iload_n 2, 1, [2], []), (17, .iaload, 1, [], []), (18, .iload_n 3, 1, [3], []), (19, .iadd, 1, [], []), (20, .istore 4, 2, [4], []), (22, .aload_n 0, 1, [0], []), (23, .getfield 91, 3, [12, 38, 2], []), (26, .bipush 12, 2, [], [(12, 0)]), (28, .iload_n 2, 1, [2], []), (29, .imul, 1, [], []), (30, .iload_n 3, 1, [3], []), (31, .iadd, 1, [], []), (32, .iaload, 1, [], []), (33, .istore 5, 2, [5], []), (35, .aload_n 0, 1, [0], []), (36, .iload_n 1, 1, [1], []), (37, .iload 4, 2, [4], []), (39, .invokevirtual 288, 3, [207, 3, 1, 12, 3], []), (42, .iload 5, 2, [5], []), (44, .if_icmp .ne 5, 3, [49], []), (47, .iconst 1, 1, [], [(1, 0)]), (48, .ireturn, 1, [1], []), (49, .iload_n 3, 1, [3], []), (50, .iconst 1, 1, [], [(1, 0)]), (51, .iadd, 1, [], []), (52, .aload_n 0, 1, [0], []), (53, .getfield 88, 3, [12, 37, 2], []), (56, .iload_n 2, 1, [2], []), (57, .iaload, 1, [], []), (58, .if_icmp .ge 53, 3, [111], []), (61, .aload_n 0, 1, [0], []), (62, .getfield 91, 3, [12, 38, 2], []), (65, .bipush 12, 2, [], [(12, 0)]), (67, .iload_n 2, 1, [2], []), (68, .imul, 1, [], []), (69, .iload_n 3, 1, [3], []), (70, .iadd, 1, [], []), (71, .iconst 1, 1, [], [(1, 0)]), (72, .iadd, 1, [], []), (73, .iaload, 1, [], []), (74, .istore 6, 2, [6], []), (76, .iload 6, 2, [6], []), (78, .iload 5, 2, [5], []), (80, .if_icmp .eq 31, 3, [111], []), (83, .aload_n 0, 1, [0], []), (84, .iload_n 1, 1, [1], []), (85, .iload 4, 2, [4], []), (87, .invokevirtual 288, 3, [207, 3, 1, 12, 3], []), (90, .iload 6, 2, [6], []), (92, .if_icmp .ne 19, 3, [111], []), (95, .aload_n 0, 1, [0], []), (96, .iload_n 1, 1, [1], []), (97, .iload 4, 2, [4], []), (99, .iconst 1, 1, [], [(1, 0)]), (100, .iadd, 1, [], []), (101, .invokevirtual 288, 3, [207, 3, 1, 12, 3], []), (104, .iload 5, 2, [5], []), (106, .if_icmp .ne 5, 3, [111], []), (109, .iconst 1, 1, [], [(1, 0)]), (110, .ireturn, 1, [1], []), (111, .iinc 3 1, 3, [3], [(1, 0)]), (114, .goto (-112), 3, [2], []), (117, .iconst 0, 1, [], [(0, 0)]), (118, .ireturn, 1, [1], [])]
noncomputable def cd209 : List (Nat × AI) := [(0, .iconst 0, 1, [], [(0, 0)]), (1, .istore_n 2, 1, [2], []), (2, .iconst 0, 1, [], [(0, 0)]), (3, .istore_n 3, 1, [3], []), (4, .iload_n 3, 1, [3], []), (5, .aload_n 0, 1, [0], []), (6, .getfield 279, 3, [12, 31, 0], []), (9, .if_icmp .ge 28, 3, [37], []), (12, .iload_n 2, 1, [2], []), (13, .aload_n 0, 1, [0], []), (14, .iload_n 3, 1, [3], []), (15, .iload_n 1, 1, [1], []), (16, .invokevirtual 291, 3, [208, 3, 1, 12, 7], []), (19, .ifCond .eq 9, 3, [28], []), (22, .iconst 1, 1, [], [(1, 0)]), (23, .iload_n 3, 1, [3], []), (24, .ishl, 1, [], []), (25, .goto 4, 3, [29], []), (28, .iconst 0, 1, [], [(0, 0)]), (29, .ior, 1, [], []), (30, .istore_n 2, 1, [2], []), (31, .iinc 3 1, 3, [3], [(1, 0)]), (34, .goto (-30), 3, [4], []), (37, .iload_n 2, 1, [2], []), (38, .ireturn, 1, [0], [])]
noncomputable def cd210 : List (Nat × AI) := [(0, .aload_n 0, 1, [0], []), (1, .iload_n 1, 1, [1], []), (2, .invokevirtual 285, 3, [205, 2, 1, 12, 2], []), (5, .ifCond .eq 11, 3, [16], []), (8, .aload_n 0, 1, [0], []), (9, .iload_n 1, 1, [1], []), (10, .invokevirtual 294, 3, [209, 2, 1, 12, 4], []), (13, .goto 4, 3, [17], []), (16, .iconst (-1), 1, [], [((-1), 0)]), (17, .ireturn, 1, [0], [])]
noncomputable def cd211 : List (Nat × AI) := [(0, .iconst 0, 1, [], [(0, 0)]), (1, .istore_n 1, 1, [1], []), (2, .iload_n 1, 1, [1], []), (3, .aload_n 0, 1, [0], []), (4, .getfield 282, 3, [12, 34, 0], []), (7, .if_icmp .ge 20, 3, [27], []), (10, .aload_n 0, 1, [0], []), (11, .getfield 94, 3, [12, 39, 2], []), (14, .iload_n 1, 1, [1], []), (15, .aload_n 0, 1, [0], []), (16, .iload_n 1, 1, [1], []), (17, .invokevirtual 294, 3, [209, 2, 1, 12, 4], []), (20, .iastore, 1, [], []), (21, .iinc 1 1, 3, [1], [(1, 0)]), (24, .goto (-22), 3, [2], []), (27, .return_, 1, [], [])]
noncomputable def cd212 : List (Nat × AI) := [(0, .iconst 0, 1, [], [(0, 0)]), (1, .istore_n 2, 1, [2], []), (2, .iload_n 2, 1, [2], []), (3, .aload_n 0, 1, [0], []), (4, .getfield 282, 3, [12, 34, 0], []), (7, .if_icmp .ge 57, 3, [64], []), (10, .aload_n 0, 1, [0], []), (11, .getfield 94, 3, [12, 39, 2], []), (14, .iload_n 2, 1, [2], []), (15, .iaload, 1, [], []), (16, .iload_n 1, 1, [1], []), (17, .iconst (-1), 1, [], [((-1), 0)]), (18, .ixor, 1, [], []), (19, .iand, 1, [], []), (20, .ifCond .ne 7, 3, [27], []), (23, .iconst 1, 1, [], [(1, 0)]), (24, .goto 4, 3, [28], []), (27, .iconst 0, 1, [], [(0, 0)]), (28, .istore_n 3, 1, [3], []), (29, .aload_n 0, 1, [0], []), (30, .getfield 85, 3, [12, 36, 2], []), (33, .iload_n 2, 1, [2], []), (34, .iaload, 1, [], []), (35, .iconst 1, 1, [], [(1, 0)]), (36, .if_icmp .ne 7, 3, [43], []), (39, .iload_n 3, 1, [3], []), (40, .ifCond .eq 16, 3, [56], []), (43, .aload_n 0, 1, [0], []), (44, .getfield 85, 3, [12, 36, 2], []), (47, .iload_n 2, 1, [2], []), (48, .iaload, 1, [], []), (49, .ifCond .ne 9, 3, [58], []), (52, .iload_n 3, 1, [3], []), (53, .ifCond .eq 5, 3, [58], []), (56, .iconst 0, 1, [], [(0, 0)]), (57, .ireturn, 1, [1], []), (58, .iinc 2 1, 3, [2], [(1, 0)]), (61, .goto (-59), 3, [2], []), (64, .iconst 1, 1, [], [(1, 0)]), (65, .ireturn, 1, [1], [])]
noncomputable def cd213 : List (Nat × AI) := [(0, .aload_n 0, 1, [0], []), (1, .invokevirtual 297, 3, [211, 1, 0, 12, 2], []), (4, .iconst 0, 1, [], [(0, 0)]), (5, .istore_n 1, 1, [1], []), (6, .iconst 0, 1, [], [(0, 0)]), (7, .istore_n 2, 1, [2], []), (8, .iload_n 2, 1, [2], []), (9, .iconst 1, 1, [], [(1, 0)]), (10, .aload_n 0, 1, [0], []), (11, .getfield 279, 3, [12, 31, 0], []), (14, .ishl, 1, [], []), (15, .if_icmp .ge 25, 3, [40], []), (18, .iload_n 1, 1, [1], []), (19, .aload_n 0, 1, [0], []), (20, .iload_n 2, 1, [2], []), (21, .invokevirtual 300, 3, [212, 2, 1, 12, 4], []), (24, .ifCond .eq 7, 3, [31], []), (27, .iconst 1, 1, [], [(1, 0)]), (28, .goto 4, 3, [32], []), (31, .iconst 0, 1, [], [(0, 0)]), (32, .iadd, 1, [], []), (33, .istore_n 1, 1, [1], []), (34, .iinc 2 1, 3, [2], [(1, 0)]), (37, .goto (-29), 3, [8], []), (40, .iload_n 1, 1, [1], []), (41, .ireturn, 1, [0], [])]
noncomputable def cd214 : List (Nat × AI) := [(0, .iload_n 1, 1, [1], []), (1, .iconst 0, 1, [], [(0, 0)]), (2, .iconst 1, 1, [], [(1, 0)]), (3, .invokestatic 176, 3, [168, 3, 1, 12, 3], []), (6, .ifCond .ne 6, 3, [12], []), (9, .bipush (-2), 2, [], [((-2), 0)]), (11, .ireturn, 1, [0], []), (12, .iload_n 2, 1, [2], []), (13, .ifCond .lt 22, 3, [35], []), (16, .iload_n 2, 1, [2], []), (17, .iload_n 1, 1, [1], []), (18, .ifCond .ne 10, 3, [28], []), (21, .aload_n 0, 1, [0], []), (22, .getfield 279, 3, [12, 31, 0], []), (25, .goto 7, 3, [32], []), (28, .aload_n 0, 1, [0], []), (29, .getfield 282, 3, [12, 34, 0], []), (32, .if_icmp .lt 5, 3, [37], []), (35, .iconst (-1), 1, [], [((-1), 0)]), (36, .ireturn, 1, [0], []), (37, .aload_n 0, 1, [0], []), (38, .invokevirtual 297, 3, [211, 1, 0, 12, 2], []), (41, .iload_n 1, 1, [1], []), (42, .ifCond .ne 9, 3, [51], []), (45, .iconst 1, 1, [], [(1, 0)]), (46, .iload_n 2, 1, [2], []), (47, .ishl, 1, [], []), (48, .goto 9, 3, [57], []), (51, .aload_n 0, 1, [0], []), (52, .getfield 94, 3, [12, 39, 2], []), (55, .iload_n 2, 1, [2], []), (56, .iaload, 1, [], []), (57, .istore_n 3, 1, [3], []), (58, .iconst 0, 1, [], [(0, 0)]), (59, .istore 4, 2, [4], []), (61, .iconst 0, 1, [], [(0, 0)]), (62, .istore 5, 2, [5], []), (64, .iconst 0, 1, [], [(0, 0)]), (65, .istore 6, 2, [6], []), (67, .iload 6, 2, [6], []), (69, .iconst 1, 1, [], [(1, 0)]), (70, .aload_n 0, 1, [0], []), (71, .getfield 279, 3, [12, 31, 0], []), (74, .ishl, 1, [], []), (75, .if_icmp .ge 40, 3, [115], []), (78, .aload_n 0, 1, [0], []), (79, .iload 6, 2, [6], []), (81, .invokevirtual 300, 3, [212, 2, 1, 12, 4], []), (84, .ifCond .eq 25, 3, [109], []), (87, .iinc 4 1, 3, [4], [(1, 0)]), (90, .iload 5, 2, [5], []), (92, .iload_n 3, 1, [3], []), (93, .iload 6, 2, [6], []), (95, .iconst (-1), 1, [], [((-1), 0)]), (96, .ixor, 1, [], []), (97, .iand, 1, [], []), (98, .ifCond .ne 7, 3, [105], []), (101, .iconst 1, 1, [], [(1, 0)]), (102, .goto 4, 3, [106], []), (105, .iconst 0, 1, [], [(0, 0)]), (106, .iadd, 1, [], []), (107, .istore 5, 2, [5], []), (109, .iinc 6 1, 3, [6], [(1, 0)]), (112, .goto (-45), 3, [67], []), (115, .iload 4, 2, [4], []), (117, .ifCond .ne 8, 3, [125], []), (120, .bipush (-9), 2, [], [((-9), 0)]), (122, .goto 24, 3, [146], []), (125, .iload 5, 2, [5], []), (127, .iload 4, 2, [4], []), (129, .if_icmp .ne 7, 3, [136], []), (132, .iconst 2, 1, [], [(2, 0)]), (133, .goto 13, 3, [146], []), (136, .iload 5, 2, [5], []), (138, .ifCond .ne 7, 3, [145], []), (141, .iconst 0, 1, [], [(0, 0)]), (142, .goto 4, 3, [146], []), (145, .iconst 1, 1, [], [(1, 0)]), (146, .ireturn, 1, [0], [])]
noncomputable def cd215 : List (Nat × AI) := [(0, .iload_n 1, 1, [1], []), (1, .ifCond .lt 15, 3, [16], []), (4, .iload_n 1, 1, [1], []), (5, .aload_n 0, 1, [0], []), (6, .getfield 303, 3, [12, 40, 0], []), (9, .if_icmp .ge 7, 3, [16], []), (12, .iconst 1, 1, [], [(1, 0)]), (13, .goto 4, 3, [17], []), (16, .iconst 0, 1, [], [(0, 0)]), (17, .ireturn, 1, [1], [])]
noncomputable def cd216 : List (Nat × AI) := [(0, .iload_n 1, 1, [1], []), (1, .ifCond .lt 15, 3, [16], []), (4, .iload_n 1, 1, [1], []), (5, .aload_n 0, 1, [0], []), (6, .getfield 306, 3, [12, 43, 0], []), (9, .if_icmp .ge 7, 3, [16], []), (12, .iconst 1, 1, [], [(1, 0)]), (13, .goto 4, 3, [17], []), (16, .iconst 0, 1, [], [(0, 0)]), (17, .ireturn, 1, [1], [])]
noncomputable def cd217 : List (Nat × AI) := [(0, .iload_n 1, 1, [1], []), (1, .iconst 0, 1, [], [(0, 0)]), (2, .iconst 2, 1, [], [(2, 0)]), (3, .invokestatic 176, 3, [168, 3, 1, 12, 3], []), (6, .ifCond .eq 13, 3, [19], []), (9, .iload_n 2, 1, [2], []), (10, .iconst 0, 1, [], [(0, 0)]), (11, .bipush 99, 2, [], [(99, 0)]), (13, .invokestatic 176, 3, [168, 3, 1, 12, 3], []), (16, .ifCond .ne 6, 3, [22], []), (19, .bipush (-2), 2, [], [((-2), 0)]), (21, .ireturn, 1, [0], []), (22, .aload_n 0, 1, [0], []), (23, .getfield 303, 3, [12, 40, 0], []), (26, .bipush 12, 2, [], [(12, 0)]), (28, .if_icmp .ne 6, 3, [34], []), (31, .bipush (-4), 2, [], [((-4), 0)]), (33, .ireturn, 1, [0], []), (34, .aload_n 0, 1, [0], []), (35, .getfield 97, 3, [12, 41, 2], []), (38, .aload_n 0, 1, [0], []), (39, .getfield 303, 3, [12, 40, 0], []), (42, .iload_n 1, 1, [1], []), (43, .iastore, 1, [], []), (44, .aload_n 0, 1, [0], []), (45, .getfield 100, 3, [12, 42, 2], []), (48, .aload_n 0, 1, [0], []), (49, .getfield 303, 3, [12, 40, 0], []), (52, .iload_n 2, 1, [2], []), (53, .iastore, 1, [], []), (54, .aload_n 0, 1, [0], []), (55, .dup, 1, [], []), (56, .getfield 303, 3, [12, 40, 0], []), (59, .iconst 1, 1, [], [(1, 0)]), (60, .iadd, 1, [], []), (61, .putfield 303, 3, [12, 40, 0], []), (64, .aload_n 0, 1, [0], []), (65, .getfield 303, 3, [12, 40, 0], []), (68, .iconst 1, 1, [], [(1, 0)]), (69, .isub, 1, [], []), (70, .ireturn, 1, [0], [])]
noncomputable def cd218 : List (Nat × AI) := [(0, .aload_n 0, 1, [0], []), (1, .getfield 306, 3, [12, 43, 0], []), (4, .bipush 12, 2, [], [(12, 0)]), (6, .if_icmp .ne 6, 3, [12], []), (9, .bipush (-4), 2, [], [((-4), 0)]), (11, .ireturn, 1, [0], []), (12, .aload_n 0, 1, [0], []), (13, .dup, 1, [], []), (14, .getfield 306, 3, [12, 43, 0], []), (17, .iconst 1, 1, [], [(1, 0)]), (18, .iadd, 1, [], []), (19, .putfield 306, 3, [12, 43, 0], []), (22, .aload_n 0, 1, [0], []), (23, .getfield 306, 3, [12, 43, 0], []), (26, .iconst 1, 1, [], [(1, 0)]), (27, .isub, 1, [], []), (28, .ireturn, 1, [0], [])]
noncomputable def cd219 : List (Nat × AI) := [(0, .aload_n 0, 1, [0], []), (1, .getfield 309, 3, [12, 44, 0], []), (4, .bipush 60, 2, [], [(60, 0)]), (6, .if_icmp .ne 6, 3, [12], []), (9, .bipush (-4), 2, [], [((-4), 0)]), (11, .ireturn, 1, [0], []), (12, .aload_n 0, 1, [0], []), (13, .getfield 103, 3, [12, 45, 2], []), (16, .aload_n 0, 1, [0], []), (17, .getfield 309, 3, [12, 44, 0], []), (20, .iload_n 1, 1, [1], []), (21, .iastore, 1, [], []), (22, .aload_n 0, 1, [0], []), (23, .getfield 106, 3, [12, 46, 2], []), (26, .aload_n 0, 1, [0], []), (27, .getfield 309, 3, [12, 44, 0], []), (30, .iload_n 2, 1, [2], []), (31, .iastore, 1, [], []), (32, .aload_n 0, 1, [0], []), (33, .getfield 109, 3, [12, 47, 2], []), (36, .aload_n 0, 1, [0], []), (37, .getfield 309, 3, [12, 44, 0], []), (40, .iload_n 3, 1, [3], []), (41, .bastore, 1, [], []), (42, .aload_n 0, 1, [0], []), (43, .getfield 113, 3, [12, 48, 2], []), (46, .aload_n 0, 1, [0], []), (47, .getfield 309, 3, [12, 44, 0], []), (50, .iload 4, 2, [4], []), (52, .iastore, 1, [], []), (53, .aload_n 0, 1, [0], []), (54, .dup, 1, [], []), (55, .getfield 309, 3, [12, 44, 0], []), (58, .iconst 1, 1, [], [(1, 0)]), (59, .iadd, 1, [], []), (60, .putfield 309, 3, [12, 44, 0], []), (63, .aload_n 0, 1, [0], []), (64, .getfield 309, 3, [12, 44, 0], []), (67, .iconst 1, 1, [], [(1, 0)]), (68, .isub, 1, [], []), (69, .ireturn, 1, [0], [])]
noncomputable def cd220 : List (Nat × AI) := [(0, .aload_n 0, 1, [0], []), (1, .iload_n 1, 1, [1], []), (2, .invokevirtual 312, 3, [216, 2, 1, 12, 2], []), (5, .ifCond .eq 11, 3, [16], []), (8, .aload_n 0, 1, [0], []), (9, .iload_n 2, 1, [2], []), (10, .invokevirtual 315, 3, [215, 2, 1, 12, 2], []), (13, .ifCond .ne 5, 3, [18], []), (16, .iconst (-1), 1, [], [((-1), 0)]), (17, .ireturn, 1, [0], []), (18, .iload_n 3, 1, [3], []), (19, .invokestatic 236, 3, [169, 1, 1, 12, 1], []), (22, .ifCond .eq 14, 3, [36], []), (25, .aload_n 0, 1, [0], []), (26, .iload_n 1, 1, [1], []), (27, .iload_n 2, 1, [2], []), (28, .iconst 0, 1, [], [(0, 0)]), (29, .iload_n 3, 1, [3], []), (30, .invokevirtual 318, 3, [219, 5, 1, 12, 5], []), (33, .goto 5, 3, [38], []), (36, .bipush (-2), 2, [], [((-2), 0)]), (38, .ireturn, 1, [0], [])]
noncomputable def cd221 : List (Nat × AI) := [(0, .aload_n 0, 1, [0], []), (1, .iload_n 1, 1, [1], []), (2, .invokevirtual 312, 3, [216, 2, 1, 12, 2], []), (5, .ifCond .ne 5, 3, [10], []), (8, .iconst (-1), 1, [], [((-1), 0)]), (9, .ireturn, 1, [0], []), (10, .iload_n 3, 1, [3], []), (11, .invokestatic 236, 3, [169, 1, 1, 12, 1], []), (14, .ifCond .eq 15, 3, [29], []), (17, .aload_n 0, 1, [0], []), (18, .iload_n 1, 1, [1], []), (19, .bipush (-9), 2, [], [((-9), 0)]), (21, .iload_n 2, 1, [2], []), (22, .iload_n 3, 1, [3], []), (23, .invokevirtual 318, 3, [219, 5, 1, 12, 5], []), (26, .goto 5, 3, [31], []), (29, .bipush (-2), 2, [], [((-2), 0)]), (31, .ireturn, 1, [0], [])]
noncomputable def cd222 : List (Nat × AI) := [(0, .aload_n 0, 1, [0], []), (1, .iconst 0, 1, [], [(0, 0)]), (2, .putfield 322, 3, [12, 50, 0], []), (5, .aload_n 0, 1, [0], []), (6, .iconst 0, 1, [], [(0, 0)]), (7, .putfield 325, 3, [12, 51, 0], []), (10, .iconst 0, 1, [], [(0, 0)]), (11, .istore_n 2, 1, [2], []), (12, .iload_n 2, 1, [2], []), (13, .bipush 12, 2, [], [(12, 0)]), (15, .if_icmp .ge 16, 3, [31], []), (18, .aload_n 0, 1, [0], []), (19, .getfield 116, 3, [12, 49, 2], []), (22, .iload_n 2, 1, [2], []), (23, .iconst 0, 1, [], [(0, 0)]), (24, .iastore, 1, [], []), (25, .iinc 2 1, 3, [2], [(1, 0)]), (28, .goto (-16), 3, [12], []), (31, .iconst 0, 1, [], [(0, 0)]), (32, .istore_n 2, 1, [2], []), (33, .iload_n 2, 1, [2], []), (34, .aload_n 0, 1, [0], []), (35, .getfield 309, 3, [12, 44, 0], []), (38, .if_icmp .ge 127, 3, [165], []), (41, .aload_n 0, 1, [0], []), (42, .getfield 113, 3, [12, 48, 2], []), (45, .iload_n 2, 1, [2], []), (46, .iaload, 1, [], []), (47, .iload_n 1, 1, [1], []), (48, .if_icmp .le 6, 3, [54], []), (51, .goto 108, 3, [159], []), (54, .iconst 1, 1, [], [(1, 0)]), (55, .aload_n 0, 1, [0], []), (56, .getfield 103, 3, [12, 45, 2], []), (59, .iload_n 2, 1, [2], []), (60, .iaload, 1, [], []), (61, .ishl, 1, [], []), (62, .istore_n 3, 1, [3], []), (63, .aload_n 0, 1, [0], []), (64, .getfield 106, 3, [12, 46, 2], []), (67, .iload_n 2, 1, [2], []), (68, .iaload, 1, [], []), (69, .bipush (-9), 2, [], [((-9), 0)]), (71, .if_icmp .eq 28, 3, [99], []), (74, .aload_n 0, 1, [0], []), (75, .getfield 116, 3, [12, 49, 2], []), (78, .aload_n 0, 1, [0], []), (79, .getfield 103, 3, [12, 45, 2], []), (82, .iload_n 2, 1, [2], []), (83, .iaload, 1, [], []), (84, .dup2, 1, [], []), (85, .iaload, 1, [], []), (86, .iconst 1, 1, [], [(1, 0)]), (87, .aload_n 0, 1, [0], []), (88, .getfield 106, 3, [12, 46, 2], []), (91, .iload_n 2, 1, [2], []), (92, .iaload, 1, [], []), (93, .ishl, 1, [], []), (94, .ior, 1, [], []), (95, .iastore, 1, [], []), (96, .goto 63, 3, [159], []), (99, .aload_n 0, 1, [0], []), (100, .aload_n 0, 1, [0], []), (101, .getfield 109, 3, [12, 47, 2], []), (104, .iload_n 2, 1, [2], []), (105, .baload, 1, [], []), (106, .ifCond .eq 12, 3, [118], []), (109, .aload_n 0, 1, [0], []), (110, .getfield 322, 3, [12, 50, 0], []), (113, .iload_n 3, 1, [3], []), (114, .ior, 1, [], []), (115, .goto 11, 3, [126], []), (118, .aload_n 0, 1, [0], []), (119, .getfield 322, 3, [12, 50, 0], []), (122, .iload_n 3, 1, [3], []), (123, .iconst (-1), 1, [], [((-1), 0)]), (124, .ixor, 1, [], []), (125, .iand, 1, [], []), (126, .putfield 322, 3, [12, 50, 0], []), (129, .aload_n 0, 1, [0], []), (130, .aload_n 0, 1, [0], []), (131, .getfield 109, 3, [12, 47, 2], []), (134, .iload_n 2, 1, [2], []), (135, .baload, 1, [], []), (136, .ifCond .eq 14, 3, [150], []), (139, .aload_n 0, 1, [0], []), (140, .getfield 325, 3, [12, 51, 0], []), (143, .iload_n 3, 1, [3], []), (144, .iconst (-1), 1, [], [((-1), 0)]), (145, .ixor, 1, [], []), (146, .iand, 1, [], []), (147, .goto 9, 3, [156], []), (150, .aload_n 0, 1, [0], []), (151, .getfield 325, 3, [12, 51, 0], []), (154, .iload_n 3, 1, [3], []), (155, .ior, 1, [], []), (156, .putfield 325, 3, [12, 51, 0], []), (159, .iinc 2 1, 3, [2], [(1, 0)]), (162, .goto (-129), 3, [33], []), (165, .return_, 1, [], [])]
noncomputable def cd223 : List (Nat × AI) := [(0, .iconst 0, 1, [], [(0, 0)]), (1, .istore_n 1, 1, [1], []), (2, .iconst 0, 1, [], [(0, 0)]), (3, .istore_n 2, 1, [2], []), (4, .iload_n 2, 1, [2], []), (5, .bipush 12, 2, [], [(12, 0)]), (7, .if_icmp .ge 17, 3, [24], []), (10, .iload_n 1, 1, [1], []), (11, .iload_n 0, 1, [0], []), (12, .iload_n 2, 1, [2], []), (13, .ishr, 1, [], []), (14, .iconst 1, 1, [], [(1, 0)]), (15, .iand, 1, [], []), (16, .iadd, 1, [], []), (17, .istore_n 1, 1, [1], []), (18, .iinc 2 1, 3, [2], [(1, 0)]), (21, .goto (-17), 3, [4], []), (24, .iload_n 1, 1, [1], []), (25, .ireturn, 1, [0], [])]
noncomputable def cd224 : List (Nat × AI) := [(0, .iconst 0, 1, [], [(0, 0)]), (1, .istore_n 2, 1, [2], []), (2, .iload_n 2, 1, [2], []), (3, .aload_n 0, 1, [0], []), (4, .getfield 306, 3, [12, 43, 0], []), (7, .if_icmp .ge 60, 3, [67], []), (10, .aload_n 0, 1, [0], []), (11, .getfield 116, 3, [12, 49, 2], []), (14, .iload_n 2, 1, [2], []), (15, .iaload, 1, [], []), (16, .iload_n 1, 1, [1], []), (17, .iand, 1, [], []), (18, .ifCond .eq 7, 3, [25], []), (21, .iconst 1, 1, [], [(1, 0)]), (22, .goto 4, 3, [26], []), (25, .iconst 0, 1, [], [(0, 0)]), (26, .istore_n 3, 1, [3], []), (27, .aload_n 0, 1, [0], []), (28, .getfield 322, 3, [12, 50, 0], []), (31, .iload_n 2, 1, [2], []), (32, .ishr, 1, [], []), (33, .iconst 1, 1, [], [(1, 0)]), (34, .iand, 1, [], []), (35, .iconst 1, 1, [], [(1, 0)]), (36, .if_icmp .ne 7, 3, [43], []), (39, .iload_n 3, 1, [3], []), (40, .ifCond .eq 19, 3, [59], []), (43, .aload_n 0, 1, [0], []), (44, .getfield 325, 3, [12, 51, 0], []), (47, .iload_n 2, 1, [2], []), (48, .ishr, 1, [], []), (49, .iconst 1, 1, [], [(1, 0)]), (50, .iand, 1, [], []), (51, .iconst 1, 1, [], [(1, 0)]), (52, .if_icmp .ne 9, 3, [61], []), (55, .iload_n 3, 1, [3], []), (56, .ifCond .eq 5, 3, [61], []), (59, .iconst 0, 1, [], [(0, 0)]), (60, .ireturn, 1, [1], []), (61, .iinc 2 1, 3, [2], [(1, 0)]), (64, .goto (-62), 3, [2], []), (67, .iconst 1, 1, [], [(1, 0)]), (68, .ireturn, 1, [1], [])]
noncomputable def cd225 : List (Nat × AI) := [(0, .aload_n 0, 1, [0], []), (1, .iload_n 1, 1, [1], []), (2, .invokevirtual 328, 3, [222, 2, 0, 12, 4], []), (5, .aload_n 0, 1, [0], []), (6, .iconst 0, 1, [], [(0, 0)]), (7, .putfield 331, 3, [12, 52, 0], []), (10, .aload_n 0, 1, [0], []), (11, .bipush (-9), 2, [], [((-9), 0)]), (13, .putfield 334, 3, [12, 53, 0], []), (16, .aload_n 0, 1, [0], []), (17, .iconst 0, 1, [], [(0, 0)]), (18, .putfield 337, 3, [12, 54, 0], []), (21, .aload_n 0, 1, [0], []), (22, .iconst 0, 1, [], [(0, 0)]), (23, .putfield 340, 3, [12, 55, 0], []), (26, .iconst 0, 1, [], [(0, 0)]), (27, .istore_n 2, 1, [2], []), (28, .iload_n 2, 1, [2], []), (29, .iconst 1, 1, [], [(1, 0)]), (30, .aload_n 0, 1, [0], []), (31, .getfield 303, 3, [12, 40, 0], []), (34, .ishl, 1, [], []), (35, .if_icmp .ge 96, 3, [131], []), (38, .aload_n 0, 1, [0], []), (39, .iload_n 2, 1, [2], []), (40, .invokevirtual 343, 3, [224, 2, 1, 12, 4], []), (43, .ifCond .ne 6, 3, [49], []), (46, .goto 79, 3, [125], []), (49, .aload_n 0, 1, [0], []), (50, .aload_n 0, 1, [0], []), (51, .getfield 331, 3, [12, 52, 0], []), (54, .ifCond .ne 7, 3, [61], []), (57, .iload_n 2, 1, [2], []), (58, .goto 9, 3, [67], []), (61, .aload_n 0, 1, [0], []), (62, .getfield 337, 3, [12, 54, 0], []), (65, .iload_n 2, 1, [2], []), (66, .iand, 1, [], []), (67, .putfield 337, 3, [12, 54, 0], []), (70, .aload_n 0, 1, [0], []), (71, .dup, 1, [], []), (72, .getfield 340, 3, [12, 55, 0], []), (75, .iload_n 2, 1, [2], []), (76, .ior, 1, [], []), (77, .putfield 340, 3, [12, 55, 0], []), (80, .aload_n 0, 1, [0], []), (81, .aload_n 0, 1, [0], []), (82, .getfield 334, 3, [12, 53, 0], []), (85, .bipush (-9), 2, [], [((-9), 0)]), (87, .if_icmp .eq 14, 3, [101], []), (90, .iload_n 2, 1, [2], []), (91, .invokestatic 346, 3, [223, 1, 1, 12, 3], []), (94, .aload_n 0, 1, [0], []), (95, .getfield 334, 3, [12, 53, 0], []), (98, .if_icmp .ge 10, 3, [108], []), (101, .iload_n 2, 1, [2], []), (102, .invokestatic 346, 3, [223, 1, 1, 12, 3], []), (105, .goto 7, 3, [112], []), (108, .aload_n 0, 1, [0], []), (109, .getfield 334, 3, [12, 53, 0], []), (112, .putfield 334, 3, [12, 53, 0], []), (115, .aload_n 0, 1, [0], []), (116, .dup, 1, [], []), (117, .getfield 331, 3, [12, 52, 0], []), (120, .iconst 1, 1, [], [(1, 0)]), (121, .iadd, 1, [], []), (122, .putfield 331, 3, [12, 52, 0], []), (125, .iinc 2 1, 3, [2], [(1, 0)]), (128, .goto (-100), 3, [28], []), (131, .return_, 1, [], [])]
noncomputable def cd226 : List (Nat × AI) := [(0, .iload_n 1, 1, [1], []), (1, .invokestatic 236, 3, [169, 1, 1, 12, 1], []), (4, .ifCond .eq 12, 3, [16], []), (7, .iload_n 2, 1, [2], []), (8, .iconst 0, 1, [], [(0, 0)]), (9, .iconst 5, 1, [], [(5, 0)]), (10, .invokestatic 176, 3, [168, 3, 1, 12, 3], []), (13, .ifCond .ne 6, 3, [19], []), (16, .bipush (-2), 2, [], [((-2), 0)]), (18, .ireturn, 1, [0], []), (19, .aload_n 0, 1, [0], []), (20, .iload_n 1, 1, [1], []), (21, .invokevirtual 349, 3, [225, 2, 0, 12, 3], []), (24, .iload_n 2, 1, [2], []), (25, .tableswitch 60 0 4 #[35, 40, 45, 50, 55], 35, [85], [(0, 60), (1, 65), (2, 70), (3, 75), (4, 80)]), (60, .aload_n 0, 1, [0], []), (61, .getfield 331, 3, [12, 52, 0], []), (64, .ireturn, 1, [0], []), (65, .aload_n 0, 1, [0], []), (66, .getfield 334, 3, [12, 53, 0], []), (69, .ireturn, 1, [0], []), (70, .aload_n 0, 1, [0], []), (71, .getfield 337, 3, [12, 54, 0], []), (74, .ireturn, 1, [0], []), (75, .aload_n 0, 1, [0], []), (76, .getfield 340, 3, [12, 55, 0], []), (79, .ireturn, 1, [0], []), (80, .aload_n 0, 1, [0], []), (81, .getfield 322, 3, [12, 50, 0], []), (84, .ireturn, 1, [0], []), (85, .aload_n 0, 1, [0], []), (86, .getfield 325, 3, [12, 51, 0], []), (89, .ireturn, 1, [0], [])]
noncomputable def cd227 : List (Nat × AI) := [(0, .iconst 0, 1, [], [(0, 0)]), (1, .istore_n 2, 1, [2], []), (2, .iload_n 2, 1, [2], []), (3, .aload_n 0, 1, [0], []), (4, .getfield 309, 3, [12, 44, 0], []), (7, .if_icmp .ge 21, 3, [28], []), (10, .aload_n 0, 1, [0], []), (11, .getfield 113, 3, [12, 48, 2], []), (14, .iload_n 2, 1, [2], []), (15, .iaload, 1, [], []), (16, .iload_n 1, 1, [1], []), (17, .if_icmp .ne 5, 3, [22], []), (20, .iconst 1, 1, [], [(1, 0)]), (21, .ireturn, 1, [1], []), (22, .iinc 2 1, 3, [2], [(1, 0)]), (25, .goto (-23), 3, [2], []), (28, .iconst 0, 1, [], [(0, 0)]), (29, .ireturn, 1, [1], [])]
noncomputable def cd228 : List (Nat × AI) := [(0, .aload_n 0, 1, [0], []), (1, .iload_n 1, 1, [1], []), (2, .invokevirtual 315, 3, [215, 2, 1, 12, 2], []), (5, .ifCond .ne 5, 3, [10], []), (8, .iconst (-1), 1, [], [((-1), 0)]), (9, .ireturn, 1, [0], []), (10, .iconst 0, 1, [], [(0, 0)]), (11, .istore_n 2, 1, [2], []), (12, .iload_n 2, 1, [2], []), (13, .bipush 99, 2, [], [(99, 0)]), (15, .if_icmp .gt 43, 3, [58], []), (18, .aload_n 0, 1, [0], []), (19, .iload_n 2, 1, [2], []), (20, .invokevirtual 352, 3, [227, 2, 1, 12, 3], []), (23, .ifCond .eq 29, 3, [52], []), (26, .aload_n 0, 1, [0], []), (27, .iload_n 2, 1, [2], []), (28, .invokevirtual 349, 3, [225, 2, 0, 12, 3], []), (31, .aload_n 0, 1, [0], []), (32, .getfield 331, 3, [12, 52, 0], []), (35, .ifCond .le 17, 3, [52], []), (38, .aload_n 0, 1, [0], []), (39, .getfield 337, 3, [12, 54, 0], []), (42, .iload_n 1, 1, [1], []), (43, .ishr, 1, [], []), (44, .iconst 1, 1, [], [(1, 0)]), (45, .iand, 1, [], []), (46, .iconst 1, 1, [], [(1, 0)]), (47, .if_icmp .ne 5, 3, [52], []), (50, .iload_n 2, 1, [2], []), (51, .ireturn, 1, [0], []), (52, .iinc 2 1, 3, [2], [(1, 0)]), (55, .goto (-43), 3, [12], []), (58, .bipush (-9), 2, [], [((-9), 0)]), (60, .ireturn, 1, [0], [])]
noncomputable def cd229 : List (Nat × AI) := [(0, .aload_n 0, 1, [0], []), (1, .getfield 355, 3, [12, 56, 0], []), (4, .bipush 24, 2, [], [(24, 0)]), (6, .if_icmp .ne 6, 3, [12], []), (9, .bipush (-4), 2, [], [((-4), 0)]), (11, .ireturn, 1, [0], []), (12, .aload_n 0, 1, [0], []), (13, .getfield 119, 3, [12, 57, 2], []), (16, .aload_n 0, 1, [0], []), (17, .getfield 355, 3, [12, 56, 0], []), (20, .iconst 0, 1, [], [(0, 0)]), (21, .iastore, 1, [], []), (22, .aload_n 0, 1, [0], []), (23, .getfield 122, 3, [12, 58, 2], []), (26, .aload_n 0, 1, [0], []), (27, .getfield 355, 3, [12, 56, 0], []), (30, .iload_n 1, 1, [1], []), (31, .bastore, 1, [], []), (32, .aload_n 0, 1, [0], []), (33, .dup, 1, [], []), (34, .getfield 355, 3, [12, 56, 0], []), (37, .iconst 1, 1, [], [(1, 0)]), (38, .iadd, 1, [], []), (39, .putfield 355, 3, [12, 56, 0], []), (42, .aload_n 0, 1, [0], []), (43, .getfield 355, 3, [12, 56, 0], []), (46, .iconst 1, 1, [], [(1, 0)]), (47, .isub, 1, [], []), (48, .ireturn, 1, [0], [])]
noncomputable def cd230 : List (Nat × AI) := [(0, .iload_n 1, 1, [1], []), (1, .iconst 1, 1, [], [(1, 0)]), (2, .if_icmp .lt 13, 3, [15], []), (5, .iload_n 1, 1, [1], []), (6, .iconst 1, 1, [], [(1, 0)]), (7, .aload_n 0, 1, [0], []), (8, .getfield 355, 3, [12, 56, 0], []), (11, .ishl, 1, [], []), (12, .if_icmp .lt 6, 3, [18], []), (15, .bipush (-2), 2, [], [((-2), 0)]), (17, .ireturn, 1, [0], []), (18, .aload_n 0, 1, [0], []), (19, .getfield 355, 3, [12, 56, 0], []), (22, .bipush 24, 2, [], [(24, 0)]), (24, .if_icmp .ne 6, 3, [30], []), (27, .bipush (-4), 2, [], [((-4), 0)]), (29, .ireturn, 1, [0], []), (30, .aload_n 0, 1, [0], []), (31, .getfield 119, 3, [12, 57, 2], []), (34, .aload_n 0, 1, [0], []), (35, .getfield 355, 3, [12, 56, 0], []), (38, .iload_n 1, 1, [1], []), (39, .iastore, 1, [], []), (40, .aload_n 0, 1, [0], []), (41, .getfield 122, 3, [12, 58, 2], []), (44, .aload_n 0, 1, [0], []), (45, .getfield 355, 3, [12, 56, 0], []), (48, .iconst 0, 1, [], [(0, 0)]), (49, .bastore, 1, [], []), (50, .aload_n 0, 1, [0], []), (51, .dup, 1, [], []), (52, .getfield 355, 3, [12, 56, 0], []), (55, .iconst 1, 1, [], [(1, 0)]), (56, .iadd, 1, [], []), (57, .putfield 355, 3, [12, 56, 0], []), (60, .aload_n 0, 1, [0], []), (61, .getfield 355, 3, [12, 56, 0], []), (64, .iconst 1, 1, [], [(1, 0)]), (65, .isub, 1, [], []), (66, .ireturn, 1, [0], [])]
noncomputable def cd231 : List (Nat × AI) := [(0, .iload_n 1, 1, [1], []), (1, .ifCond .lt 15, 3, [16], []), (4, .iload_n 1, 1, [1], []), (5, .aload_n 0, 1, [0], []), (6, .getfield 355, 3, [12, 56, 0], []), (9, .if_icmp .ge 7, 3, [16], []), (12, .iconst 1, 1, [], [(1, 0)]), (13, .goto 4, 3, [17], []), (16, .iconst 0, 1, [], [(0, 0)]), (17, .ireturn, 1, [1], [])]
noncomputable def cd232 : List (Nat × AI) := [(0, .aload_n 0, 1, [0], []), (1, .iload_n 1, 1, [1], []), (2, .invokevirtual 358, 3, [231, 2, 1, 12, 2], []), (5, .ifCond .ne 5, 3, [10], []), (8, .iconst (-1), 1, [], [((-1), 0)]), (9, .ireturn, 1, [0], []), (10, .aload_n 0, 1, [0], []), (11, .getfield 119, 3, [12, 57, 2], []), (14, .iload_n 1, 1, [1], []), (15, .iaload, 1, [], []), (16, .ifCond .eq 6, 3, [22], []), (19, .bipush (-3), 2, [], [((-3), 0)]), (21, .ireturn, 1, [0], []), (22, .aload_n 0, 1, [0], []), (23, .getfield 122, 3, [12, 58, 2], []), (26, .iload_n 1, 1, [1], []), (27, .baload, 1, [], []), (28, .iload_n 2, 1, [2], []), (29, .if_icmp .ne 7, 3, [36], []), (32, .iconst 0, 1, [], [(0, 0)]), (33, .goto 4, 3, [37], []), (36, .iconst 1, 1, [], [(1, 0)]), (37, .istore_n 3, 1, [3], []), (38, .aload_n 0, 1, [0], []), (39, .getfield 122, 3, [12, 58, 2], []), (42, .iload_n 1, 1, [1], []), (43, .iload_n 2, 1, [2], []), (44, .bastore, 1, [], []), (45, .iload_n 3, 1, [3], []), (46, .ireturn, 1, [0], [])]
noncomputable def cd233 : List (Nat × AI) := [(0, .iconst 0, 1, [], [(0, 0)]), (1, .istore_n 2, 1, [2], []), (2, .iconst 0, 1, [], [(0, 0)]), (3, .istore_n 3, 1, [3], []), (4, .iload_n 3, 1, [3], []), (5, .aload_n 0, 1, [0], []), (6, .getfield 355, 3, [12, 56, 0], []), (9, .if_icmp .ge 75, 3, [84], []), (12, .aload_n 0, 1, [0], []), (13, .getfield 119, 3, [12, 57, 2], []), (16, .iload_n 3, 1, [3], []), (17, .iaload, 1, [], []), (18, .ifCond .ne 25, 3, [43], []), (21, .aload_n 0, 1, [0], []), (22, .getfield 122, 3, [12, 58, 2], []), (25, .iload_n 3, 1, [3], []), (26, .baload, 1, [], []), (27, .ifCond .ne 12, 3, [39], []), (30, .iload_n 3, 1, [3], []), (31, .iload_n 1, 1, [1], []), (32, .if_icmp .eq 7, 3, [39], []), (35, .iconst 1, 1, [], [(1, 0)]), (36, .goto 25, 3, [61], []), (39, .iconst 0, 1, [], [(0, 0)]), (40, .goto 21, 3, [61], []), (43, .aload_n 0, 1, [0], []), (44, .getfield 119, 3, [12, 57, 2], []), (47, .iload_n 3, 1, [3], []), (48, .iaload, 1, [], []), (49, .iload_n 2, 1, [2], []), (50, .iconst (-1), 1, [], [((-1), 0)]), (51, .ixor, 1, [], []), (52, .iand, 1, [], []), (53, .ifCond .ne 7, 3, [60], []), (56, .iconst 1, 1, [], [(1, 0)]), (57, .goto 4, 3, [61], []), (60, .iconst 0, 1, [], [(0, 0)]), (61, .istore 4, 2, [4], []), (63, .iload_n 2, 1, [2], []), (64, .iload 4, 2, [4], []), (66, .ifCond .eq 9, 3, [75], []), (69, .iconst 1, 1, [], [(1, 0)]), (70, .iload_n 3, 1, [3], []), (71, .ishl, 1, [], []), (72, .goto 4, 3, [76], []), (75, .iconst 0, 1, [], [(0, 0)]), (76, .ior, 1, [], []), (77, .istore_n 2, 1, [2], []), (78, .iinc 3 1, 3, [3], [(1, 0)]), (81, .goto (-77), 3, [4], []), (84, .iload_n 2, 1, [2], []), (85, .ireturn, 1, [0], [])]
noncomputable def cd234 : List (Nat × AI) := [(0, .aload_n 0, 1, [0], []), (1, .bipush (-9), 2, [], [((-9), 0)]), (3, .invokevirtual 361, 3, [233, 2, 1, 12, 5], []), (6, .ireturn, 1, [0], [])]
noncomputable def cd235 : List (Nat × AI) := [(0, .iconst 0, 1, [], [(0, 0)]), (1, .istore_n 1, 1, [1], []), (2, .iconst 0, 1, [], [(0, 0)]), (3, .istore_n 2, 1, [2], []), (4, .iload_n 2, 1, [2], []), (5, .bipush 24, 2, [], [(24, 0)]), (7, .if_icmp .ge 17, 3, [24], []), (10, .iload_n 1, 1, [1], []), (11, .iload_n 0, 1, [0], []), (12, .iload_n 2, 1, [2], []), (13, .ishr, 1, [], []), (14, .iconst 1, 1, [], [(1, 0)]), (15, .iand, 1, [], []), (16, .iadd, 1, [], []), (17, .istore_n 1, 1, [1], []), (18, .iinc 2 1, 3, [2], [(1, 0)]), (21, .goto (-17), 3, [4], []), (24, .iload_n 1, 1, [1], []), (25, .ireturn, 1, [0], [])]
noncomputable def cd236 : List (Nat × AI) := [(0, .aload_n 0, 1, [0], []), (1, .bipush (-9), 2, [], [((-9), 0)]), (3, .invokevirtual 361, 3, [233, 2, 1, 12, 5], []), (6, .invokestatic 364, 3, [235, 1, 1, 12, 3], []), (9, .aload_n 0, 1, [0], []), (10, .iload_n 1, 1, [1], []), (11, .invokevirtual 361, 3, [233, 2, 1, 12, 5], []), (14, .invokestatic 364, 3, [235, 1, 1, 12, 3], []), (17, .isub, 1, [], []), (18, .ireturn, 1, [0], [])]
noncomputable def cd237 : List (Nat × AI) := [(0, .aload_n 0, 1, [0], []), (1, .iload_n 1, 1, [1], []), (2, .invokevirtual 358, 3, [231, 2, 1, 12, 2], []), (5, .ifCond .ne 5, 3, [10], []), (8, .iconst (-1), 1, [], [((-1), 0)]), (9, .ireturn, 1, [0], []), (10, .aload_n 0, 1, [0], []), (11, .getfield 119, 3, [12, 57, 2], []), (14, .iload_n 1, 1, [1], []), (15, .iaload, 1, [], []), (16, .ifCond .ne 12, 3, [28], []), (19, .aload_n 0, 1, [0], []), (20, .getfield 122, 3, [12, 58, 2], []), (23, .iload_n 1, 1, [1], []), (24, .baload, 1, [], []), (25, .ifCond .eq 8, 3, [33], []), (28, .bipush (-3), 2, [], [((-3), 0)]), (30, .goto 8, 3, [38], []), (33, .aload_n 0, 1, [0], []), (34, .iload_n 1, 1, [1], []), (35, .invokevirtual 367, 3, [236, 2, 1, 12, 2], []), (38, .ireturn, 1, [0], [])]
noncomputable def cd238 : List (Nat × AI) := [(0, .bipush (-9), 2, [], [((-9), 0)]), (2, .istore_n 1, 1, [1], []), (3, .iconst 0, 1, [], [(0, 0)]), (4, .istore_n 2, 1, [2], []), (5, .iload_n 2, 1, [2], []), (6, .aload_n 0, 1, [0], []), (7, .getfield 355, 3, [12, 56, 0], []), (10, .if_icmp .ge 48, 3, [58], []), (13, .aload_n 0, 1, [0], []), (14, .getfield 119, 3, [12, 57, 2], []), (17, .iload_n 2, 1, [2], []), (18, .iaload, 1, [], []), (19, .ifCond .ne 33, 3, [52], []), (22, .aload_n 0, 1, [0], []), (23, .getfield 122, 3, [12, 58, 2], []), (26, .iload_n 2, 1, [2], []), (27, .baload, 1, [], []), (28, .ifCond .ne 24, 3, [52], []), (31, .iload_n 1, 1, [1], []), (32, .bipush (-9), 2, [], [((-9), 0)]), (34, .if_icmp .eq 16, 3, [50], []), (37, .aload_n 0, 1, [0], []), (38, .iload_n 2, 1, [2], []), (39, .invokevirtual 367, 3, [236, 2, 1, 12, 2], []), (42, .aload_n 0, 1, [0], []), (43, .iload_n 1, 1, [1], []), (44, .invokevirtual 367, 3, [236, 2, 1, 12, 2], []), (47, .if_icmp .le 5, 3, [52], []), (50, .iload_n 2, 1, [2], []), (51, .istore_n 1, 1, [1], []), (52, .iinc 2 1, 3, [2], [(1, 0)]), (55, .goto (-50), 3, [5], []), (58, .iload_n 1, 1, [1], []), (59, .ireturn, 1, [0], [])]
noncomputable def cd239 : List (Nat × AI) := [(0, .bipush (-9), 2, [], [((-9), 0)]), (2, .istore_n 3, 1, [3], []), (3, .iconst 0, 1, [], [(0, 0)]), (4, .istore 4, 2, [4], []), (6, .iload 4, 2, [4], []), (8, .aload_n 0, 1, [0], []), (9, .getfield 370, 3, [12, 61, 0], []), (12, .if_icmp .ge 119, 3, [131], []), (15, .aload_n 0, 1, [0], []), (16, .getfield 141, 3, [12, 65, 2], []), (19, .iload 4, 2, [4], []), (21, .iaload, 1, [], []), (22, .bipush (-9), 2, [], [((-9), 0)]), (24, .if_icmp .ne 101, 3, [125], []), (27, .aload_n 0, 1, [0], []), (28, .getfield 135, 3, [12, 63, 2], []), (31, .iload 4, 2, [4], []), (33, .iaload, 1, [], []), (34, .iload_n 1, 1, [1], []), (35, .if_icmp .gt 90, 3, [125], []), (38, .aload_n 0, 1, [0], []), (39, .getfield 132, 3, [12, 62, 2], []), (42, .iload 4, 2, [4], []), (44, .iaload, 1, [], []), (45, .iload_n 2, 1, [2], []), (46, .if_icmp .le 6, 3, [52], []), (49, .goto 76, 3, [125], []), (52, .iload_n 3, 1, [3], []), (53, .bipush (-9), 2, [], [((-9), 0)]), (55, .if_icmp .eq 51, 3, [106], []), (58, .aload_n 0, 1, [0], []), (59, .getfield 138, 3, [12, 64, 2], []), (62, .iload 4, 2, [4], []), (64, .iaload, 1, [], []), (65, .aload_n 0, 1, [0], []), (66, .getfield 138, 3, [12, 64, 2], []), (69, .iload_n 3, 1, [3], []), (70, .iaload, 1, [], []), (71, .if_icmp .gt 35, 3, [106], []), (74, .aload_n 0, 1, [0], []), (75, .getfield 138, 3, [12, 64, 2], []), (78, .iload 4, 2, [4], []), (80, .iaload, 1, [], []), (81, .aload_n 0, 1, [0], []), (82, .getfield 138, 3, [12, 64, 2], []), (85, .iload_n 3, 1, [3], []), (86, .iaload, 1, [], []), (87, .if_icmp .ne 23, 3, [110], []), (90, .aload_n 0, 1, [0], []), (91, .getfield 135, 3, [12, 63, 2], []), (94, .iload 4, 2, [4], []), (96, .iaload, 1, [], []), (97, .aload_n 0, 1, [0], []), (98, .getfield 135, 3, [12, 63, 2], []), (101, .iload_n 3, 1, [3], []), (102, .iaload, 1, [], []), (103, .if_icmp .ge 7, 3, [110], []), (106, .iconst 1, 1, [], [(1, 0)]), (107, .goto 4, 3, [111], []), (110, .iconst 0, 1, [], [(0, 0)]), (111, .istore 5, 2, [5], []), (113, .iload 5, 2, [5], []), (115, .ifCond .eq 8, 3, [123], []), (118, .iload 4, 2, [4], []), (120, .goto 4, 3, [124], []), (123, .iload_n 3, 1, [3], []), (124, .istore_n 3, 1, [3], []), (125, .iinc 4 1, 3, [4], [(1, 0)]), (128, .goto (-122), 3, [6], []), (131, .iload_n 3, 1, [3], []), (132, .ireturn, 1, [0], [])]
noncomputable def cd240 : List (Nat × AI) := [(0, .iconst 0, 1, [], [(0, 0)]), (1, .istore_n 1, 1, [1], []), (2, .iload_n 1, 1, [1], []), (3, .aload_n 0, 1, [0], []), (4, .getfield 370, 3, [12, 61, 0], []), (7, .if_icmp .ge 25, 3, [32], []), (10, .aload_n 0, 1, [0], []), (11, .getfield 141, 3, [12, 65, 2], []), (14, .iload_n 1, 1, [1], []), (15, .bipush (-9), 2, [], [((-9), 0)]), (17, .iastore, 1, [], []), (18, .aload_n 0, 1, [0], []), (19, .getfield 144, 3, [12, 66, 2], []), (22, .iload_n 1, 1, [1], []), (23, .bipush (-9), 2, [], [((-9), 0)]), (25, .iastore, 1, [], []), (26, .iinc 1 1, 3, [1], [(1, 0)]), (29, .goto (-27), 3, [2], []), (32, .iconst 0, 1, [], [(0, 0)]), (33, .istore_n 1, 1, [1], []), (34, .iconst 0, 1, [], [(0, 0)]), (35, .istore_n 2, 1, [2], []), (36, .iload_n 2, 1, [2], []), (37, .bipush 99, 2, [], [(99, 0)]), (39, .if_icmp .gt 90, 3, [129], []), (42, .iconst 0, 1, [], [(0, 0)]), (43, .istore_n 3, 1, [3], []), (44, .iload_n 3, 1, [3], []), (45, .aload_n 0, 1, [0], []), (46, .getfield 125, 3, [12, 59, 0], []), (49, .if_icmp .ge 74, 3, [123], []), (52, .aload_n 0, 1, [0], []), (53, .getfield 129, 3, [12, 60, 0], []), (56, .istore 4, 2, [4], []), (58, .aload_n 0, 1, [0], []), (59, .iload_n 2, 1, [2], []), (60, .iload 4, 2, [4], []), (62, .invokevirtual 373, 3, [239, 3, 1, 12, 6], []), (65, .istore 5, 2, [5], []), (67, .iload 5, 2, [5], []), (69, .bipush (-9), 2, [], [((-9), 0)]), (71, .if_icmp .eq 46, 3, [117], []), (74, .aload_n 0, 1, [0], []), (75, .getfield 141, 3, [12, 65, 2], []), (78, .iload 5, 2, [5], []), (80, .iload_n 2, 1, [2], []), (81, .iastore, 1, [], []), (82, .aload_n 0, 1, [0], []), (83, .getfield 144, 3, [12, 66, 2], []), (86, .iload 5, 2, [5], []), (88, .iload_n 3, 1, [3], []), (89, .iastore, 1, [], []), (90, .iload 4, 2, [4], []), (92, .aload_n 0, 1, [0], []), (93, .getfield 132, 3, [12, 62, 2], []), (96, .iload 5, 2, [5], []), (98, .iaload, 1, [], []), (99, .isub, 1, [], []), (100, .istore 4, 2, [4], []), (102, .iinc 1 1, 3, [1], [(1, 0)]), (105, .aload_n 0, 1, [0], []), (106, .iload_n 2, 1, [2], []), (107, .iload 4, 2, [4], []), (109, .invokevirtual 373, 3, [239, 3, 1, 12, 6], []), (112, .istore 5, 2, [5], []), (114, .goto (-47), 3, [67], []), (117, .iinc 3 1, 3, [3], [(1, 0)]), (120, .goto (-76), 3, [44], []), (123, .iinc 2 1, 3, [2], [(1, 0)]), (126, .goto (-90), 3, [36], []), (129, .iload_n 1, 1, [1], []), (130, .ireturn, 1, [0], [])]
noncomputable def cd241 : List (Nat × AI) := [(0, .iload_n 1, 1, [1], []), (1, .iconst 1, 1, [], [(1, 0)]), (2, .iconst 4, 1, [], [(4, 0)]), (3, .invokestatic 176, 3, [168, 3, 1, 12, 3], []), (6, .ifCond .eq 14, 3, [20], []), (9, .iload_n 2, 1, [2], []), (10, .iconst 1, 1, [], [(1, 0)]), (11, .sipush 600, 3, [], [(600, 0)]), (14, .invokestatic 176, 3, [168, 3, 1, 12, 3], []), (17, .ifCond .ne 6, 3, [23], []), (20, .bipush (-2), 2, [], [((-2), 0)]), (22, .ireturn, 1, [0], []), (23, .aload_n 0, 1, [0], []), (24, .iload_n 1, 1, [1], []), (25, .putfield 125, 3, [12, 59, 0], []), (28, .aload_n 0, 1, [0], []), (29, .iload_n 2, 1, [2], []), (30, .putfield 129, 3, [12, 60, 0], []), (33, .aload_n 0, 1, [0], []), (34, .invokevirtual 376, 3, [240, 1, 1, 12, 6], []), (37, .ireturn, 1, [0], [])]
noncomputable def cd242 : List (Nat × AI) := [(0, .iload_n 1, 1, [1], []), (1, .iconst 1, 1, [], [(1, 0)]), (2, .sipush 600, 3, [], [(600, 0)]), (5, .invokestatic 176, 3, [168, 3, 1, 12, 3], []), (8, .ifCond .eq 20, 3, [28], []), (11, .iload_n 2, 1, [2], []), (12, .invokestatic 236, 3, [169, 1, 1, 12, 1], []), (15, .ifCond .eq 13, 3, [28], []), (18, .iload_n 3, 1, [3], []), (19, .iconst 0, 1, [], [(0, 0)]), (20, .bipush 9, 2, [], [(9, 0)]), (22, .invokestatic 176, 3, [168, 3, 1, 12, 3], []), (25, .ifCond .ne 6, 3, [31], []), (28, .bipush (-2), 2, [], [((-2), 0)]), (30, .ireturn, 1, [0], []), (31, .aload_n 0, 1, [0], []), (32, .getfield 370, 3, [12, 61, 0], []), (35, .bipush 30, 2, [], [(30, 0)]), (37, .if_icmp .ne 6, 3, [43], []), (40, .bipush (-4), 2, [], [((-4), 0)]), (42, .ireturn, 1, [0], []), (43, .aload_n 0, 1, [0], []), (44, .getfield 132, 3, [12, 62, 2], []), (47, .aload_n 0, 1, [0], []), (48, .getfield 370, 3, [12, 61, 0], []), (51, .iload_n 1, 1, [1], []), (52, .iastore, 1, [], []), (53, .aload_n 0, 1, [0], []), (54, .getfield 135, 3, [12, 63, 2], []), (57, .aload_n 0, 1, [0], []), (58, .getfield 370, 3, [12, 61, 0], []), (61, .iload_n 2, 1, [2], []), (62, .iastore, 1, [], []), (63, .aload_n 0, 1, [0], []), (64, .getfield 138, 3, [12, 64, 2], []), (67, .aload_n 0, 1, [0], []), (68, .getfield 370, 3, [12, 61, 0], []), (71, .iload_n 3, 1, [3], []), (72, .iastore, 1, [], []), (73, .aload_n 0, 1, [0], []), (74, .dup, 1, [], []), (75, .getfield 370, 3, [12, 61, 0], []), (78, .iconst 1, 1, [], [(1, 0)]), (79, .iadd, 1, [], []), (80, .putfield 370, 3, [12, 61, 0], []), (83, .aload_n 0, 1, [0], []), (84, .getfield 370, 3, [12, 61, 0], []), (87, .iconst 1, 1, [], [(1, 0)]), (88, .isub, 1, [], []), (89, .ireturn, 1, [0], [])]
noncomputable def cd243 : List (Nat × AI) := [(0, .iload_n 1, 1, [1], []), (1, .ifCond .lt 11, 3, [12], []), (4, .iload_n 1, 1, [1], []), (5, .aload_n 0, 1, [0], []), (6, .getfield 370, 3, [12, 61, 0], []), (9, .if_icmp .lt 5, 3, [14], []), (12, .iconst (-1), 1, [], [((-1), 0)]), (13, .ireturn, 1, [0], []), (14, .aload_n 0, 1, [0], []), (15, .invokevirtual 376, 3, [240, 1, 1, 12, 6], []), (18, .istore_n 3, 1, [3], []), (19, .iload_n 2, 1, [2], []), (20, .tableswitch 71 0 4 #[36, 43, 50, 57, 64], 36, [91], [(0, 56), (1, 63), (2, 70), (3, 77), (4, 84)]), (56, .aload_n 0, 1, [0], []), (57, .getfield 132, 3, [12, 62, 2], []), (60, .iload_n 1, 1, [1], []), (61, .iaload, 1, [], []), (62, .ireturn, 1, [0], []), (63, .aload_n 0, 1, [0], []), (64, .getfield 135, 3, [12, 63, 2], []), (67, .iload_n 1, 1, [1], []), (68, .iaload, 1, [], []), (69, .ireturn, 1, [0], []), (70, .aload_n 0, 1, [0], []), (71, .getfield 138, 3, [12, 64, 2], []), (74, .iload_n 1, 1, [1], []), (75, .iaload, 1, [], []), (76, .ireturn, 1, [0], []), (77, .aload_n 0, 1, [0], []), (78, .getfield 141, 3, [12, 65, 2], []), (81, .iload_n 1, 1, [1], []), (82, .iaload, 1, [], []), (83, .ireturn, 1, [0], []), (84, .aload_n 0, 1, [0], []), (85, .getfield 144, 3, [12, 66, 2], []), (88, .iload_n 1, 1, [1], []), (89, .iaload, 1, [], []), (90, .ireturn, 1, [0], []), (91, .bipush (-2), 2, [], [((-2), 0)]), (93, .ireturn, 1, [0], [])]
noncomputable def cd244 : List (Nat × AI) := [(0, .iload_n 1, 1, [1], []), (1, .invokestatic 236, 3, [169, 1, 1, 12, 1], []), (4, .ifCond .ne 6, 3, [10], []), (7, .bipush (-2), 2, [], [((-2), 0)]), (9, .ireturn, 1, [0], []), (10, .aload_n 0, 1, [0], []), (11, .invokevirtual 376, 3, [240, 1, 1, 12, 6], []), (14, .istore_n 2, 1, [2], []), (15, .iconst 0, 1, [], [(0, 0)]), (16, .istore_n 3, 1, [3], []), (17, .iconst 0, 1, [], [(0, 0)]), (18, .istore 4, 2, [4], []), (20, .iload 4, 2, [4], []), (22, .aload_n 0, 1, [0], []), (23, .getfield 370, 3, [12, 61, 0], []), (26, .if_icmp .ge 51, 3, [77], []), (29, .iload_n 3, 1, [3], []), (30, .aload_n 0, 1, [0], []), (31, .getfield 135, 3, [12, 63, 2], []), (34, .iload 4, 2, [4], []), (36, .iaload, 1, [], []), (37, .iload_n 1, 1, [1], []), (38, .if_icmp .gt 30, 3, [68], []), (41, .aload_n 0, 1, [0], []), (42, .getfield 141, 3, [12, 65, 2], []), (45, .iload 4, 2, [4], []), (47, .iaload, 1, [], []), (48, .bipush (-9), 2, [], [((-9), 0)]), (50, .if_icmp .eq 14, 3, [64], []), (53, .aload_n 0, 1, [0], []), (54, .getfield 141, 3, [12, 65, 2], []), (57, .iload 4, 2, [4], []), (59, .iaload, 1, [], []), (60, .iload_n 1, 1, [1], []), (61, .if_icmp .le 7, 3, [68], []), (64, .iconst 1, 1, [], [(1, 0)]), (65, .goto 4, 3, [69], []), (68, .iconst 0, 1, [], [(0, 0)]), (69, .iadd, 1, [], []), (70, .istore_n 3, 1, [3], []), (71, .iinc 4 1, 3, [4], [(1, 0)]), (74, .goto (-54), 3, [20], []), (77, .iload_n 3, 1, [3], []), (78, .ireturn, 1, [0], [])]
noncomputable def cd245 : List (Nat × AI) := [(0, .iload_n 2, 1, [2], []), (1, .iconst 1, 1, [], [(1, 0)]), (2, .bipush 20, 2, [], [(20, 0)]), (4, .invokestatic 176, 3, [168, 3, 1, 12, 3], []), (7, .ifCond .eq 12, 3, [19], []), (10, .iload_n 1, 1, [1], []), (11, .iconst 0, 1, [], [(0, 0)]), (12, .iload_n 2, 1, [2], []), (13, .invokestatic 176, 3, [168, 3, 1, 12, 3], []), (16, .ifCond .ne 6, 3, [22], []), (19, .bipush (-2), 2, [], [((-2), 0)]), (21, .ireturn, 1, [0], []), (22, .aload_n 0, 1, [0], []), (23, .getfield 379, 3, [12, 67, 0], []), (26, .bipush 12, 2, [], [(12, 0)]), (28, .if_icmp .ne 6, 3, [34], []), (31, .bipush (-4), 2, [], [((-4), 0)]), (33, .ireturn, 1, [0], []), (34, .aload_n 0, 1, [0], []), (35, .getfield 147, 3, [12, 68, 2], []), (38, .aload_n 0, 1, [0], []), (39, .getfield 379, 3, [12, 67, 0], []), (42, .iload_n 1, 1, [1], []), (43, .iastore, 1, [], []), (44, .aload_n 0, 1, [0], []), (45, .getfield 150, 3, [12, 69, 2], []), (48, .aload_n 0, 1, [0], []), (49, .getfield 379, 3, [12, 67, 0], []), (52, .iload_n 2, 1, [2], []), (53, .iastore, 1, [], []), (54, .aload_n 0, 1, [0], []), (55, .dup, 1, [], []), (56, .getfield 379, 3, [12, 67, 0], []), (59, .iconst 1, 1, [], [(1, 0)]), (60, .iadd, 1, [], []), (61, .putfield 379, 3, [12, 67, 0], []), (64, .aload_n 0, 1, [0], []), (65, .getfield 379, 3, [12, 67, 0], []), (68, .ireturn, 1, [0], [])]
noncomputable def cd246 : List (Nat × AI) := [(0, .aload_n 0, 1, [0], []), (1, .getfield 379, 3, [12, 67, 0], []), (4, .istore_n 1, 1, [1], []), (5, .aload_n 0, 1, [0], []), (6, .iconst 0, 1, [], [(0, 0)]), (7, .putfield 379, 3, [12, 67, 0], []), (10, .iload_n 1, 1, [1], []), (11, .ireturn, 1, [0], [])]
noncomputable def cd247 : List (Nat × AI) := [(0, .iload_n 1, 1, [1], []), (1, .iconst 0, 1, [], [(0, 0)]), (2, .iconst 2, 1, [], [(2, 0)]), (3, .invokestatic 176, 3, [168, 3, 1, 12, 3], []), (6, .ifCond .eq 19, 3, [25], []), (9, .iload_n 2, 1, [2], []), (10, .iconst 0, 1, [], [(0, 0)]), (11, .iconst 1, 1, [], [(1, 0)]), (12, .invokestatic 176, 3, [168, 3, 1, 12, 3], []), (15, .ifCond .eq 10, 3, [25], []), (18, .aload_n 0, 1, [0], []), (19, .getfield 379, 3, [12, 67, 0], []), (22, .ifCond .ne 7, 3, [29], []), (25, .ldc2_w 174, 3, [], []), (28, .lreturn, 1, [], []), (29, .lconst 1, 1, [1], []), (30, .lstore_n 3, 1, [3], []), (31, .lconst 1, 1, [1], []), (32, .lstore 5, 2, [5], []), (34, .lconst 1, 1, [1], []), (35, .lstore 7, 2, [7], []), (37, .iconst 0, 1, [], [(0, 0)]), (38, .istore 9, 2, [9], []), (40, .iload 9, 2, [9], []), (42, .aload_n 0, 1, [0], []), (43, .getfield 379, 3, [12, 67, 0], []), (46, .if_icmp .ge 54, 3, [100], []), (49, .lload_n 3, 1, [3], []), (50, .aload_n 0, 1, [0], []), (51, .getfield 147, 3, [12, 68, 2], []), (54, .iload 9, 2, [9], []), (56, .iaload, 1, [], []), (57, .i2l, 1, [], []), (58, .lmul, 1, [], []), (59, .lstore_n 3, 1, [3], []), (60, .lload 5, 2, [5], []), (62, .aload_n 0, 1, [0], []), (63, .getfield 150, 3, [12, 69, 2], []), (66, .iload 9, 2, [9], []), (68, .iaload, 1, [], []), (69, .aload_n 0, 1, [0], []), (70, .getfield 147, 3, [12, 68, 2], []), (73, .iload 9, 2, [9], []), (75, .iaload, 1, [], []), (76, .isub, 1, [], []), (77, .i2l, 1, [], []), (78, .lmul, 1, [], []), (79, .lstore 5, 2, [5], []), (81, .lload 7, 2, [7], []), (83, .aload_n 0, 1, [0], []), (84, .getfield 150, 3, [12, 69, 2], []), (87, .iload 9, 2, [9], []), (89, .iaload, 1, [], []), (90, .i2l, 1, [], []), (91, .lmul, 1, [], []), (92, .lstore 7, 2, [7], []), (94, .iinc 9 1, 3, [9], [(1, 0)]), (97, .goto (-57), 3, [40], []), (100, .iload_n 1, 1, [1], []), (101, .ifCond .ne 7, 3, [108], []), (104, .lload_n 3, 1, [3], []), (105, .goto 20, 3, [125], []), (108, .iload_n 1, 1, [1], []), (109, .iconst 1, 1, [], [(1, 0)]), (110, .if_icmp .ne 8, 3, [118], []), (113, .lload 5, 2, [5], []), (115, .goto 10, 3, [125], []), (118, .lload 7, 2, [7], []), (120, .lload_n 3, 1, [3], []), (121, .lsub, 1, [], []), (122, .lload 5, 2, [5], []), (124, .lsub, 1, [], []), (125, .lstore 9, 2, [9], []), (127, .lload 9, 2, [9], []), (129, .lstore 11, 2, [11], []), (131, .lload 7, 2, [7], []), (133, .lstore 13, 2, [13], []), (135, .lload 13, 2, [13], []), (137, .lconst 0, 1, [0], []), (138, .lcmp, 1, [], []), (139, .ifCond .eq 21, 3, [160], []), (142, .lload 11, 2, [11], []), (144, .lload 13, 2, [13], []), (146, .lrem, 1, [], []), (147, .lstore 15, 2, [15], []), (149, .lload 13, 2, [13], []), (151, .lstore 11, 2, [11], []), (153, .lload 15, 2, [15], []), (155, .lstore 13, 2, [13], []), (157, .goto (-22), 3, [135], []), (160, .iload_n 2, 1, [2], []), (161, .ifCond .ne 11, 3, [172], []), (164, .lload 9, 2, [9], []), (166, .lload 11, 2, [11], []), (168, .ldiv, 1, [], []), (169, .goto 8, 3, [177], []), (172, .lload 7, 2, [7], []), (174, .lload 11, 2, [11], []), (176, .ldiv, 1, [], []), (177, .lreturn, 1, [], [])]
noncomputable def cd248 : List (Nat × AI) := [(0, .iload_n 1, 1, [1], []), (1, .iconst 1, 1, [], [(1, 0)]), (2, .bipush 30, 2, [], [(30, 0)]), (4, .invokestatic 176, 3, [168, 3, 1, 12, 3], []), (7, .ifCond .ne 6, 3, [13], []), (10, .bipush (-2), 2, [], [((-2), 0)]), (12, .ireturn, 1, [0], []), (13, .aload_n 0, 1, [0], []), (14, .getfield 153, 3, [12, 70, 0], []), (17, .istore_n 2, 1, [2], []), (18, .aload_n 0, 1, [0], []), (19, .iload_n 1, 1, [1], []), (20, .putfield 153, 3, [12, 70, 0], []), (23, .iload_n 2, 1, [2], []), (24, .ireturn, 1, [0], [])]
noncomputable def cd249 : List (Nat × AI) := [(0, .iload_n 0, 1, [0], []), (1, .ifCond .ge 8, 3, [9], []), (4, .iload_n 0, 1, [0], []), (5, .ineg, 1, [], []), (6, .goto 4, 3, [10], []), (9, .iload_n 0, 1, [0], []), (10, .ireturn, 1, [0], [])]
noncomputable def cd250 : List (Nat × AI) := [(0, .iload_n 1, 1, [1], []), (1, .iconst 0, 1, [], [(0, 0)]), (2, .bipush 30, 2, [], [(30, 0)]), (4, .invokestatic 176, 3, [168, 3, 1, 12, 3], []), (7, .ifCond .eq 38, 3, [45], []), (10, .iload_n 2, 1, [2], []), (11, .iconst 0, 1, [], [(0, 0)]), (12, .bipush 30, 2, [], [(30, 0)]), (14, .invokestatic 176, 3, [168, 3, 1, 12, 3], []), (17, .ifCond .eq 28, 3, [45], []), (20, .iload_n 3, 1, [3], []), (21, .bipush (-3), 2, [], [((-3), 0)]), (23, .iconst 3, 1, [], [(3, 0)]), (24, .invokestatic 176, 3, [168, 3, 1, 12, 3], []), (27, .ifCond .eq 18, 3, [45], []), (30, .iload 4, 2, [4], []), (32, .bipush (-3), 2, [], [((-3), 0)]), (34, .iconst 3, 1, [], [(3, 0)]), (35, .invokestatic 176, 3, [168, 3, 1, 12, 3], []), (38, .ifCond .eq 7, 3, [45], []), (41, .iconst 1, 1, [], [(1, 0)]), (42, .goto 4, 3, [46], []), (45, .iconst 0, 1, [], [(0, 0)]), (46, .istore 8, 2, [8], []), (48, .iload 8, 2, [8], []), (50, .ifCond .eq 35, 3, [85], []), (53, .iload 5, 2, [5], []), (55, .iconst 0, 1, [], [(0, 0)]), (56, .bipush 30, 2, [], [(30, 0)]), (58, .invokestatic 176, 3, [168, 3, 1, 12, 3], []), (61, .ifCond .eq 24, 3, [85], []), (64, .iload 6, 2, [6], []), (66, .iconst 0, 1, [], [(0, 0)]), (67, .bipush 30, 2, [], [(30, 0)]), (69, .invokestatic 176, 3, [168, 3, 1, 12, 3], []), (72, .ifCond .eq 13, 3, [85], []), (75, .iload 7, 2, [7], []), (77, .iconst 1, 1, [], [(1, 0)]), (78, .iconst 5, 1, [], [(5, 0)]), (79, .invokestatic 176, 3, [168, 3, 1, 12, 3], []), (82, .ifCond .ne 6, 3, [88], []), (85, .bipush (-2), 2, [], [((-2), 0)]), (87, .ireturn, 1, [0], []), (88, .iconst 0, 1, [], [(0, 0)]), (89, .istore 9, 2, [9], []), (91, .iload 9, 2, [9], []), (93, .bipush 24, 2, [], [(24, 0)]), (95, .if_icmp .ge 104, 3, [199], []), (98, .iload_n 1, 1, [1], []), (99, .iload_n 3, 1, [3], []), (100, .iload 9, 2, [9], []), (102, .imul, 1, [], []), (103, .iadd, 1, [], []), (104, .istore 10, 2, [10], []), (106, .iload_n 2, 1, [2], []), (107, .iload 4, 2, [4], []), (109, .iload 9, 2, [9], []), (111, .imul, 1, [], []), (112, .iadd, 1, [], []), (113, .istore 11, 2, [11], []), (115, .iload 10, 2, [10], []), (117, .iconst 0, 1, [], [(0, 0)]), (118, .bipush 30, 2, [], [(30, 0)]), (120, .invokestatic 176, 3, [168, 3, 1, 12, 3], []), (123, .ifCond .eq 27, 3, [150], []), (126, .iload 11, 2, [11], []), (128, .iconst 0, 1, [], [(0, 0)]), (129, .bipush 30, 2, [], [(30, 0)]), (131, .invokestatic 176, 3, [168, 3, 1, 12, 3], []), (134, .ifCond .eq 16, 3, [150], []), (137, .iload 10, 2, [10], []), (139, .aload_n 0, 1, [0], []), (140, .getfield 153, 3, [12, 70, 0], []), (143, .if_icmp .ge 7, 3, [150], []), (146, .iconst 1, 1, [], [(1, 0)]), (147, .goto 4, 3, [151], []), (150, .iconst 0, 1, [], [(0, 0)]), (151, .istore 12, 2, [12], []), (153, .iload 12, 2, [12], []), (155, .ifCond .eq 38, 3, [193], []), (158, .iload 10, 2, [10], []), (160, .iload 5, 2, [5], []), (162, .isub, 1, [], []), (163, .invokestatic 382, 3, [249, 1, 1, 12, 1], []), (166, .iload 7, 2, [7], []), (168, .iload 9, 2, [9], []), (170, .imul, 1, [], []), (171, .if_icmp .gt 22, 3, [193], []), (174, .iload 11, 2, [11], []), (176, .iload 6, 2, [6], []), (178, .isub, 1, [], []), (179, .invokestatic 382, 3, [249, 1, 1, 12, 1], []), (182, .iload 7, 2, [7], []), (184, .iload 9, 2, [9], []), (186, .imul, 1, [], []), (187, .if_icmp .gt 6, 3, [193], []), (190, .iload 9, 2, [9], []), (192, .ireturn, 1, [0], []), (193, .iinc 9 1, 3, [9], [(1, 0)]), (196, .goto (-105), 3, [91], []), (199, .bipush (-9), 2, [], [((-9), 0)]), (201, .ireturn, 1, [0], [])]
noncomputable def cd251 : List (Nat × AI) := [(0, .iload_n 1, 1, [1], []), (1, .iconst 0, 1, [], [(0, 0)]), (2, .bipush 99, 2, [], [(99, 0)]), (4, .invokestatic 176, 3, [168, 3, 1, 12, 3], []), (7, .ifCond .eq 14, 3, [21], []), (10, .iload_n 2, 1, [2], []), (11, .iconst 0, 1, [], [(0, 0)]), (12, .sipush 999, 3, [], [(999, 0)]), (15, .invokestatic 176, 3, [168, 3, 1, 12, 3], []), (18, .ifCond .ne 6, 3, [24], []), (21, .bipush (-2), 2, [], [((-2), 0)]), (23, .ireturn, 1, [0], []), (24, .aload_n 0, 1, [0], []), (25, .getfield 385, 3, [12, 71, 0], []), (28, .bipush 6, 2, [], [(6, 0)]), (30, .if_icmp .ne 6, 3, [36], []), (33, .bipush (-4), 2, [], [((-4), 0)]), (35, .ireturn, 1, [0], []), (36, .aload_n 0, 1, [0], []), (37, .getfield 156, 3, [12, 72, 2], []), (40, .aload_n 0, 1, [0], []), (41, .getfield 385, 3, [12, 71, 0], []), (44, .iload_n 1, 1, [1], []), (45, .iastore, 1, [], []), (46, .aload_n 0, 1, [0], []), (47, .getfield 159, 3, [12, 73, 2], []), (50, .aload_n 0, 1, [0], []), (51, .getfield 385, 3, [12, 71, 0], []), (54, .iload_n 2, 1, [2], []), (55, .iastore, 1, [], []), (56, .aload_n 0, 1, [0], []), (57, .getfield 162, 3, [12, 74, 2], []), (60, .aload_n 0, 1, [0], []), (61, .getfield 385, 3, [12, 71, 0], []), (64, .bipush 10, 2, [], [(10, 0)]), (66, .iastore, 1, [], []), (67, .aload_n 0, 1, [0], []), (68, .getfield 165, 3, [12, 75, 2], []), (71, .aload_n 0, 1, [0], []), (72, .getfield 385, 3, [12, 71, 0], []), (75, .iconst 0, 1, [], [(0, 0)]), (76, .iastore, 1, [], []), (77, .aload_n 0, 1, [0], []), (78, .getfield 168, 3, [12, 76, 2], []), (81, .aload_n 0, 1, [0], []), (82, .getfield 385, 3, [12, 71, 0], []), (85, .iconst 0, 1, [], [(0, 0)]), (86, .iastore, 1, [], []), (87, .aload_n 0, 1, [0], []), (88, .dup, 1, [], []), (89, .getfield 385, 3, [12, 71, 0], []), (92, .iconst 1, 1, [], [(1, 0)]), (93, .iadd, 1, [], []), (94, .putfield 385, 3, [12, 71, 0], []), (97, .aload_n 0, 1, [0], []), (98, .getfield 385, 3, [12, 71, 0], []), (101, .iconst 1, 1, [], [(1, 0)]), (102, .isub, 1, [], []), (103, .ireturn, 1, [0], [])]
noncomputable def cd252 : List (Nat × AI) := [(0, .iload_n 1, 1, [1], []), (1, .ifCond .lt 11, 3, [12], []), (4, .iload_n 1, 1, [1], []), (5, .aload_n 0, 1, [0], []), (6, .getfield 385, 3, [12, 71, 0], []), (9, .if_icmp .lt 5, 3, [14], []), (12, .iconst (-1), 1, [], [((-1), 0)]), (13, .ireturn, 1, [0], []), (14, .iload_n 2, 1, [2], []), (15, .iconst 0, 1, [], [(0, 0)]), (16, .sipush 999, 3, [], [(999, 0)]), (19, .invokestatic 176, 3, [168, 3, 1, 12, 3], []), (22, .ifCond .ne 6, 3, [28], []), (25, .bipush (-2), 2, [], [((-2), 0)]), (27, .ireturn, 1, [0], []), (28, .aload_n 0, 1, [0], []), (29, .getfield 159, 3, [12, 73, 2], []), (32, .iload_n 1, 1, [1], []), (33, .iaload, 1, [], []), (34, .iload_n 2, 1, [2], []), (35, .iadd, 1, [], []), (36, .sipush 9999, 3, [], [(9999, 0)]), (39, .if_icmp .le 6, 3, [45], []), (42, .bipush (-4), 2, [], [((-4), 0)]), (44, .ireturn, 1, [0], []), (45, .aload_n 0, 1, [0], []), (46, .getfield 159, 3, [12, 73, 2], []), (49, .iload_n 1, 1, [1], []), (50, .iaload, 1, [], []), (51, .iload_n 2, 1, [2], []), (52, .iadd, 1, [], []), (53, .istore_n 3, 1, [3], []), (54, .aload_n 0, 1, [0], []), (55, .getfield 156, 3, [12, 72, 2], []), (58, .iload_n 1, 1, [1], []), (59, .iaload, 1, [], []), (60, .aload_n 0, 1, [0], []), (61, .getfield 162, 3, [12, 74, 2], []), (64, .iload_n 1, 1, [1], []), (65, .iaload, 1, [], []), (66, .iconst 4, 1, [], [(4, 0)]), (67, .idiv, 1, [], []), (68, .isub, 1, [], []), (69, .istore 4, 2, [4], []), (71, .iload 4, 2, [4], []), (73, .ifCond .ge 7, 3, [80], []), (76, .iconst 0, 1, [], [(0, 0)]), (77, .goto 5, 3, [82], []), (80, .iload 4, 2, [4], []), (82, .istore 4, 2, [4], []), (84, .iload 4, 2, [4], []), (86, .iload_n 3, 1, [3], []), (87, .if_icmp .ge 8, 3, [95], []), (90, .iload 4, 2, [4], []), (92, .goto 4, 3, [96], []), (95, .iload_n 3, 1, [3], []), (96, .istore 5, 2, [5], []), (98, .iload 4, 2, [4], []), (100, .iload_n 3, 1, [3], []), (101, .if_icmp .le 27, 3, [128], []), (104, .aload_n 0, 1, [0], []), (105, .getfield 162, 3, [12, 74, 2], []), (108, .iload_n 1, 1, [1], []), (109, .iaload, 1, [], []), (110, .bipush 99, 2, [], [(99, 0)]), (112, .if_icmp .ge 16, 3, [128], []), (115, .aload_n 0, 1, [0], []), (116, .getfield 162, 3, [12, 74, 2], []), (119, .iload_n 1, 1, [1], []), (120, .dup2, 1, [], []), (121, .iaload, 1, [], []), (122, .iconst 1, 1, [], [(1, 0)]), (123, .iadd, 1, [], []), (124, .iastore, 1, [], []), (125, .goto 37, 3, [162], []), (128, .iload_n 3, 1, [3], []), (129, .iconst 2, 1, [], [(2, 0)]), (130, .iload 4, 2, [4], []), (132, .imul, 1, [], []), (133, .if_icmp .lt 29, 3, [162], []), (136, .iload 4, 2, [4], []), (138, .iload_n 3, 1, [3], []), (139, .if_icmp .gt 23, 3, [162], []), (142, .aload_n 0, 1, [0], []), (143, .getfield 162, 3, [12, 74, 2], []), (146, .iload_n 1, 1, [1], []), (147, .iaload, 1, [], []), (148, .iconst 1, 1, [], [(1, 0)]), (149, .if_icmp .le 13, 3, [162], []), (152, .aload_n 0, 1, [0], []), (153, .getfield 162, 3, [12, 74, 2], []), (156, .iload_n 1, 1, [1], []), (157, .dup2, 1, [], []), (158, .iaload, 1, [], []), (159, .iconst 1, 1, [], [(1, 0)]), (160, .isub, 1, [], []), (161, .iastore, 1, [], []), (162, .aload_n 0, 1, [0], []), (163, .getfield 159, 3, [12, 73, 2], []), (166, .iload_n 1, 1, [1], []), (167, .iload_n 3, 1, [3], []), (168, .iload 5, 2, [5], []), (170, .isub, 1, [], []), (171, .iastore, 1, [], []), (172, .aload_n 0, 1, [0], []), (173, .getfield 165, 3, [12, 75, 2], []), (176, .iload_n 1, 1, [1], []), (177, .dup2, 1, [], []), (178, .iaload, 1, [], []), (179, .iconst 1, 1, [], [(1, 0)]), (180, .iadd, 1, [], []), (181, .iastore, 1, [], []), (182, .aload_n 0, 1, [0], []), (183, .getfield 168, 3, [12, 76, 2], []), (186, .iload_n 1, 1, [1], []), (187, .dup2, 1, [], []), (188, .iaload, 1, [], []), (189, .iload 5, 2, [5], []), (191, .iadd, 1, [], []), (192, .iastore, 1, [], []), (193, .iload 5, 2, [5], []), (195, .ireturn, 1, [0], [])]
noncomputable def cd253 : List (Nat × AI) := [(0, .iload_n 1, 1, [1], []), (1, .ifCond .lt 11, 3, [12], []), (4, .iload_n 1, 1, [1], []), (5, .aload_n 0, 1, [0], []), (6, .getfield 385, 3, [12, 71, 0], []), (9, .if_icmp .lt 5, 3, [14], []), (12, .iconst (-1), 1, [], [((-1), 0)]), (13, .ireturn, 1, [0], []), (14, .iload_n 2, 1, [2], []), (15, .tableswitch 68 0 4 #[33, 40, 47, 54, 61], 33, [83], [(0, 48), (1, 55), (2, 62), (3, 69), (4, 76)]), (48, .aload_n 0, 1, [0], []), (49, .getfield 156, 3, [12, 72, 2], []), (52, .iload_n 1, 1, [1], []), (53, .iaload, 1, [], []), (54, .ireturn, 1, [0], []), (55, .aload_n 0, 1, [0], []), (56, .getfield 159, 3, [12, 73, 2], []), (59, .iload_n 1, 1, [1], []), (60, .iaload, 1, [], []), (61, .ireturn, 1, [0], []), (62, .aload_n 0, 1, [0], []), (63, .getfield 162, 3, [12, 74, 2], []), (66, .iload_n 1, 1, [1], []), (67, .iaload, 1, [], []), (68, .ireturn, 1, [0], []), (69, .aload_n 0, 1, [0], []), (70, .getfield 165, 3, [12, 75, 2], []), (73, .iload_n 1, 1, [1], []), (74, .iaload, 1, [], []), (75, .ireturn, 1, [0], []), (76, .aload_n 0, 1, [0], []), (77, .getfield 168, 3, [12, 76, 2], []), (80, .iload_n 1, 1, [1], []), (81, .iaload, 1, [], []), (82, .ireturn, 1, [0], []), (83, .bipush (-2), 2, [], [((-2), 0)]), (85, .ireturn, 1, [0], [])]
noncomputable def cd254 : List (Nat × AI) := [(0, .aload_n 0, 1, [0], []), (1, .iconst 0, 1, [], [(0, 0)]), (2, .putfield 171, 3, [12, 0, 0], []), (5, .iload_n 1, 1, [1], []), (6, .invokestatic 211, 3, [170, 1, 1, 12, 1], []), (9, .ifCond .ne 5, 3, [14], []), (12, .iconst (-1), 1, [], [((-1), 0)]), (13, .ireturn, 1, [0], []), (14, .iload_n 2, 1, [2], []), (15, .invokestatic 215, 3, [171, 1, 1, 12, 1], []), (18, .ifCond .eq 9, 3, [27], []), (21, .iload_n 3, 1, [3], []), (22, .bipush 60, 2, [], [(60, 0)]), (24, .if_icmp .le 6, 3, [30], []), (27, .bipush (-2), 2, [], [((-2), 0)]), (29, .ireturn, 1, [0], []), (30, .iload_n 3, 1, [3], []), (31, .ifCond .ge 9, 3, [40], []), (34, .aload_n 0, 1, [0], []), (35, .iconst 4, 1, [], [(4, 0)]), (36, .invokevirtual 180, 3, [166, 2, 1, 12, 2], []), (39, .ireturn, 1, [0], []), (40, .aload_n 0, 1, [0], []), (41, .getfield 9, 3, [12, 2, 2], []), (44, .iload_n 1, 1, [1], []), (45, .iload_n 2, 1, [2], []), (46, .iastore, 1, [], []), (47, .aload_n 0, 1, [0], []), (48, .getfield 13, 3, [12, 3, 2], []), (51, .iload_n 1, 1, [1], []), (52, .iload_n 3, 1, [3], []), (53, .iastore, 1, [], []), (54, .iconst 0, 1, [], [(0, 0)]), (55, .istore 4, 2, [4], []), (57, .iload 4, 2, [4], []), (59, .bipush 60, 2, [], [(60, 0)]), (61, .if_icmp .ge 22, 3, [83], []), (64, .aload_n 0, 1, [0], []), (65, .getfield 16, 3, [12, 4, 2], []), (68, .bipush 60, 2, [], [(60, 0)]), (70, .iload_n 1, 1, [1], []), (71, .imul, 1, [], []), (72, .iload 4, 2, [4], []), (74, .iadd, 1, [], []), (75, .iconst 0, 1, [], [(0, 0)]), (76, .iastore, 1, [], []), (77, .iinc 4 1, 3, [4], [(1, 0)]), (80, .goto (-23), 3, [57], []), (83, .iconst 1, 1, [], [(1, 0)]), (84, .ireturn, 1, [0], [])]
noncomputable def cd255 : List (Nat × AI) := [(0, .iload_n 1, 1, [1], []), (1, .invokestatic 211, 3, [170, 1, 1, 12, 1], []), (4, .ifCond .ne 5, 3, [9], []), (7, .iconst (-1), 1, [], [((-1), 0)]), (8, .ireturn, 1, [0], []), (9, .aload_n 0, 1, [0], []), (10, .getfield 9, 3, [12, 2, 2], []), (13, .iload_n 1, 1, [1], []), (14, .iaload, 1, [], []), (15, .bipush (-9), 2, [], [((-9), 0)]), (17, .if_icmp .ne 7, 3, [24], []), (20, .iconst 0, 1, [], [(0, 0)]), (21, .goto 4, 3, [25], []), (24, .iconst 1, 1, [], [(1, 0)]), (25, .istore_n 2, 1, [2], []), (26, .aload_n 0, 1, [0], []), (27, .getfield 9, 3, [12, 2, 2], []), (30, .iload_n 1, 1, [1], []), (31, .bipush (-9), 2, [], [((-9), 0)]), (33, .iastore, 1, [], []), (34, .iload_n 2, 1, [2], []), (35, .ireturn, 1, [0], [])]
noncomputable def cd256 : List (Nat × AI) := [(0, .aload_n 0, 1, [0], []), (1, .iconst 0, 1, [], [(0, 0)]), (2, .putfield 171, 3, [12, 0, 0], []), (5, .iload_n 1, 1, [1], []), (6, .invokestatic 211, 3, [170, 1, 1, 12, 1], []), (9, .ifCond .ne 5, 3, [14], []), (12, .iconst (-1), 1, [], [((-1), 0)]), (13, .ireturn, 1, [0], []), (14, .aload_n 0, 1, [0], []), (15, .getfield 9, 3, [12, 2, 2], []), (18, .iload_n 1, 1, [1], []), (19, .iaload, 1, [], []), (20, .bipush (-9), 2, [], [((-9), 0)]), (22, .if_icmp .ne 9, 3, [31], []), (25, .aload_n 0, 1, [0], []), (26, .iconst 1, 1, [], [(1, 0)]), (27, .invokevirtual 180, 3, [166, 2, 1, 12, 2], []), (30, .ireturn, 1, [0], []), (31, .iload_n 2, 1, [2], []), (32, .iconst 0, 1, [], [(0, 0)]), (33, .aload_n 0, 1, [0], []), (34, .getfield 13, 3, [12, 3, 2], []), (37, .iload_n 1, 1, [1], []), (38, .iaload, 1, [], []), (39, .iconst 1, 1, [], [(1, 0)]), (40, .isub, 1, [], []), (41, .invokestatic 176, 3, [168, 3, 1, 12, 3], []), (44, .ifCond .ne 9, 3, [53], []), (47, .aload_n 0, 1, [0], []), (48, .iconst 3, 1, [], [(3, 0)]), (49, .invokevirtual 180, 3, [166, 2, 1, 12, 2], []), (52, .ireturn, 1, [0], []), (53, .aload_n 0, 1, [0], []), (54, .getfield 16, 3, [12, 4, 2], []), (57, .bipush 60, 2, [], [(60, 0)]), (59, .iload_n 1, 1, [1], []), (60, .imul, 1, [], []), (61, .iload_n 2, 1, [2], []), (62, .iadd, 1, [], []), (63, .aload_n 0, 1, [0], []), (64, .getfield 9, 3, [12, 2, 2], []), (67, .iload_n 1, 1, [1], []), (68, .iaload, 1, [], []), (69, .ifCond .ne 8, 3, [77], []), (72, .iload_n 3, 1, [3], []), (73, .i2b, 1, [], []), (74, .goto 19, 3, [93], []), (77, .aload_n 0, 1, [0], []), (78, .getfield 9, 3, [12, 2, 2], []), (81, .iload_n 1, 1, [1], []), (82, .iaload, 1, [], []), (83, .iconst 1, 1, [], [(1, 0)]), (84, .if_icmp .ne 8, 3, [92], []), (87, .iload_n 3, 1, [3], []), (88, .i2s, 1, [], []), (89, .goto 4, 3, [93], []), (92, .iload_n 3, 1, [3], []), (93, .iastore, 1, [], []), (94, .iconst 1, 1, [], [(1, 0)]), (95, .ireturn, 1, [0], [])]
noncomputable def cd257 : List (Nat × AI) := [(0, .aload_n 0, 1, [0], []), (1, .iconst 0, 1, [], [(0, 0)]), (2, .putfield 171, 3, [12, 0, 0], []), (5, .iload_n 1, 1, [1], []), (6, .invokestatic 211, 3, [170, 1, 1, 12, 1], []), (9, .ifCond .eq 10, 3, [19], []), (12, .iload_n 3, 1, [3], []), (13, .invokestatic 215, 3, [171, 1, 1, 12, 1], []), (16, .ifCond .ne 7, 3, [23], []), (19, .ldc2_w 174, 3, [], []), (22, .lreturn, 1, [], []), (23, .aload_n 0, 1, [0], []), (24, .getfield 9, 3, [12, 2, 2], []), (27, .iload_n 1, 1, [1], []), (28, .iaload, 1, [], []), (29, .bipush (-9), 2, [], [((-9), 0)]), (31, .if_icmp .eq 19, 3, [50], []), (34, .aload_n 0, 1, [0], []), (35, .getfield 9, 3, [12, 2, 2], []), (38, .iload_n 1, 1, [1], []), (39, .iaload, 1, [], []), (40, .iload_n 3, 1, [3], []), (41, .if_icmp .eq 9, 3, [50], []), (44, .aload_n 0, 1, [0], []), (45, .iconst 2, 1, [], [(2, 0)]), (46, .invokevirtual 388, 3, [167, 2, 2, 12, 2], []), (49, .lreturn, 1, [], []), (50, .aload_n 0, 1, [0], []), (51, .getfield 9, 3, [12, 2, 2], []), (54, .iload_n 1, 1, [1], []), (55, .iaload, 1, [], []), (56, .bipush (-9), 2, [], [((-9), 0)]), (58, .if_icmp .ne 9, 3, [67], []), (61, .aload_n 0, 1, [0], []), (62, .iconst 1, 1, [], [(1, 0)]), (63, .invokevirtual 388, 3, [167, 2, 2, 12, 2], []), (66, .lreturn, 1, [], []), (67, .iload_n 2, 1, [2], []), (68, .iconst 0, 1, [], [(0, 0)]), (69, .aload_n 0, 1, [0], []), (70, .getfield 13, 3, [12, 3, 2], []), (73, .iload_n 1, 1, [1], []), (74, .iaload, 1, [], []), (75, .iconst 1, 1, [], [(1, 0)]), (76, .isub, 1, [], []), (77, .invokestatic 176, 3, [168, 3, 1, 12, 3], []), (80, .ifCond .ne 9, 3, [89], []), (83, .aload_n 0, 1, [0], []), (84, .iconst 3, 1, [], [(3, 0)]), (85, .invokevirtual 388, 3, [167, 2, 2, 12, 2], []), (88, .lreturn, 1, [], []), (89, .aload_n 0, 1, [0], []), (90, .getfield 16, 3, [12, 4, 2], []), (93, .bipush 60, 2, [], [(60, 0)]), (95, .iload_n 1, 1, [1], []), (96, .imul, 1, [], []), (97, .iload_n 2, 1, [2], []), (98, .iadd, 1, [], []), (99, .iaload, 1, [], []), (100, .i2l, 1, [], []), (101, .lreturn, 1, [], [])]
noncomputable def cd258 : List (Nat × AI) := [(0, .aload_n 0, 1, [0], []), (1, .bipush 31, 2, [], [(31, 0)]), (3, .aload_n 0, 1, [0], []), (4, .getfield 392, 3, [12, 1, 0], []), (7, .imul, 1, [], []), (8, .iload_n 1, 1, [1], []), (9, .iadd, 1, [], []), (10, .putfield 392, 3, [12, 1, 0], []), (13, .return_, 1, [], [])]
noncomputable def cd259 : List (Nat × AI) := [(0, .iconst 0, 1, [], [(0, 0)]), (1, .istore_n 2, 1, [2], []), (2, .iconst 0, 1, [], [(0, 0)]), (3, .istore_n 3, 1, [3], []), (4, .iload_n 3, 1, [3], []), (5, .aload_n 0, 1, [0], []), (6, .getfield 309, 3, [12, 44, 0], []), (9, .if_icmp .ge 27, 3, [36], []), (12, .iload_n 2, 1, [2], []), (13, .aload_n 0, 1, [0], []), (14, .getfield 106, 3, [12, 46, 2], []), (17, .iload_n 3, 1, [3], []), (18, .iaload, 1, [], []), (19, .iload_n 1, 1, [1], []), (20, .if_icmp .ne 7, 3, [27], []), (23, .iconst 1, 1, [], [(1, 0)]), (24, .goto 4, 3, [28], []), (27, .iconst 0, 1, [], [(0, 0)]), (28, .iadd, 1, [], []), (29, .istore_n 2, 1, [2], []), (30, .iinc 3 1, 3, [3], [(1, 0)]), (33, .goto (-29), 3, [4], []), (36, .iload_n 2, 1, [2], []), (37, .ireturn, 1, [0], [])]
noncomputable def cd260 : List (Nat × AI) := [(0, .aload_n 0, 1, [0], []), (1, .iload_n 1, 1, [1], []), (2, .invokevirtual 315, 3, [215, 2, 1, 12, 2], []), (5, .ifCond .ne 5, 3, [10], []), (8, .iconst (-1), 1, [], [((-1), 0)]), (9, .ireturn, 1, [0], []), (10, .aload_n 0, 1, [0], []), (11, .getfield 97, 3, [12, 41, 2], []), (14, .iload_n 1, 1, [1], []), (15, .iaload, 1, [], []), (16, .lookupswitch 86 #[(1, 28), (2, 51)], 28, [102], [(1, 44), (2, 67)]), (44, .aload_n 0, 1, [0], []), (45, .iconst 2, 1, [], [(2, 0)]), (46, .invokevirtual 395, 3, [258, 2, 0, 12, 2], []), (49, .aload_n 0, 1, [0], []), (50, .iconst 1, 1, [], [(1, 0)]), (51, .invokevirtual 395, 3, [258, 2, 0, 12, 2], []), (54, .aload_n 0, 1, [0], []), (55, .getfield 100, 3, [12, 42, 2], []), (58, .iload_n 1, 1, [1], []), (59, .iaload, 1, [], []), (60, .aload_n 0, 1, [0], []), (61, .iload_n 1, 1, [1], []), (62, .invokevirtual 398, 3, [259, 2, 1, 12, 4], []), (65, .iadd, 1, [], []), (66, .ireturn, 1, [0], []), (67, .aload_n 0, 1, [0], []), (68, .iconst 3, 1, [], [(3, 0)]), (69, .invokevirtual 395, 3, [258, 2, 0, 12, 2], []), (72, .aload_n 0, 1, [0], []), (73, .iconst 2, 1, [], [(2, 0)]), (74, .invokevirtual 395, 3, [258, 2, 0, 12, 2], []), (77, .aload_n 0, 1, [0], []), (78, .iconst 1, 1, [], [(1, 0)]), (79, .invokevirtual 395, 3, [258, 2, 0, 12, 2], []), (82, .aload_n 0, 1, [0], []), (83, .iconst 1, 1, [], [(1, 0)]), (84, .invokevirtual 395, 3, [258, 2, 0, 12, 2], []), (87, .iconst 2, 1, [], [(2, 0)]), (88, .aload_n 0, 1, [0], []), (89, .getfield 100, 3, [12, 42, 2], []), (92, .iload_n 1, 1, [1], []), (93, .iaload, 1, [], []), (94, .imul, 1, [], []), (95, .aload_n 0, 1, [0], []), (96, .iload_n 1, 1, [1], []), (97, .invokevirtual 398, 3, [259, 2, 1, 12, 4], []), (100, .iadd, 1, [], []), (101, .ireturn, 1, [0], []), (102, .aload_n 0, 1, [0], []), (103, .iconst 1, 1, [], [(1, 0)]), (104, .invokevirtual 395, 3, [258, 2, 0, 12, 2], []), (107, .aload_n 0, 1, [0], []), (108, .getfield 100, 3, [12, 42, 2], []), (111, .iload_n 1, 1, [1], []), (112, .iaload, 1, [], []), (113, .ireturn, 1, [0], [])]
noncomputable def cd261 : List (Nat × AI) := [(0, .aload_n 0, 1, [0], []), (1, .iload_n 1, 1, [1], []), (2, .invokevirtual 315, 3, [215, 2, 1, 12, 2], []), (5, .ifCond .ne 5, 3, [10], []), (8, .iconst (-1), 1, [], [((-1), 0)]), (9, .ireturn, 1, [0], []), (10, .aload_n 0, 1, [0], []), (11, .aload_n 0, 1, [0], []), (12, .getfield 97, 3, [12, 41, 2], []), (15, .iload_n 1, 1, [1], []), (16, .iaload, 1, [], []), (17, .iconst 2, 1, [], [(2, 0)]), (18, .if_icmp .ne 7, 3, [25], []), (21, .iconst 5, 1, [], [(5, 0)]), (22, .goto 4, 3, [26], []), (25, .iconst 4, 1, [], [(4, 0)]), (26, .invokevirtual 395, 3, [258, 2, 0, 12, 2], []), (29, .aload_n 0, 1, [0], []), (30, .getfield 97, 3, [12, 41, 2], []), (33, .iload_n 1, 1, [1], []), (34, .iaload, 1, [], []), (35, .iconst 2, 1, [], [(2, 0)]), (36, .if_icmp .ne 8, 3, [44], []), (39, .bipush 45, 2, [], [(45, 0)]), (41, .goto 4, 3, [45], []), (44, .iload_n 1, 1, [1], []), (45, .ireturn, 1, [0], [])]
noncomputable def cd262 : List (Nat × AI) := [(0, .aload_n 0, 1, [0], []), (1, .iconst 0, 1, [], [(0, 0)]), (2, .putfield 171, 3, [12, 0, 0], []), (5, .aload_n 0, 1, [0], []), (6, .iload_n 1, 1, [1], []), (7, .invokevirtual 315, 3, [215, 2, 1, 12, 2], []), (10, .ifCond .ne 5, 3, [15], []), (13, .iconst (-1), 1, [], [((-1), 0)]), (14, .ireturn, 1, [0], []), (15, .iload_n 2, 1, [2], []), (16, .iconst 0, 1, [], [(0, 0)]), (17, .iconst 2, 1, [], [(2, 0)]), (18, .invokestatic 176, 3, [168, 3, 1, 12, 3], []), (21, .ifCond .ne 6, 3, [27], []), (24, .bipush (-2), 2, [], [((-2), 0)]), (26, .ireturn, 1, [0], []), (27, .aload_n 0, 1, [0], []), (28, .getfield 97, 3, [12, 41, 2], []), (31, .iload_n 1, 1, [1], []), (32, .iaload, 1, [], []), (33, .iload_n 2, 1, [2], []), (34, .if_icmp .lt 7, 3, [41], []), (37, .iconst 1, 1, [], [(1, 0)]), (38, .goto 8, 3, [46], []), (41, .aload_n 0, 1, [0], []), (42, .iconst 2, 1, [], [(2, 0)]), (43, .invokevirtual 180, 3, [166, 2, 1, 12, 2], []), (46, .ireturn, 1, [0], [])]
noncomputable def cd263 : List (Nat × AI) := [(0, .aload_n 0, 1, [0], []), (1, .getfield 392, 3, [12, 1, 0], []), (4, .ireturn, 1, [0], [])]
noncomputable def cd264 : List (Nat × AI) := [(0, .aload_n 0, 1, [0], []), (1, .getfield 171, 3, [12, 0, 0], []), (4, .ireturn, 1, [0], [])]
noncomputable def cd265 : List (Nat × AI) := [(0, .iload_n 1, 1, [1], []), (1, .tableswitch 123 0 11 #[63, 68, 73, 78, 83, 88, 93, 98, 103, 108, 113, 118], 63, [124], [(0, 64), (1, 69), (2, 74), (3, 79), (4, 84), (5, 89), (6, 94), (7, 99), (8, 104), (9, 109), (10, 114), (11, 119)]), (64, .aload_n 0, 1, [0], []), (65, .getfield 226, 3, [12, 5, 0], []), (68, .ireturn, 1, [0], []), (69, .aload_n 0, 1, [0], []), (70, .getfield 255, 3, [12, 16, 0], []), (73, .ireturn, 1, [0], []), (74, .aload_n 0, 1, [0], []), (75, .getfield 270, 3, [12, 27, 0], []), (78, .ireturn, 1, [0], []), (79, .aload_n 0, 1, [0], []), (80, .getfield 279, 3, [12, 31, 0], []), (83, .ireturn, 1, [0], []), (84, .aload_n 0, 1, [0], []), (85, .getfield 282, 3, [12, 34, 0], []), (88, .ireturn, 1, [0], []), (89, .aload_n 0, 1, [0], []), (90, .getfield 303, 3, [12, 40, 0], []), (93, .ireturn, 1, [0], []), (94, .aload_n 0, 1, [0], []), (95, .getfield 306, 3, [12, 43, 0], []), (98, .ireturn, 1, [0], []), (99, .aload_n 0, 1, [0], []), (100, .getfield 309, 3, [12, 44, 0], []), (103, .ireturn, 1, [0], []), (104, .aload_n 0, 1, [0], []), (105, .getfield 355, 3, [12, 56, 0], []), (108, .ireturn, 1, [0], []), (109, .aload_n 0, 1, [0], []), (110, .getfield 370, 3, [12, 61, 0], []), (113, .ireturn, 1, [0], []), (114, .aload_n 0, 1, [0], []), (115, .getfield 385, 3, [12, 71, 0], []), (118, .ireturn, 1, [0], []), (119, .aload_n 0, 1, [0], []), (120, .getfield 379, 3, [12, 67, 0], []), (123, .ireturn, 1, [0], []), (124, .bipush (-2), 2, [], [((-2), 0)]), (126, .ireturn, 1, [0], [])]
noncomputable def cd266 : List (Nat × AI) := [(0, .iload_n 0, 1, [0], []), (1, .iload_n 0, 1, [0], []), (2, .iconst 1, 1, [], [(1, 0)]), (3, .iushr, 1, [], []), (4, .ldc_w 265, 3, [], [(1431655765, 0)]), (7, .iand, 1, [], []), (8, .isub, 1, [], []), (9, .istore_n 0, 1, [0], []), (10, .iload_n 0, 1, [0], []), (11, .ldc_w 266, 3, [], [(858993459, 0)]), (14, .iand, 1, [], []), (15, .iload_n 0, 1, [0], []), (16, .iconst 2, 1, [], [(2, 0)]), (17, .iushr, 1, [], []), (18, .ldc_w 266, 3, [], [(858993459, 0)]), (21, .iand, 1, [], []), (22, .iadd, 1, [], []), (23, .istore_n 0, 1, [0], []), (24, .iload_n 0, 1, [0], []), (25, .iload_n 0, 1, [0], []), (26, .iconst 4, 1, [], [(4, 0)]), (27, .iushr, 1, [], []), (28, .iadd, 1, [], []), (29, .ldc_w 267, 3, [], [(252645135, 0)]), (32, .iand, 1, [], []), (33, .istore_n 0, 1, [0], []), (34, .iload_n 0, 1, [0], []), (35, .iload_n 0, 1, [0], []), (36, .bipush 8, 2, [], [(8, 0)]), (38, .iushr, 1, [], []), (39, .iadd, 1, [], []), (40, .istore_n 0, 1, [0], []), (41, .iload_n 0, 1, [0], []), (42, .iload_n 0, 1, [0], []), (43, .bipush 16, 2, [], [(16, 0)]), (45, .iushr, 1, [], []), (46, .iadd, 1, [], []), (47, .istore_n 0, 1, [0], []), (48, .iload_n 0, 1, [0], []), (49, .bipush 63, 2, [], [(63, 0)]), (51, .iand, 1, [], []), (52, .ireturn, 1, [0], [])]
noncomputable def cd267 : List (Nat × AI) := [(0, .iload_n 0, 1, [0], []), (1, .ifCond .ge 8, 3, [9], []), (4, .iload_n 0, 1, [0], []), (5, .ineg, 1, [], []), (6, .goto 4, 3, [10], []), (9, .iload_n 0, 1, [0], []), (10, .ireturn, 1, [0], [])]
noncomputable def cd268 : List (Nat × AI) := [(0, .iload_n 0, 1, [0], []), (1, .iload_n 1, 1, [1], []), (2, .if_icmp .lt 7, 3, [9], []), (5, .iload_n 0, 1, [0], []), (6, .goto 4, 3, [10], []), (9, .iload_n 1, 1, [1], []), (10, .ireturn, 1, [0], [])]
noncomputable def cd269 : List (Nat × AI) := [(0, .iload_n 0, 1, [0], []), (1, .iload_n 1, 1, [1], []), (2, .if_icmp .gt 7, 3, [9], []), (5, .iload_n 0, 1, [0], []), (6, .goto 4, 3, [10], []), (9, .iload_n 1, 1, [1], []), (10, .ireturn, 1, [0], [])]
noncomputable def cd270 : List (Nat × AI) := [(0, .iconst 0, 1, [], [(0, 0)]), (1, .istore_n 2, 1, [2], []), (2, .aload_n 0, 1, [0], []), (3, .arraylength, 1, [], []), (4, .istore_n 3, 1, [3], []), (5, .iload_n 2, 1, [2], []), (6, .iload_n 3, 1, [3], []), (7, .if_icmp .ge 13, 3, [20], []), (10, .aload_n 0, 1, [0], []), (11, .iload_n 2, 1, [2], []), (12, .iload_n 1, 1, [1], []), (13, .iastore, 1, [], []), (14, .iinc 2 1, 3, [2], [(1, 0)]), (17, .goto (-12), 3, [5], []), (20, .return_, 1, [], [])]
noncomputable def cd271_0 : List (Nat × AI) := [(0, .new 7, 3, [11], []), (3, .dup, 1, [], []), (4, .invokespecial 9, 3, [107, 1, 0, 11, 1], []), (7, .astore_n 1, 1, [1], []), (8, .new 10, 3, [12], []), (11, .dup, 1, [], []), (12, .invokespecial 12, 3, [165, 1, 0, 12, 1], []), (15, .astore_n 2, 1, [2], []), (16, .iconst 0, 1, [], [(0, 0)]), (17, .istore_n 3, 1, [3], []), (18, .iload_n 3, 1, [3], []), (19, .aload_n 0, 1, [0], []), (20, .arraylength, 1, [], []), (21, .bipush 8, 2, [], [(8, 0)]), (23, .isub, 1, [], []), (24, .if_icmp .gt 2089, 3, [2113], []), (27, .aload_n 0, 1, [0], []), (28, .iload_n 3, 1, [3], []), (29, .iaload, 1, [], []), (30, .bipush 63, 2, [], [(63, 0)]), (32, .iand, 1, [], []), (33, .tableswitch 2074 0 52 #[227, 280, 313, 346, 409, 472, 495, 570, 603, 666, 689, 732, 745, 778, 831, 906, 939, 962, 975, 1008, 1041, 1054, 1097, 1156, 1189, 1212, 1251, 1274, 1323, 1336, 1359, 1372, 1405, 1448, 1481, 1504, 1537, 1550, 1584, 1607, 1694, 1727, 1760, 1793, 1836, 1859, 1902, 1946, 1969, 1992, 2025, 2038, 2051], 227, [2107], [(0, 260), (1, 313), (2, 346), (3, 379), (4, 442), (5, 505), (6, 528), (7, 603), (8, 636), (9, 699), (10, 722), (11, 765), (12, 778), (13, 811), (14, 864), (15, 939), (16, 972), (17, 995), (18, 1008), (19, 1041), (20, 1074), (21, 1087), (22, 1130), (23, 1189), (24, 1222), (25, 1245), (26, 1284), (27, 1307), (28, 1356), (29, 1369), (30, 1392), (31, 1405), (32, 1438), (33, 1481), (34, 1514), (35, 1537), (36, 1570), (37, 1583), (38, 1617), (39, 1640), (40, 1727), (41, 1760), (42, 1793), (43, 1826), (44, 1869), (45, 1892), (46, 1935), (47, 1979), (48, 2002), (49, 2025), (50, 2058), (51, 2071), (52, 2084)]), (260, .aload_n 1, 1, [1], []), (261, .aload_n 0, 1, [0], []), (262, .iload_n 3, 1, [3], []), (263, .iconst 1, 1, [], [(1, 0)]), (264, .iadd, 1, [], []), (265, .iaload, 1, [], []), (266, .aload_n 0, 1, [0], []), (267, .iload_n 3, 1, [3], []), (268, .iconst 2, 1, [], [(2, 0)]), (269, .iadd, 1, [], []), (270, .iaload, 1, [], []), (271, .aload_n 0, 1, [0], []), (272, .iload_n 3, 1, [3], []), (273, .iconst 3, 1, [], [(3, 0)]), (274, .iadd, 1, [], []), (275, .iaload, 1, [], []), (276, .aload_n 0, 1, [0], []), (277, .iload_n 3, 1, [3], []), (278, .iconst 4, 1, [], [(4, 0)]), (279, .iadd, 1, [], []), (280, .iaload, 1, [], []), (281, .invokevirtual 13, 3, [108, 5, 1, 11, 7], []), (284, .aload_n 2, 1, [2], []), (285, .aload_n 0, 1, [0], []), (286, .iload_n 3, 1, [3], []), (287, .iconst 1, 1, [], [(1, 0)]), (288, .iadd, 1, [], []), (289, .iaload, 1, [], []), (290, .aload_n 0, 1, [0], []), (291, .iload_n 3, 1, [3], []), (292, .iconst 2, 1, [], [(2, 0)]), (293, .iadd, 1, [], []), (294, .iaload, 1, [], []), (295, .aload_n 0, 1, [0], []), (296, .iload_n 3, 1, [3], []), (297, .iconst 3, 1, [], [(3, 0)]), (298, .iadd, 1, [], []), (299, .iaload, 1, [], []), (300, .aload_n 0, 1, [0], []), (301, .iload_n 3, 1, [3], []), (302, .iconst 4, 1, [], [(4, 0)]), (303, .iadd, 1, [], []), (304, .iaload, 1, [], []), (305, .invokevirtual 17, 3, [180, 5, 1, 12, 7], []), (308, .if_icmp .eq 1799, 3, [2107], []), (311, .iconst 0, 1, [], [(0, 0)]), (312, .ireturn, 1, [1], []), (313, .aload_n 1, 1, [1], []), (314, .aload_n 0, 1, [0], []), (315, .iload_n 3, 1, [3], []), (316, .iconst 1, 1, [], [(1, 0)]), (317, .iadd, 1, [], []), (318, .iaload, 1, [], []), (319, .aload_n 0, 1, [0], []), (320, .iload_n 3, 1, [3], []), (321, .iconst 2, 1, [], [(2, 0)]), (322, .iadd, 1, [], []), (323, .iaload, 1, [], []), (324, .invokevirtual 18, 3, [109, 3, 1, 11, 5], []), (327, .aload_n 2, 1, [2], []), (328, .aload_n 0, 1, [0], []), (329, .iload_n 3, 1, [3], []), (330, .iconst 1, 1, [], [(1, 0)]), (331, .iadd, 1, [], []), (332, .iaload, 1, [], []), (333, .aload_n 0, 1, [0], []), (334, .iload_n 3, 1, [3], []), (335, .iconst 2, 1, [], [(2, 0)]), (336, .iadd, 1, [], []), (337, .iaload, 1, [], []), (338, .invokevirtual 22, 3, [182, 3, 1, 12, 4], []), (341, .if_icmp .eq 1766, 3, [2107], []), (344, .iconst 0, 1, [], [(0, 0)]), (345, .ireturn, 1, [1], []), (346, .aload_n 1, 1, [1], []), (347, .aload_n 0, 1, [0], []), (348, .iload_n 3, 1, [3], []), (349, .iconst 1, 1, [], [(1, 0)])]
noncomputable def cd271_1 : List (Nat × AI) := [(350, .iadd, 1, [], []), (351, .iaload, 1, [], []), (352, .aload_n 0, 1, [0], []), (353, .iload_n 3, 1, [3], []), (354, .iconst 2, 1, [], [(2, 0)]), (355, .iadd, 1, [], []), (356, .iaload, 1, [], []), (357, .invokevirtual 23, 3, [110, 3, 1, 11, 4], []), (360, .aload_n 2, 1, [2], []), (361, .aload_n 0, 1, [0], []), (362, .iload_n 3, 1, [3], []), (363, .iconst 1, 1, [], [(1, 0)]), (364, .iadd, 1, [], []), (365, .iaload, 1, [], []), (366, .aload_n 0, 1, [0], []), (367, .iload_n 3, 1, [3], []), (368, .iconst 2, 1, [], [(2, 0)]), (369, .iadd, 1, [], []), (370, .iaload, 1, [], []), (371, .invokevirtual 26, 3, [183, 3, 1, 12, 3], []), (374, .if_icmp .eq 1733, 3, [2107], []), (377, .iconst 0, 1, [], [(0, 0)]), (378, .ireturn, 1, [1], []), (379, .aload_n 1, 1, [1], []), (380, .aload_n 0, 1, [0], []), (381, .iload_n 3, 1, [3], []), (382, .iconst 1, 1, [], [(1, 0)]), (383, .iadd, 1, [], []), (384, .iaload, 1, [], []), (385, .aload_n 0, 1, [0], []), (386, .iload_n 3, 1, [3], []), (387, .iconst 2, 1, [], [(2, 0)]), (388, .iadd, 1, [], []), (389, .iaload, 1, [], []), (390, .aload_n 0, 1, [0], []), (391, .iload_n 3, 1, [3], []), (392, .iconst 3, 1, [], [(3, 0)]), (393, .iadd, 1, [], []), (394, .iaload, 1, [], []), (395, .aload_n 0, 1, [0], []), (396, .iload_n 3, 1, [3], []), (397, .iconst 4, 1, [], [(4, 0)]), (398, .iadd, 1, [], []), (399, .iaload, 1, [], []), (400, .aload_n 0, 1, [0], []), (401, .iload_n 3, 1, [3], []), (402, .iconst 5, 1, [], [(5, 0)]), (403, .iadd, 1, [], []), (404, .iaload, 1, [], []), (405, .invokevirtual 27, 3, [111, 6, 1, 11, 7], []), (408, .aload_n 2, 1, [2], []), (409, .aload_n 0, 1, [0], []), (410, .iload_n 3, 1, [3], []), (411, .iconst 1, 1, [], [(1, 0)]), (412, .iadd, 1, [], []), (413, .iaload, 1, [], []), (414, .aload_n 0, 1, [0], []), (415, .iload_n 3, 1, [3], []), (416, .iconst 2, 1, [], [(2, 0)]), (417, .iadd, 1, [], []), (418, .iaload, 1, [], []), (419, .aload_n 0, 1, [0], []), (420, .iload_n 3, 1, [3], []), (421, .iconst 3, 1, [], [(3, 0)]), (422, .iadd, 1, [], []), (423, .iaload, 1, [], []), (424, .aload_n 0, 1, [0], []), (425, .iload_n 3, 1, [3], []), (426, .iconst 4, 1, [], [(4, 0)]), (427, .iadd, 1, [], []), (428, .iaload, 1, [], []), (429, .aload_n 0, 1, [0], []), (430, .iload_n 3, 1, [3], []), (431, .iconst 5, 1, [], [(5, 0)]), (432, .iadd, 1, [], []), (433, .iaload, 1, [], []), (434, .invokevirtual 31, 3, [188, 6, 1, 12, 6], []), (437, .if_icmp .eq 1670, 3, [2107], []), (440, .iconst 0, 1, [], [(0, 0)]), (441, .ireturn, 1, [1], []), (442, .aload_n 1, 1, [1], []), (443, .aload_n 0, 1, [0], []), (444, .iload_n 3, 1, [3], []), (445, .iconst 1, 1, [], [(1, 0)]), (446, .iadd, 1, [], []), (447, .iaload, 1, [], []), (448, .aload_n 0, 1, [0], []), (449, .iload_n 3, 1, [3], []), (450, .iconst 2, 1, [], [(2, 0)]), (451, .iadd, 1, [], []), (452, .iaload, 1, [], []), (453, .aload_n 0, 1, [0], []), (454, .iload_n 3, 1, [3], []), (455, .iconst 3, 1, [], [(3, 0)]), (456, .iadd, 1, [], []), (457, .iaload, 1, [], []), (458, .aload_n 0, 1, [0], []), (459, .iload_n 3, 1, [3], []), (460, .iconst 4, 1, [], [(4, 0)]), (461, .iadd, 1, [], [])]
noncomputable def cd271_2 : List (Nat × AI) := [(462, .iaload, 1, [], []), (463, .aload_n 0, 1, [0], []), (464, .iload_n 3, 1, [3], []), (465, .iconst 5, 1, [], [(5, 0)]), (466, .iadd, 1, [], []), (467, .iaload, 1, [], []), (468, .invokevirtual 32, 3, [112, 6, 1, 11, 6], []), (471, .aload_n 2, 1, [2], []), (472, .aload_n 0, 1, [0], []), (473, .iload_n 3, 1, [3], []), (474, .iconst 1, 1, [], [(1, 0)]), (475, .iadd, 1, [], []), (476, .iaload, 1, [], []), (477, .aload_n 0, 1, [0], []), (478, .iload_n 3, 1, [3], []), (479, .iconst 2, 1, [], [(2, 0)]), (480, .iadd, 1, [], []), (481, .iaload, 1, [], []), (482, .aload_n 0, 1, [0], []), (483, .iload_n 3, 1, [3], []), (484, .iconst 3, 1, [], [(3, 0)]), (485, .iadd, 1, [], []), (486, .iaload, 1, [], []), (487, .aload_n 0, 1, [0], []), (488, .iload_n 3, 1, [3], []), (489, .iconst 4, 1, [], [(4, 0)]), (490, .iadd, 1, [], []), (491, .iaload, 1, [], []), (492, .aload_n 0, 1, [0], []), (493, .iload_n 3, 1, [3], []), (494, .iconst 5, 1, [], [(5, 0)]), (495, .iadd, 1, [], []), (496, .iaload, 1, [], []), (497, .invokevirtual 35, 3, [189, 6, 1, 12, 6], []), (500, .if_icmp .eq 1607, 3, [2107], []), (503, .iconst 0, 1, [], [(0, 0)]), (504, .ireturn, 1, [1], []), (505, .aload_n 1, 1, [1], []), (506, .aload_n 0, 1, [0], []), (507, .iload_n 3, 1, [3], []), (508, .iconst 1, 1, [], [(1, 0)]), (509, .iadd, 1, [], []), (510, .iaload, 1, [], []), (511, .invokevirtual 36, 3, [113, 2, 1, 11, 2], []), (514, .aload_n 2, 1, [2], []), (515, .aload_n 0, 1, [0], []), (516, .iload_n 3, 1, [3], []), (517, .iconst 1, 1, [], [(1, 0)]), (518, .iadd, 1, [], []), (519, .iaload, 1, [], []), (520, .invokevirtual 40, 3, [190, 2, 1, 12, 4], []), (523, .if_icmp .eq 1584, 3, [2107], []), (526, .iconst 0, 1, [], [(0, 0)]), (527, .ireturn, 1, [1], []), (528, .aload_n 1, 1, [1], []), (529, .aload_n 0, 1, [0], []), (530, .iload_n 3, 1, [3], []), (531, .iconst 1, 1, [], [(1, 0)]), (532, .iadd, 1, [], []), (533, .iaload, 1, [], []), (534, .aload_n 0, 1, [0], []), (535, .iload_n 3, 1, [3], []), (536, .iconst 2, 1, [], [(2, 0)]), (537, .iadd, 1, [], []), (538, .iaload, 1, [], []), (539, .aload_n 0, 1, [0], []), (540, .iload_n 3, 1, [3], []), (541, .iconst 3, 1, [], [(3, 0)]), (542, .iadd, 1, [], []), (543, .iaload, 1, [], []), (544, .aload_n 0, 1, [0], []), (545, .iload_n 3, 1, [3], []), (546, .iconst 4, 1, [], [(4, 0)]), (547, .iadd, 1, [], []), (548, .iaload, 1, [], []), (549, .aload_n 0, 1, [0], []), (550, .iload_n 3, 1, [3], []), (551, .iconst 5, 1, [], [(5, 0)]), (552, .iadd, 1, [], []), (553, .iaload, 1, [], []), (554, .aload_n 0, 1, [0], []), (555, .iload_n 3, 1, [3], []), (556, .bipush 6, 2, [], [(6, 0)]), (558, .iadd, 1, [], []), (559, .iaload, 1, [], []), (560, .invokevirtual 41, 3, [114, 7, 1, 11, 7], []), (563, .aload_n 2, 1, [2], []), (564, .aload_n 0, 1, [0], []), (565, .iload_n 3, 1, [3], []), (566, .iconst 1, 1, [], [(1, 0)]), (567, .iadd, 1, [], []), (568, .iaload, 1, [], []), (569, .aload_n 0, 1, [0], []), (570, .iload_n 3, 1, [3], []), (571, .iconst 2, 1, [], [(2, 0)]), (572, .iadd, 1, [], []), (573, .iaload, 1, [], []), (574, .aload_n 0, 1, [0], []), (575, .iload_n 3, 1, [3], []), (576, .iconst 3, 1, [], [(3, 0)])]
noncomputable def cd271_3 : List (Nat × AI) := [(577, .iadd, 1, [], []), (578, .iaload, 1, [], []), (579, .aload_n 0, 1, [0], []), (580, .iload_n 3, 1, [3], []), (581, .iconst 4, 1, [], [(4, 0)]), (582, .iadd, 1, [], []), (583, .iaload, 1, [], []), (584, .aload_n 0, 1, [0], []), (585, .iload_n 3, 1, [3], []), (586, .iconst 5, 1, [], [(5, 0)]), (587, .iadd, 1, [], []), (588, .iaload, 1, [], []), (589, .aload_n 0, 1, [0], []), (590, .iload_n 3, 1, [3], []), (591, .bipush 6, 2, [], [(6, 0)]), (593, .iadd, 1, [], []), (594, .iaload, 1, [], []), (595, .invokevirtual 45, 3, [191, 7, 1, 12, 7], []), (598, .if_icmp .eq 1509, 3, [2107], []), (601, .iconst 0, 1, [], [(0, 0)]), (602, .ireturn, 1, [1], []), (603, .aload_n 1, 1, [1], []), (604, .aload_n 0, 1, [0], []), (605, .iload_n 3, 1, [3], []), (606, .iconst 1, 1, [], [(1, 0)]), (607, .iadd, 1, [], []), (608, .iaload, 1, [], []), (609, .aload_n 0, 1, [0], []), (610, .iload_n 3, 1, [3], []), (611, .iconst 2, 1, [], [(2, 0)]), (612, .iadd, 1, [], []), (613, .iaload, 1, [], []), (614, .invokevirtual 46, 3, [115, 3, 1, 11, 4], []), (617, .aload_n 2, 1, [2], []), (618, .aload_n 0, 1, [0], []), (619, .iload_n 3, 1, [3], []), (620, .iconst 1, 1, [], [(1, 0)]), (621, .iadd, 1, [], []), (622, .iaload, 1, [], []), (623, .aload_n 0, 1, [0], []), (624, .iload_n 3, 1, [3], []), (625, .iconst 2, 1, [], [(2, 0)]), (626, .iadd, 1, [], []), (627, .iaload, 1, [], []), (628, .invokevirtual 49, 3, [194, 3, 1, 12, 4], []), (631, .if_icmp .eq 1476, 3, [2107], []), (634, .iconst 0, 1, [], [(0, 0)]), (635, .ireturn, 1, [1], []), (636, .aload_n 1, 1, [1], []), (637, .aload_n 0, 1, [0], []), (638, .iload_n 3, 1, [3], []), (639, .iconst 1, 1, [], [(1, 0)]), (640, .iadd, 1, [], []), (641, .iaload, 1, [], []), (642, .aload_n 0, 1, [0], []), (643, .iload_n 3, 1, [3], []), (644, .iconst 2, 1, [], [(2, 0)]), (645, .iadd, 1, [], []), (646, .iaload, 1, [], []), (647, .aload_n 0, 1, [0], []), (648, .iload_n 3, 1, [3], []), (649, .iconst 3, 1, [], [(3, 0)]), (650, .iadd, 1, [], []), (651, .iaload, 1, [], []), (652, .aload_n 0, 1, [0], []), (653, .iload_n 3, 1, [3], []), (654, .iconst 4, 1, [], [(4, 0)]), (655, .iadd, 1, [], []), (656, .iaload, 1, [], []), (657, .aload_n 0, 1, [0], []), (658, .iload_n 3, 1, [3], []), (659, .iconst 5, 1, [], [(5, 0)]), (660, .iadd, 1, [], []), (661, .iaload, 1, [], []), (662, .invokevirtual 50, 3, [116, 6, 1, 11, 8], []), (665, .aload_n 2, 1, [2], []), (666, .aload_n 0, 1, [0], []), (667, .iload_n 3, 1, [3], []), (668, .iconst 1, 1, [], [(1, 0)]), (669, .iadd, 1, [], []), (670, .iaload, 1, [], []), (671, .aload_n 0, 1, [0], []), (672, .iload_n 3, 1, [3], []), (673, .iconst 2, 1, [], [(2, 0)]), (674, .iadd, 1, [], []), (675, .iaload, 1, [], []), (676, .aload_n 0, 1, [0], []), (677, .iload_n 3, 1, [3], []), (678, .iconst 3, 1, [], [(3, 0)]), (679, .iadd, 1, [], []), (680, .iaload, 1, [], []), (681, .aload_n 0, 1, [0], []), (682, .iload_n 3, 1, [3], []), (683, .iconst 4, 1, [], [(4, 0)]), (684, .iadd, 1, [], []), (685, .iaload, 1, [], []), (686, .aload_n 0, 1, [0], []), (687, .iload_n 3, 1, [3], []), (688, .iconst 5, 1, [], [(5, 0)]), (689, .iadd, 1, [], [])]
noncomputable def cd271_4 : List (Nat × AI) := [(690, .iaload, 1, [], []), (691, .invokevirtual 53, 3, [195, 6, 1, 12, 10], []), (694, .if_icmp .eq 1413, 3, [2107], []), (697, .iconst 0, 1, [], [(0, 0)]), (698, .ireturn, 1, [1], []), (699, .aload_n 1, 1, [1], []), (700, .aload_n 0, 1, [0], []), (701, .iload_n 3, 1, [3], []), (702, .iconst 1, 1, [], [(1, 0)]), (703, .iadd, 1, [], []), (704, .iaload, 1, [], []), (705, .invokevirtual 54, 3, [117, 2, 1, 11, 2], []), (708, .aload_n 2, 1, [2], []), (709, .aload_n 0, 1, [0], []), (710, .iload_n 3, 1, [3], []), (711, .iconst 1, 1, [], [(1, 0)]), (712, .iadd, 1, [], []), (713, .iaload, 1, [], []), (714, .invokevirtual 57, 3, [197, 2, 1, 12, 2], []), (717, .if_icmp .eq 1390, 3, [2107], []), (720, .iconst 0, 1, [], [(0, 0)]), (721, .ireturn, 1, [1], []), (722, .aload_n 1, 1, [1], []), (723, .aload_n 0, 1, [0], []), (724, .iload_n 3, 1, [3], []), (725, .iconst 1, 1, [], [(1, 0)]), (726, .iadd, 1, [], []), (727, .iaload, 1, [], []), (728, .aload_n 0, 1, [0], []), (729, .iload_n 3, 1, [3], []), (730, .iconst 2, 1, [], [(2, 0)]), (731, .iadd, 1, [], []), (732, .iaload, 1, [], []), (733, .aload_n 0, 1, [0], []), (734, .iload_n 3, 1, [3], []), (735, .iconst 3, 1, [], [(3, 0)]), (736, .iadd, 1, [], []), (737, .iaload, 1, [], []), (738, .invokevirtual 58, 3, [118, 4, 1, 11, 4], []), (741, .aload_n 2, 1, [2], []), (742, .aload_n 0, 1, [0], []), (743, .iload_n 3, 1, [3], []), (744, .iconst 1, 1, [], [(1, 0)]), (745, .iadd, 1, [], []), (746, .iaload, 1, [], []), (747, .aload_n 0, 1, [0], []), (748, .iload_n 3, 1, [3], []), (749, .iconst 2, 1, [], [(2, 0)]), (750, .iadd, 1, [], []), (751, .iaload, 1, [], []), (752, .aload_n 0, 1, [0], []), (753, .iload_n 3, 1, [3], []), (754, .iconst 3, 1, [], [(3, 0)]), (755, .iadd, 1, [], []), (756, .iaload, 1, [], []), (757, .invokevirtual 62, 3, [198, 4, 1, 12, 4], []), (760, .if_icmp .eq 1347, 3, [2107], []), (763, .iconst 0, 1, [], [(0, 0)]), (764, .ireturn, 1, [1], []), (765, .aload_n 1, 1, [1], []), (766, .invokevirtual 63, 3, [119, 1, 1, 11, 1], []), (769, .aload_n 2, 1, [2], []), (770, .invokevirtual 67, 3, [199, 1, 1, 12, 5], []), (773, .if_icmp .eq 1334, 3, [2107], []), (776, .iconst 0, 1, [], [(0, 0)]), (777, .ireturn, 1, [1], []), (778, .aload_n 1, 1, [1], []), (779, .aload_n 0, 1, [0], []), (780, .iload_n 3, 1, [3], []), (781, .iconst 1, 1, [], [(1, 0)]), (782, .iadd, 1, [], []), (783, .iaload, 1, [], []), (784, .aload_n 0, 1, [0], []), (785, .iload_n 3, 1, [3], []), (786, .iconst 2, 1, [], [(2, 0)]), (787, .iadd, 1, [], []), (788, .iaload, 1, [], []), (789, .invokevirtual 68, 3, [120, 3, 1, 11, 3], []), (792, .aload_n 2, 1, [2], []), (793, .aload_n 0, 1, [0], []), (794, .iload_n 3, 1, [3], []), (795, .iconst 1, 1, [], [(1, 0)]), (796, .iadd, 1, [], []), (797, .iaload, 1, [], []), (798, .aload_n 0, 1, [0], []), (799, .iload_n 3, 1, [3], []), (800, .iconst 2, 1, [], [(2, 0)]), (801, .iadd, 1, [], []), (802, .iaload, 1, [], []), (803, .invokevirtual 71, 3, [201, 3, 1, 12, 5], []), (806, .if_icmp .eq 1301, 3, [2107], []), (809, .iconst 0, 1, [], [(0, 0)]), (810, .ireturn, 1, [1], []), (811, .aload_n 1, 1, [1], []), (812, .aload_n 0, 1, [0], []), (813, .iload_n 3, 1, [3], []), (814, .iconst 1, 1, [], [(1, 0)]), (815, .iadd, 1, [], []), (816, .iaload, 1, [], []), (817, .aload_n 0, 1, [0], [])]
noncomputable def cd271_5 : List (Nat × AI) := [(818, .iload_n 3, 1, [3], []), (819, .iconst 2, 1, [], [(2, 0)]), (820, .iadd, 1, [], []), (821, .iaload, 1, [], []), (822, .aload_n 0, 1, [0], []), (823, .iload_n 3, 1, [3], []), (824, .iconst 3, 1, [], [(3, 0)]), (825, .iadd, 1, [], []), (826, .iaload, 1, [], []), (827, .aload_n 0, 1, [0], []), (828, .iload_n 3, 1, [3], []), (829, .iconst 4, 1, [], [(4, 0)]), (830, .iadd, 1, [], []), (831, .iaload, 1, [], []), (832, .invokevirtual 72, 3, [121, 5, 1, 11, 6], []), (835, .aload_n 2, 1, [2], []), (836, .aload_n 0, 1, [0], []), (837, .iload_n 3, 1, [3], []), (838, .iconst 1, 1, [], [(1, 0)]), (839, .iadd, 1, [], []), (840, .iaload, 1, [], []), (841, .aload_n 0, 1, [0], []), (842, .iload_n 3, 1, [3], []), (843, .iconst 2, 1, [], [(2, 0)]), (844, .iadd, 1, [], []), (845, .iaload, 1, [], []), (846, .aload_n 0, 1, [0], []), (847, .iload_n 3, 1, [3], []), (848, .iconst 3, 1, [], [(3, 0)]), (849, .iadd, 1, [], []), (850, .iaload, 1, [], []), (851, .aload_n 0, 1, [0], []), (852, .iload_n 3, 1, [3], []), (853, .iconst 4, 1, [], [(4, 0)]), (854, .iadd, 1, [], []), (855, .iaload, 1, [], []), (856, .invokevirtual 75, 3, [203, 5, 1, 12, 8], []), (859, .if_icmp .eq 1248, 3, [2107], []), (862, .iconst 0, 1, [], [(0, 0)]), (863, .ireturn, 1, [1], []), (864, .aload_n 1, 1, [1], []), (865, .aload_n 0, 1, [0], []), (866, .iload_n 3, 1, [3], []), (867, .iconst 1, 1, [], [(1, 0)]), (868, .iadd, 1, [], []), (869, .iaload, 1, [], []), (870, .aload_n 0, 1, [0], []), (871, .iload_n 3, 1, [3], []), (872, .iconst 2, 1, [], [(2, 0)]), (873, .iadd, 1, [], []), (874, .iaload, 1, [], []), (875, .aload_n 0, 1, [0], []), (876, .iload_n 3, 1, [3], []), (877, .iconst 3, 1, [], [(3, 0)]), (878, .iadd, 1, [], []), (879, .iaload, 1, [], []), (880, .aload_n 0, 1, [0], []), (881, .iload_n 3, 1, [3], []), (882, .iconst 4, 1, [], [(4, 0)]), (883, .iadd, 1, [], []), (884, .iaload, 1, [], []), (885, .aload_n 0, 1, [0], []), (886, .iload_n 3, 1, [3], []), (887, .iconst 5, 1, [], [(5, 0)]), (888, .iadd, 1, [], []), (889, .iaload, 1, [], []), (890, .aload_n 0, 1, [0], []), (891, .iload_n 3, 1, [3], []), (892, .bipush 6, 2, [], [(6, 0)]), (894, .iadd, 1, [], []), (895, .iaload, 1, [], []), (896, .invokevirtual 76, 3, [122, 7, 1, 11, 9], []), (899, .aload_n 2, 1, [2], []), (900, .aload_n 0, 1, [0], []), (901, .iload_n 3, 1, [3], []), (902, .iconst 1, 1, [], [(1, 0)]), (903, .iadd, 1, [], []), (904, .iaload, 1, [], []), (905, .aload_n 0, 1, [0], []), (906, .iload_n 3, 1, [3], []), (907, .iconst 2, 1, [], [(2, 0)]), (908, .iadd, 1, [], []), (909, .iaload, 1, [], []), (910, .aload_n 0, 1, [0], []), (911, .iload_n 3, 1, [3], []), (912, .iconst 3, 1, [], [(3, 0)]), (913, .iadd, 1, [], []), (914, .iaload, 1, [], []), (915, .aload_n 0, 1, [0], []), (916, .iload_n 3, 1, [3], []), (917, .iconst 4, 1, [], [(4, 0)]), (918, .iadd, 1, [], []), (919, .iaload, 1, [], []), (920, .aload_n 0, 1, [0], []), (921, .iload_n 3, 1, [3], []), (922, .iconst 5, 1, [], [(5, 0)]), (923, .iadd, 1, [], []), (924, .iaload, 1, [], []), (925, .aload_n 0, 1, [0], []), (926, .iload_n 3, 1, [3], [])]
noncomputable def cd271_6 : List (Nat × AI) := [(927, .bipush 6, 2, [], [(6, 0)]), (929, .iadd, 1, [], []), (930, .iaload, 1, [], []), (931, .invokevirtual 79, 3, [204, 7, 1, 12, 10], []), (934, .if_icmp .eq 1173, 3, [2107], []), (937, .iconst 0, 1, [], [(0, 0)]), (938, .ireturn, 1, [1], []), (939, .aload_n 1, 1, [1], []), (940, .aload_n 0, 1, [0], []), (941, .iload_n 3, 1, [3], []), (942, .iconst 1, 1, [], [(1, 0)]), (943, .iadd, 1, [], []), (944, .iaload, 1, [], []), (945, .aload_n 0, 1, [0], []), (946, .iload_n 3, 1, [3], []), (947, .iconst 2, 1, [], [(2, 0)]), (948, .iadd, 1, [], []), (949, .iaload, 1, [], []), (950, .invokevirtual 80, 3, [123, 3, 1, 11, 3], []), (953, .aload_n 2, 1, [2], []), (954, .aload_n 0, 1, [0], []), (955, .iload_n 3, 1, [3], []), (956, .iconst 1, 1, [], [(1, 0)]), (957, .iadd, 1, [], []), (958, .iaload, 1, [], []), (959, .aload_n 0, 1, [0], []), (960, .iload_n 3, 1, [3], []), (961, .iconst 2, 1, [], [(2, 0)]), (962, .iadd, 1, [], []), (963, .iaload, 1, [], []), (964, .invokevirtual 83, 3, [206, 3, 1, 12, 4], []), (967, .if_icmp .eq 1140, 3, [2107], []), (970, .iconst 0, 1, [], [(0, 0)]), (971, .ireturn, 1, [1], []), (972, .aload_n 1, 1, [1], []), (973, .aload_n 0, 1, [0], []), (974, .iload_n 3, 1, [3], []), (975, .iconst 1, 1, [], [(1, 0)]), (976, .iadd, 1, [], []), (977, .iaload, 1, [], []), (978, .invokevirtual 84, 3, [124, 2, 1, 11, 2], []), (981, .aload_n 2, 1, [2], []), (982, .aload_n 0, 1, [0], []), (983, .iload_n 3, 1, [3], []), (984, .iconst 1, 1, [], [(1, 0)]), (985, .iadd, 1, [], []), (986, .iaload, 1, [], []), (987, .invokevirtual 87, 3, [210, 2, 1, 12, 2], []), (990, .if_icmp .eq 1117, 3, [2107], []), (993, .iconst 0, 1, [], [(0, 0)]), (994, .ireturn, 1, [1], []), (995, .aload_n 1, 1, [1], []), (996, .invokevirtual 88, 3, [125, 1, 1, 11, 1], []), (999, .aload_n 2, 1, [2], []), (1000, .invokevirtual 91, 3, [213, 1, 1, 12, 3], []), (1003, .if_icmp .eq 1104, 3, [2107], []), (1006, .iconst 0, 1, [], [(0, 0)]), (1007, .ireturn, 1, [1], []), (1008, .aload_n 1, 1, [1], []), (1009, .aload_n 0, 1, [0], []), (1010, .iload_n 3, 1, [3], []), (1011, .iconst 1, 1, [], [(1, 0)]), (1012, .iadd, 1, [], []), (1013, .iaload, 1, [], []), (1014, .aload_n 0, 1, [0], []), (1015, .iload_n 3, 1, [3], []), (1016, .iconst 2, 1, [], [(2, 0)]), (1017, .iadd, 1, [], []), (1018, .iaload, 1, [], []), (1019, .invokevirtual 92, 3, [126, 3, 1, 11, 3], []), (1022, .aload_n 2, 1, [2], []), (1023, .aload_n 0, 1, [0], []), (1024, .iload_n 3, 1, [3], []), (1025, .iconst 1, 1, [], [(1, 0)]), (1026, .iadd, 1, [], []), (1027, .iaload, 1, [], []), (1028, .aload_n 0, 1, [0], []), (1029, .iload_n 3, 1, [3], []), (1030, .iconst 2, 1, [], [(2, 0)]), (1031, .iadd, 1, [], []), (1032, .iaload, 1, [], []), (1033, .invokevirtual 95, 3, [214, 3, 1, 12, 7], []), (1036, .if_icmp .eq 1071, 3, [2107], []), (1039, .iconst 0, 1, [], [(0, 0)]), (1040, .ireturn, 1, [1], []), (1041, .aload_n 1, 1, [1], []), (1042, .aload_n 0, 1, [0], []), (1043, .iload_n 3, 1, [3], []), (1044, .iconst 1, 1, [], [(1, 0)]), (1045, .iadd, 1, [], []), (1046, .iaload, 1, [], []), (1047, .aload_n 0, 1, [0], []), (1048, .iload_n 3, 1, [3], []), (1049, .iconst 2, 1, [], [(2, 0)]), (1050, .iadd, 1, [], []), (1051, .iaload, 1, [], []), (1052, .invokevirtual 96, 3, [127, 3, 1, 11, 3], []), (1055, .aload_n 2, 1, [2], []), (1056, .aload_n 0, 1, [0], []), (1057, .iload_n 3, 1, [3], [])]
noncomputable def cd271_7 : List (Nat × AI) := [(1058, .iconst 1, 1, [], [(1, 0)]), (1059, .iadd, 1, [], []), (1060, .iaload, 1, [], []), (1061, .aload_n 0, 1, [0], []), (1062, .iload_n 3, 1, [3], []), (1063, .iconst 2, 1, [], [(2, 0)]), (1064, .iadd, 1, [], []), (1065, .iaload, 1, [], []), (1066, .invokevirtual 99, 3, [217, 3, 1, 12, 3], []), (1069, .if_icmp .eq 1038, 3, [2107], []), (1072, .iconst 0, 1, [], [(0, 0)]), (1073, .ireturn, 1, [1], []), (1074, .aload_n 1, 1, [1], []), (1075, .invokevirtual 100, 3, [128, 1, 1, 11, 1], []), (1078, .aload_n 2, 1, [2], []), (1079, .invokevirtual 103, 3, [218, 1, 1, 12, 1], []), (1082, .if_icmp .eq 1025, 3, [2107], []), (1085, .iconst 0, 1, [], [(0, 0)]), (1086, .ireturn, 1, [1], []), (1087, .aload_n 1, 1, [1], []), (1088, .aload_n 0, 1, [0], []), (1089, .iload_n 3, 1, [3], []), (1090, .iconst 1, 1, [], [(1, 0)]), (1091, .iadd, 1, [], []), (1092, .iaload, 1, [], []), (1093, .aload_n 0, 1, [0], []), (1094, .iload_n 3, 1, [3], []), (1095, .iconst 2, 1, [], [(2, 0)]), (1096, .iadd, 1, [], []), (1097, .iaload, 1, [], []), (1098, .aload_n 0, 1, [0], []), (1099, .iload_n 3, 1, [3], []), (1100, .iconst 3, 1, [], [(3, 0)]), (1101, .iadd, 1, [], []), (1102, .iaload, 1, [], []), (1103, .invokevirtual 104, 3, [129, 4, 1, 11, 4], []), (1106, .aload_n 2, 1, [2], []), (1107, .aload_n 0, 1, [0], []), (1108, .iload_n 3, 1, [3], []), (1109, .iconst 1, 1, [], [(1, 0)]), (1110, .iadd, 1, [], []), (1111, .iaload, 1, [], []), (1112, .aload_n 0, 1, [0], []), (1113, .iload_n 3, 1, [3], []), (1114, .iconst 2, 1, [], [(2, 0)]), (1115, .iadd, 1, [], []), (1116, .iaload, 1, [], []), (1117, .aload_n 0, 1, [0], []), (1118, .iload_n 3, 1, [3], []), (1119, .iconst 3, 1, [], [(3, 0)]), (1120, .iadd, 1, [], []), (1121, .iaload, 1, [], []), (1122, .invokevirtual 107, 3, [220, 4, 1, 12, 4], []), (1125, .if_icmp .eq 982, 3, [2107], []), (1128, .iconst 0, 1, [], [(0, 0)]), (1129, .ireturn, 1, [1], []), (1130, .aload_n 1, 1, [1], []), (1131, .aload_n 0, 1, [0], []), (1132, .iload_n 3, 1, [3], []), (1133, .iconst 1, 1, [], [(1, 0)]), (1134, .iadd, 1, [], []), (1135, .iaload, 1, [], []), (1136, .aload_n 0, 1, [0], []), (1137, .iload_n 3, 1, [3], []), (1138, .iconst 2, 1, [], [(2, 0)]), (1139, .iadd, 1, [], []), (1140, .iaload, 1, [], []), (1141, .ifCond .eq 7, 3, [1148], []), (1144, .iconst 1, 1, [], [(1, 0)]), (1145, .goto 4, 3, [1149], []), (1148, .iconst 0, 1, [], [(0, 0)]), (1149, .aload_n 0, 1, [0], []), (1150, .iload_n 3, 1, [3], []), (1151, .iconst 3, 1, [], [(3, 0)]), (1152, .iadd, 1, [], []), (1153, .iaload, 1, [], []), (1154, .invokevirtual 108, 3, [130, 4, 1, 11, 5], []), (1157, .aload_n 2, 1, [2], []), (1158, .aload_n 0, 1, [0], []), (1159, .iload_n 3, 1, [3], []), (1160, .iconst 1, 1, [], [(1, 0)]), (1161, .iadd, 1, [], []), (1162, .iaload, 1, [], []), (1163, .aload_n 0, 1, [0], []), (1164, .iload_n 3, 1, [3], []), (1165, .iconst 2, 1, [], [(2, 0)]), (1166, .iadd, 1, [], []), (1167, .iaload, 1, [], []), (1168, .ifCond .eq 7, 3, [1175], []), (1171, .iconst 1, 1, [], [(1, 0)]), (1172, .goto 4, 3, [1176], []), (1175, .iconst 0, 1, [], [(0, 0)]), (1176, .aload_n 0, 1, [0], []), (1177, .iload_n 3, 1, [3], []), (1178, .iconst 3, 1, [], [(3, 0)]), (1179, .iadd, 1, [], []), (1180, .iaload, 1, [], []), (1181, .invokevirtual 112, 3, [221, 4, 1, 12, 4], []), (1184, .if_icmp .eq 923, 3, [2107], []), (1187, .iconst 0, 1, [], [(0, 0)])]
noncomputable def cd271_8 : List (Nat × AI) := [(1188, .ireturn, 1, [1], []), (1189, .aload_n 1, 1, [1], []), (1190, .aload_n 0, 1, [0], []), (1191, .iload_n 3, 1, [3], []), (1192, .iconst 1, 1, [], [(1, 0)]), (1193, .iadd, 1, [], []), (1194, .iaload, 1, [], []), (1195, .aload_n 0, 1, [0], []), (1196, .iload_n 3, 1, [3], []), (1197, .iconst 2, 1, [], [(2, 0)]), (1198, .iadd, 1, [], []), (1199, .iaload, 1, [], []), (1200, .invokevirtual 113, 3, [131, 3, 1, 11, 3], []), (1203, .aload_n 2, 1, [2], []), (1204, .aload_n 0, 1, [0], []), (1205, .iload_n 3, 1, [3], []), (1206, .iconst 1, 1, [], [(1, 0)]), (1207, .iadd, 1, [], []), (1208, .iaload, 1, [], []), (1209, .aload_n 0, 1, [0], []), (1210, .iload_n 3, 1, [3], []), (1211, .iconst 2, 1, [], [(2, 0)]), (1212, .iadd, 1, [], []), (1213, .iaload, 1, [], []), (1214, .invokevirtual 116, 3, [226, 3, 1, 12, 3], []), (1217, .if_icmp .eq 890, 3, [2107], []), (1220, .iconst 0, 1, [], [(0, 0)]), (1221, .ireturn, 1, [1], []), (1222, .aload_n 1, 1, [1], []), (1223, .aload_n 0, 1, [0], []), (1224, .iload_n 3, 1, [3], []), (1225, .iconst 1, 1, [], [(1, 0)]), (1226, .iadd, 1, [], []), (1227, .iaload, 1, [], []), (1228, .invokevirtual 117, 3, [132, 2, 1, 11, 2], []), (1231, .aload_n 2, 1, [2], []), (1232, .aload_n 0, 1, [0], []), (1233, .iload_n 3, 1, [3], []), (1234, .iconst 1, 1, [], [(1, 0)]), (1235, .iadd, 1, [], []), (1236, .iaload, 1, [], []), (1237, .invokevirtual 120, 3, [228, 2, 1, 12, 3], []), (1240, .if_icmp .eq 867, 3, [2107], []), (1243, .iconst 0, 1, [], [(0, 0)]), (1244, .ireturn, 1, [1], []), (1245, .aload_n 1, 1, [1], []), (1246, .aload_n 0, 1, [0], []), (1247, .iload_n 3, 1, [3], []), (1248, .iconst 1, 1, [], [(1, 0)]), (1249, .iadd, 1, [], []), (1250, .iaload, 1, [], []), (1251, .ifCond .eq 7, 3, [1258], []), (1254, .iconst 1, 1, [], [(1, 0)]), (1255, .goto 4, 3, [1259], []), (1258, .iconst 0, 1, [], [(0, 0)]), (1259, .invokevirtual 121, 3, [133, 2, 1, 11, 2], []), (1262, .aload_n 2, 1, [2], []), (1263, .aload_n 0, 1, [0], []), (1264, .iload_n 3, 1, [3], []), (1265, .iconst 1, 1, [], [(1, 0)]), (1266, .iadd, 1, [], []), (1267, .iaload, 1, [], []), (1268, .ifCond .eq 7, 3, [1275], []), (1271, .iconst 1, 1, [], [(1, 0)]), (1272, .goto 4, 3, [1276], []), (1275, .iconst 0, 1, [], [(0, 0)]), (1276, .invokevirtual 125, 3, [229, 2, 1, 12, 2], []), (1279, .if_icmp .eq 828, 3, [2107], []), (1282, .iconst 0, 1, [], [(0, 0)]), (1283, .ireturn, 1, [1], []), (1284, .aload_n 1, 1, [1], []), (1285, .aload_n 0, 1, [0], []), (1286, .iload_n 3, 1, [3], []), (1287, .iconst 1, 1, [], [(1, 0)]), (1288, .iadd, 1, [], []), (1289, .iaload, 1, [], []), (1290, .invokevirtual 126, 3, [134, 2, 1, 11, 2], []), (1293, .aload_n 2, 1, [2], []), (1294, .aload_n 0, 1, [0], []), (1295, .iload_n 3, 1, [3], []), (1296, .iconst 1, 1, [], [(1, 0)]), (1297, .iadd, 1, [], []), (1298, .iaload, 1, [], []), (1299, .invokevirtual 129, 3, [230, 2, 1, 12, 2], []), (1302, .if_icmp .eq 805, 3, [2107], []), (1305, .iconst 0, 1, [], [(0, 0)]), (1306, .ireturn, 1, [1], []), (1307, .aload_n 1, 1, [1], []), (1308, .aload_n 0, 1, [0], []), (1309, .iload_n 3, 1, [3], []), (1310, .iconst 1, 1, [], [(1, 0)]), (1311, .iadd, 1, [], []), (1312, .iaload, 1, [], []), (1313, .aload_n 0, 1, [0], []), (1314, .iload_n 3, 1, [3], []), (1315, .iconst 2, 1, [], [(2, 0)]), (1316, .iadd, 1, [], []), (1317, .iaload, 1, [], []), (1318, .ifCond .eq 7, 3, [1325], []), (1321, .iconst 1, 1, [], [(1, 0)])]
noncomputable def cd271_9 : List (Nat × AI) := [(1322, .goto 4, 3, [1326], []), (1325, .iconst 0, 1, [], [(0, 0)]), (1326, .invokevirtual 130, 3, [135, 3, 1, 11, 3], []), (1329, .aload_n 2, 1, [2], []), (1330, .aload_n 0, 1, [0], []), (1331, .iload_n 3, 1, [3], []), (1332, .iconst 1, 1, [], [(1, 0)]), (1333, .iadd, 1, [], []), (1334, .iaload, 1, [], []), (1335, .aload_n 0, 1, [0], []), (1336, .iload_n 3, 1, [3], []), (1337, .iconst 2, 1, [], [(2, 0)]), (1338, .iadd, 1, [], []), (1339, .iaload, 1, [], []), (1340, .ifCond .eq 7, 3, [1347], []), (1343, .iconst 1, 1, [], [(1, 0)]), (1344, .goto 4, 3, [1348], []), (1347, .iconst 0, 1, [], [(0, 0)]), (1348, .invokevirtual 134, 3, [232, 3, 1, 12, 4], []), (1351, .if_icmp .eq 756, 3, [2107], []), (1354, .iconst 0, 1, [], [(0, 0)]), (1355, .ireturn, 1, [1], []), (1356, .aload_n 1, 1, [1], []), (1357, .invokevirtual 135, 3, [136, 1, 1, 11, 1], []), (1360, .aload_n 2, 1, [2], []), (1361, .invokevirtual 138, 3, [234, 1, 1, 12, 1], []), (1364, .if_icmp .eq 743, 3, [2107], []), (1367, .iconst 0, 1, [], [(0, 0)]), (1368, .ireturn, 1, [1], []), (1369, .aload_n 1, 1, [1], []), (1370, .aload_n 0, 1, [0], []), (1371, .iload_n 3, 1, [3], []), (1372, .iconst 1, 1, [], [(1, 0)]), (1373, .iadd, 1, [], []), (1374, .iaload, 1, [], []), (1375, .invokevirtual 139, 3, [137, 2, 1, 11, 2], []), (1378, .aload_n 2, 1, [2], []), (1379, .aload_n 0, 1, [0], []), (1380, .iload_n 3, 1, [3], []), (1381, .iconst 1, 1, [], [(1, 0)]), (1382, .iadd, 1, [], []), (1383, .iaload, 1, [], []), (1384, .invokevirtual 142, 3, [237, 2, 1, 12, 2], []), (1387, .if_icmp .eq 720, 3, [2107], []), (1390, .iconst 0, 1, [], [(0, 0)]), (1391, .ireturn, 1, [1], []), (1392, .aload_n 1, 1, [1], []), (1393, .invokevirtual 143, 3, [138, 1, 1, 11, 1], []), (1396, .aload_n 2, 1, [2], []), (1397, .invokevirtual 146, 3, [238, 1, 1, 12, 3], []), (1400, .if_icmp .eq 707, 3, [2107], []), (1403, .iconst 0, 1, [], [(0, 0)]), (1404, .ireturn, 1, [1], []), (1405, .aload_n 1, 1, [1], []), (1406, .aload_n 0, 1, [0], []), (1407, .iload_n 3, 1, [3], []), (1408, .iconst 1, 1, [], [(1, 0)]), (1409, .iadd, 1, [], []), (1410, .iaload, 1, [], []), (1411, .aload_n 0, 1, [0], []), (1412, .iload_n 3, 1, [3], []), (1413, .iconst 2, 1, [], [(2, 0)]), (1414, .iadd, 1, [], []), (1415, .iaload, 1, [], []), (1416, .invokevirtual 147, 3, [139, 3, 1, 11, 3], []), (1419, .aload_n 2, 1, [2], []), (1420, .aload_n 0, 1, [0], []), (1421, .iload_n 3, 1, [3], []), (1422, .iconst 1, 1, [], [(1, 0)]), (1423, .iadd, 1, [], []), (1424, .iaload, 1, [], []), (1425, .aload_n 0, 1, [0], []), (1426, .iload_n 3, 1, [3], []), (1427, .iconst 2, 1, [], [(2, 0)]), (1428, .iadd, 1, [], []), (1429, .iaload, 1, [], []), (1430, .invokevirtual 150, 3, [241, 3, 1, 12, 3], []), (1433, .if_icmp .eq 674, 3, [2107], []), (1436, .iconst 0, 1, [], [(0, 0)]), (1437, .ireturn, 1, [1], []), (1438, .aload_n 1, 1, [1], []), (1439, .aload_n 0, 1, [0], []), (1440, .iload_n 3, 1, [3], []), (1441, .iconst 1, 1, [], [(1, 0)]), (1442, .iadd, 1, [], []), (1443, .iaload, 1, [], []), (1444, .aload_n 0, 1, [0], []), (1445, .iload_n 3, 1, [3], []), (1446, .iconst 2, 1, [], [(2, 0)]), (1447, .iadd, 1, [], []), (1448, .iaload, 1, [], []), (1449, .aload_n 0, 1, [0], []), (1450, .iload_n 3, 1, [3], []), (1451, .iconst 3, 1, [], [(3, 0)]), (1452, .iadd, 1, [], []), (1453, .iaload, 1, [], []), (1454, .invokevirtual 151, 3, [140, 4, 1, 11, 4], []), (1457, .aload_n 2, 1, [2], []), (1458, .aload_n 0, 1, [0], []), (1459, .iload_n 3, 1, [3], [])]
noncomputable def cd271_10 : List (Nat × AI) := [(1460, .iconst 1, 1, [], [(1, 0)]), (1461, .iadd, 1, [], []), (1462, .iaload, 1, [], []), (1463, .aload_n 0, 1, [0], []), (1464, .iload_n 3, 1, [3], []), (1465, .iconst 2, 1, [], [(2, 0)]), (1466, .iadd, 1, [], []), (1467, .iaload, 1, [], []), (1468, .aload_n 0, 1, [0], []), (1469, .iload_n 3, 1, [3], []), (1470, .iconst 3, 1, [], [(3, 0)]), (1471, .iadd, 1, [], []), (1472, .iaload, 1, [], []), (1473, .invokevirtual 154, 3, [242, 4, 1, 12, 4], []), (1476, .if_icmp .eq 631, 3, [2107], []), (1479, .iconst 0, 1, [], [(0, 0)]), (1480, .ireturn, 1, [1], []), (1481, .aload_n 1, 1, [1], []), (1482, .aload_n 0, 1, [0], []), (1483, .iload_n 3, 1, [3], []), (1484, .iconst 1, 1, [], [(1, 0)]), (1485, .iadd, 1, [], []), (1486, .iaload, 1, [], []), (1487, .aload_n 0, 1, [0], []), (1488, .iload_n 3, 1, [3], []), (1489, .iconst 2, 1, [], [(2, 0)]), (1490, .iadd, 1, [], []), (1491, .iaload, 1, [], []), (1492, .invokevirtual 155, 3, [141, 3, 1, 11, 3], []), (1495, .aload_n 2, 1, [2], []), (1496, .aload_n 0, 1, [0], []), (1497, .iload_n 3, 1, [3], []), (1498, .iconst 1, 1, [], [(1, 0)]), (1499, .iadd, 1, [], []), (1500, .iaload, 1, [], []), (1501, .aload_n 0, 1, [0], []), (1502, .iload_n 3, 1, [3], []), (1503, .iconst 2, 1, [], [(2, 0)]), (1504, .iadd, 1, [], []), (1505, .iaload, 1, [], []), (1506, .invokevirtual 158, 3, [243, 3, 1, 12, 4], []), (1509, .if_icmp .eq 598, 3, [2107], []), (1512, .iconst 0, 1, [], [(0, 0)]), (1513, .ireturn, 1, [1], []), (1514, .aload_n 1, 1, [1], []), (1515, .aload_n 0, 1, [0], []), (1516, .iload_n 3, 1, [3], []), (1517, .iconst 1, 1, [], [(1, 0)]), (1518, .iadd, 1, [], []), (1519, .iaload, 1, [], []), (1520, .invokevirtual 159, 3, [142, 2, 1, 11, 2], []), (1523, .aload_n 2, 1, [2], []), (1524, .aload_n 0, 1, [0], []), (1525, .iload_n 3, 1, [3], []), (1526, .iconst 1, 1, [], [(1, 0)]), (1527, .iadd, 1, [], []), (1528, .iaload, 1, [], []), (1529, .invokevirtual 162, 3, [244, 2, 1, 12, 5], []), (1532, .if_icmp .eq 575, 3, [2107], []), (1535, .iconst 0, 1, [], [(0, 0)]), (1536, .ireturn, 1, [1], []), (1537, .aload_n 1, 1, [1], []), (1538, .aload_n 0, 1, [0], []), (1539, .iload_n 3, 1, [3], []), (1540, .iconst 1, 1, [], [(1, 0)]), (1541, .iadd, 1, [], []), (1542, .iaload, 1, [], []), (1543, .aload_n 0, 1, [0], []), (1544, .iload_n 3, 1, [3], []), (1545, .iconst 2, 1, [], [(2, 0)]), (1546, .iadd, 1, [], []), (1547, .iaload, 1, [], []), (1548, .invokevirtual 163, 3, [143, 3, 1, 11, 3], []), (1551, .aload_n 2, 1, [2], []), (1552, .aload_n 0, 1, [0], []), (1553, .iload_n 3, 1, [3], []), (1554, .iconst 1, 1, [], [(1, 0)]), (1555, .iadd, 1, [], []), (1556, .iaload, 1, [], []), (1557, .aload_n 0, 1, [0], []), (1558, .iload_n 3, 1, [3], []), (1559, .iconst 2, 1, [], [(2, 0)]), (1560, .iadd, 1, [], []), (1561, .iaload, 1, [], []), (1562, .invokevirtual 166, 3, [245, 3, 1, 12, 3], []), (1565, .if_icmp .eq 542, 3, [2107], []), (1568, .iconst 0, 1, [], [(0, 0)]), (1569, .ireturn, 1, [1], []), (1570, .aload_n 1, 1, [1], []), (1571, .invokevirtual 167, 3, [144, 1, 1, 11, 1], []), (1574, .aload_n 2, 1, [2], []), (1575, .invokevirtual 170, 3, [246, 1, 1, 12, 2], []), (1578, .if_icmp .eq 529, 3, [2107], []), (1581, .iconst 0, 1, [], [(0, 0)]), (1582, .ireturn, 1, [1], []), (1583, .aload_n 1, 1, [1], []), (1584, .aload_n 0, 1, [0], []), (1585, .iload_n 3, 1, [3], []), (1586, .iconst 1, 1, [], [(1, 0)]), (1587, .iadd, 1, [], [])]
noncomputable def cd271_11 : List (Nat × AI) := [(1588, .iaload, 1, [], []), (1589, .aload_n 0, 1, [0], []), (1590, .iload_n 3, 1, [3], []), (1591, .iconst 2, 1, [], [(2, 0)]), (1592, .iadd, 1, [], []), (1593, .iaload, 1, [], []), (1594, .invokevirtual 171, 3, [145, 3, 2, 11, 3], []), (1597, .aload_n 2, 1, [2], []), (1598, .aload_n 0, 1, [0], []), (1599, .iload_n 3, 1, [3], []), (1600, .iconst 1, 1, [], [(1, 0)]), (1601, .iadd, 1, [], []), (1602, .iaload, 1, [], []), (1603, .aload_n 0, 1, [0], []), (1604, .iload_n 3, 1, [3], []), (1605, .iconst 2, 1, [], [(2, 0)]), (1606, .iadd, 1, [], []), (1607, .iaload, 1, [], []), (1608, .invokevirtual 175, 3, [247, 3, 2, 12, 17], []), (1611, .lcmp, 1, [], []), (1612, .ifCond .eq 495, 3, [2107], []), (1615, .iconst 0, 1, [], [(0, 0)]), (1616, .ireturn, 1, [1], []), (1617, .aload_n 1, 1, [1], []), (1618, .aload_n 0, 1, [0], []), (1619, .iload_n 3, 1, [3], []), (1620, .iconst 1, 1, [], [(1, 0)]), (1621, .iadd, 1, [], []), (1622, .iaload, 1, [], []), (1623, .invokevirtual 176, 3, [146, 2, 1, 11, 3], []), (1626, .aload_n 2, 1, [2], []), (1627, .aload_n 0, 1, [0], []), (1628, .iload_n 3, 1, [3], []), (1629, .iconst 1, 1, [], [(1, 0)]), (1630, .iadd, 1, [], []), (1631, .iaload, 1, [], []), (1632, .invokevirtual 179, 3, [248, 2, 1, 12, 3], []), (1635, .if_icmp .eq 472, 3, [2107], []), (1638, .iconst 0, 1, [], [(0, 0)]), (1639, .ireturn, 1, [1], []), (1640, .aload_n 1, 1, [1], []), (1641, .aload_n 0, 1, [0], []), (1642, .iload_n 3, 1, [3], []), (1643, .iconst 1, 1, [], [(1, 0)]), (1644, .iadd, 1, [], []), (1645, .iaload, 1, [], []), (1646, .aload_n 0, 1, [0], []), (1647, .iload_n 3, 1, [3], []), (1648, .iconst 2, 1, [], [(2, 0)]), (1649, .iadd, 1, [], []), (1650, .iaload, 1, [], []), (1651, .aload_n 0, 1, [0], []), (1652, .iload_n 3, 1, [3], []), (1653, .iconst 3, 1, [], [(3, 0)]), (1654, .iadd, 1, [], []), (1655, .iaload, 1, [], []), (1656, .aload_n 0, 1, [0], []), (1657, .iload_n 3, 1, [3], []), (1658, .iconst 4, 1, [], [(4, 0)]), (1659, .iadd, 1, [], []), (1660, .iaload, 1, [], []), (1661, .aload_n 0, 1, [0], []), (1662, .iload_n 3, 1, [3], []), (1663, .iconst 5, 1, [], [(5, 0)]), (1664, .iadd, 1, [], []), (1665, .iaload, 1, [], []), (1666, .aload_n 0, 1, [0], []), (1667, .iload_n 3, 1, [3], []), (1668, .bipush 6, 2, [], [(6, 0)]), (1670, .iadd, 1, [], []), (1671, .iaload, 1, [], []), (1672, .aload_n 0, 1, [0], []), (1673, .iload_n 3, 1, [3], []), (1674, .bipush 7, 2, [], [(7, 0)]), (1676, .iadd, 1, [], []), (1677, .iaload, 1, [], []), (1678, .invokevirtual 180, 3, [147, 8, 1, 11, 12], []), (1681, .aload_n 2, 1, [2], []), (1682, .aload_n 0, 1, [0], []), (1683, .iload_n 3, 1, [3], []), (1684, .iconst 1, 1, [], [(1, 0)]), (1685, .iadd, 1, [], []), (1686, .iaload, 1, [], []), (1687, .aload_n 0, 1, [0], []), (1688, .iload_n 3, 1, [3], []), (1689, .iconst 2, 1, [], [(2, 0)]), (1690, .iadd, 1, [], []), (1691, .iaload, 1, [], []), (1692, .aload_n 0, 1, [0], []), (1693, .iload_n 3, 1, [3], []), (1694, .iconst 3, 1, [], [(3, 0)]), (1695, .iadd, 1, [], []), (1696, .iaload, 1, [], []), (1697, .aload_n 0, 1, [0], []), (1698, .iload_n 3, 1, [3], []), (1699, .iconst 4, 1, [], [(4, 0)]), (1700, .iadd, 1, [], []), (1701, .iaload, 1, [], []), (1702, .aload_n 0, 1, [0], []), (1703, .iload_n 3, 1, [3], [])]
noncomputable def cd271_12 : List (Nat × AI) := [(1704, .iconst 5, 1, [], [(5, 0)]), (1705, .iadd, 1, [], []), (1706, .iaload, 1, [], []), (1707, .aload_n 0, 1, [0], []), (1708, .iload_n 3, 1, [3], []), (1709, .bipush 6, 2, [], [(6, 0)]), (1711, .iadd, 1, [], []), (1712, .iaload, 1, [], []), (1713, .aload_n 0, 1, [0], []), (1714, .iload_n 3, 1, [3], []), (1715, .bipush 7, 2, [], [(7, 0)]), (1717, .iadd, 1, [], []), (1718, .iaload, 1, [], []), (1719, .invokevirtual 184, 3, [250, 8, 1, 12, 13], []), (1722, .if_icmp .eq 385, 3, [2107], []), (1725, .iconst 0, 1, [], [(0, 0)]), (1726, .ireturn, 1, [1], []), (1727, .aload_n 1, 1, [1], []), (1728, .aload_n 0, 1, [0], []), (1729, .iload_n 3, 1, [3], []), (1730, .iconst 1, 1, [], [(1, 0)]), (1731, .iadd, 1, [], []), (1732, .iaload, 1, [], []), (1733, .aload_n 0, 1, [0], []), (1734, .iload_n 3, 1, [3], []), (1735, .iconst 2, 1, [], [(2, 0)]), (1736, .iadd, 1, [], []), (1737, .iaload, 1, [], []), (1738, .invokevirtual 185, 3, [148, 3, 1, 11, 3], []), (1741, .aload_n 2, 1, [2], []), (1742, .aload_n 0, 1, [0], []), (1743, .iload_n 3, 1, [3], []), (1744, .iconst 1, 1, [], [(1, 0)]), (1745, .iadd, 1, [], []), (1746, .iaload, 1, [], []), (1747, .aload_n 0, 1, [0], []), (1748, .iload_n 3, 1, [3], []), (1749, .iconst 2, 1, [], [(2, 0)]), (1750, .iadd, 1, [], []), (1751, .iaload, 1, [], []), (1752, .invokevirtual 188, 3, [251, 3, 1, 12, 3], []), (1755, .if_icmp .eq 352, 3, [2107], []), (1758, .iconst 0, 1, [], [(0, 0)]), (1759, .ireturn, 1, [1], []), (1760, .aload_n 1, 1, [1], []), (1761, .aload_n 0, 1, [0], []), (1762, .iload_n 3, 1, [3], []), (1763, .iconst 1, 1, [], [(1, 0)]), (1764, .iadd, 1, [], []), (1765, .iaload, 1, [], []), (1766, .aload_n 0, 1, [0], []), (1767, .iload_n 3, 1, [3], []), (1768, .iconst 2, 1, [], [(2, 0)]), (1769, .iadd, 1, [], []), (1770, .iaload, 1, [], []), (1771, .invokevirtual 189, 3, [149, 3, 1, 11, 3], []), (1774, .aload_n 2, 1, [2], []), (1775, .aload_n 0, 1, [0], []), (1776, .iload_n 3, 1, [3], []), (1777, .iconst 1, 1, [], [(1, 0)]), (1778, .iadd, 1, [], []), (1779, .iaload, 1, [], []), (1780, .aload_n 0, 1, [0], []), (1781, .iload_n 3, 1, [3], []), (1782, .iconst 2, 1, [], [(2, 0)]), (1783, .iadd, 1, [], []), (1784, .iaload, 1, [], []), (1785, .invokevirtual 192, 3, [252, 3, 1, 12, 6], []), (1788, .if_icmp .eq 319, 3, [2107], []), (1791, .iconst 0, 1, [], [(0, 0)]), (1792, .ireturn, 1, [1], []), (1793, .aload_n 1, 1, [1], []), (1794, .aload_n 0, 1, [0], []), (1795, .iload_n 3, 1, [3], []), (1796, .iconst 1, 1, [], [(1, 0)]), (1797, .iadd, 1, [], []), (1798, .iaload, 1, [], []), (1799, .aload_n 0, 1, [0], []), (1800, .iload_n 3, 1, [3], []), (1801, .iconst 2, 1, [], [(2, 0)]), (1802, .iadd, 1, [], []), (1803, .iaload, 1, [], []), (1804, .invokevirtual 193, 3, [150, 3, 1, 11, 3], []), (1807, .aload_n 2, 1, [2], []), (1808, .aload_n 0, 1, [0], []), (1809, .iload_n 3, 1, [3], []), (1810, .iconst 1, 1, [], [(1, 0)]), (1811, .iadd, 1, [], []), (1812, .iaload, 1, [], []), (1813, .aload_n 0, 1, [0], []), (1814, .iload_n 3, 1, [3], []), (1815, .iconst 2, 1, [], [(2, 0)]), (1816, .iadd, 1, [], []), (1817, .iaload, 1, [], []), (1818, .invokevirtual 196, 3, [253, 3, 1, 12, 3], []), (1821, .if_icmp .eq 286, 3, [2107], []), (1824, .iconst 0, 1, [], [(0, 0)]), (1825, .ireturn, 1, [1], []), (1826, .aload_n 1, 1, [1], []), (1827, .aload_n 0, 1, [0], [])]
noncomputable def cd271_13 : List (Nat × AI) := [(1828, .iload_n 3, 1, [3], []), (1829, .iconst 1, 1, [], [(1, 0)]), (1830, .iadd, 1, [], []), (1831, .iaload, 1, [], []), (1832, .aload_n 0, 1, [0], []), (1833, .iload_n 3, 1, [3], []), (1834, .iconst 2, 1, [], [(2, 0)]), (1835, .iadd, 1, [], []), (1836, .iaload, 1, [], []), (1837, .aload_n 0, 1, [0], []), (1838, .iload_n 3, 1, [3], []), (1839, .iconst 3, 1, [], [(3, 0)]), (1840, .iadd, 1, [], []), (1841, .iaload, 1, [], []), (1842, .invokevirtual 197, 3, [151, 4, 1, 11, 4], []), (1845, .aload_n 2, 1, [2], []), (1846, .aload_n 0, 1, [0], []), (1847, .iload_n 3, 1, [3], []), (1848, .iconst 1, 1, [], [(1, 0)]), (1849, .iadd, 1, [], []), (1850, .iaload, 1, [], []), (1851, .aload_n 0, 1, [0], []), (1852, .iload_n 3, 1, [3], []), (1853, .iconst 2, 1, [], [(2, 0)]), (1854, .iadd, 1, [], []), (1855, .iaload, 1, [], []), (1856, .aload_n 0, 1, [0], []), (1857, .iload_n 3, 1, [3], []), (1858, .iconst 3, 1, [], [(3, 0)]), (1859, .iadd, 1, [], []), (1860, .iaload, 1, [], []), (1861, .invokevirtual 200, 3, [254, 4, 1, 12, 5], []), (1864, .if_icmp .eq 243, 3, [2107], []), (1867, .iconst 0, 1, [], [(0, 0)]), (1868, .ireturn, 1, [1], []), (1869, .aload_n 1, 1, [1], []), (1870, .aload_n 0, 1, [0], []), (1871, .iload_n 3, 1, [3], []), (1872, .iconst 1, 1, [], [(1, 0)]), (1873, .iadd, 1, [], []), (1874, .iaload, 1, [], []), (1875, .invokevirtual 201, 3, [152, 2, 1, 11, 2], []), (1878, .aload_n 2, 1, [2], []), (1879, .aload_n 0, 1, [0], []), (1880, .iload_n 3, 1, [3], []), (1881, .iconst 1, 1, [], [(1, 0)]), (1882, .iadd, 1, [], []), (1883, .iaload, 1, [], []), (1884, .invokevirtual 204, 3, [255, 2, 1, 12, 3], []), (1887, .if_icmp .eq 220, 3, [2107], []), (1890, .iconst 0, 1, [], [(0, 0)]), (1891, .ireturn, 1, [1], []), (1892, .aload_n 1, 1, [1], []), (1893, .aload_n 0, 1, [0], []), (1894, .iload_n 3, 1, [3], []), (1895, .iconst 1, 1, [], [(1, 0)]), (1896, .iadd, 1, [], []), (1897, .iaload, 1, [], []), (1898, .aload_n 0, 1, [0], []), (1899, .iload_n 3, 1, [3], []), (1900, .iconst 2, 1, [], [(2, 0)]), (1901, .iadd, 1, [], []), (1902, .iaload, 1, [], []), (1903, .aload_n 0, 1, [0], []), (1904, .iload_n 3, 1, [3], []), (1905, .iconst 3, 1, [], [(3, 0)]), (1906, .iadd, 1, [], []), (1907, .iaload, 1, [], []), (1908, .invokevirtual 205, 3, [153, 4, 1, 11, 4], []), (1911, .aload_n 2, 1, [2], []), (1912, .aload_n 0, 1, [0], []), (1913, .iload_n 3, 1, [3], []), (1914, .iconst 1, 1, [], [(1, 0)]), (1915, .iadd, 1, [], []), (1916, .iaload, 1, [], []), (1917, .aload_n 0, 1, [0], []), (1918, .iload_n 3, 1, [3], []), (1919, .iconst 2, 1, [], [(2, 0)]), (1920, .iadd, 1, [], []), (1921, .iaload, 1, [], []), (1922, .aload_n 0, 1, [0], []), (1923, .iload_n 3, 1, [3], []), (1924, .iconst 3, 1, [], [(3, 0)]), (1925, .iadd, 1, [], []), (1926, .iaload, 1, [], []), (1927, .invokevirtual 208, 3, [256, 4, 1, 12, 4], []), (1930, .if_icmp .eq 177, 3, [2107], []), (1933, .iconst 0, 1, [], [(0, 0)]), (1934, .ireturn, 1, [1], []), (1935, .aload_n 1, 1, [1], []), (1936, .aload_n 0, 1, [0], []), (1937, .iload_n 3, 1, [3], []), (1938, .iconst 1, 1, [], [(1, 0)]), (1939, .iadd, 1, [], []), (1940, .iaload, 1, [], []), (1941, .aload_n 0, 1, [0], []), (1942, .iload_n 3, 1, [3], []), (1943, .iconst 2, 1, [], [(2, 0)]), (1944, .iadd, 1, [], []), (1945, .iaload, 1, [], [])]
noncomputable def cd271_14 : List (Nat × AI) := [(1946, .aload_n 0, 1, [0], []), (1947, .iload_n 3, 1, [3], []), (1948, .iconst 3, 1, [], [(3, 0)]), (1949, .iadd, 1, [], []), (1950, .iaload, 1, [], []), (1951, .invokevirtual 209, 3, [154, 4, 2, 11, 4], []), (1954, .aload_n 2, 1, [2], []), (1955, .aload_n 0, 1, [0], []), (1956, .iload_n 3, 1, [3], []), (1957, .iconst 1, 1, [], [(1, 0)]), (1958, .iadd, 1, [], []), (1959, .iaload, 1, [], []), (1960, .aload_n 0, 1, [0], []), (1961, .iload_n 3, 1, [3], []), (1962, .iconst 2, 1, [], [(2, 0)]), (1963, .iadd, 1, [], []), (1964, .iaload, 1, [], []), (1965, .aload_n 0, 1, [0], []), (1966, .iload_n 3, 1, [3], []), (1967, .iconst 3, 1, [], [(3, 0)]), (1968, .iadd, 1, [], []), (1969, .iaload, 1, [], []), (1970, .invokevirtual 213, 3, [257, 4, 2, 12, 4], []), (1973, .lcmp, 1, [], []), (1974, .ifCond .eq 133, 3, [2107], []), (1977, .iconst 0, 1, [], [(0, 0)]), (1978, .ireturn, 1, [1], []), (1979, .aload_n 1, 1, [1], []), (1980, .aload_n 0, 1, [0], []), (1981, .iload_n 3, 1, [3], []), (1982, .iconst 1, 1, [], [(1, 0)]), (1983, .iadd, 1, [], []), (1984, .iaload, 1, [], []), (1985, .invokevirtual 214, 3, [155, 2, 1, 11, 2], []), (1988, .aload_n 2, 1, [2], []), (1989, .aload_n 0, 1, [0], []), (1990, .iload_n 3, 1, [3], []), (1991, .iconst 1, 1, [], [(1, 0)]), (1992, .iadd, 1, [], []), (1993, .iaload, 1, [], []), (1994, .invokevirtual 217, 3, [260, 2, 1, 12, 2], []), (1997, .if_icmp .eq 110, 3, [2107], []), (2000, .iconst 0, 1, [], [(0, 0)]), (2001, .ireturn, 1, [1], []), (2002, .aload_n 1, 1, [1], []), (2003, .aload_n 0, 1, [0], []), (2004, .iload_n 3, 1, [3], []), (2005, .iconst 1, 1, [], [(1, 0)]), (2006, .iadd, 1, [], []), (2007, .iaload, 1, [], []), (2008, .invokevirtual 218, 3, [156, 2, 1, 11, 2], []), (2011, .aload_n 2, 1, [2], []), (2012, .aload_n 0, 1, [0], []), (2013, .iload_n 3, 1, [3], []), (2014, .iconst 1, 1, [], [(1, 0)]), (2015, .iadd, 1, [], []), (2016, .iaload, 1, [], []), (2017, .invokevirtual 221, 3, [261, 2, 1, 12, 2], []), (2020, .if_icmp .eq 87, 3, [2107], []), (2023, .iconst 0, 1, [], [(0, 0)]), (2024, .ireturn, 1, [1], []), (2025, .aload_n 1, 1, [1], []), (2026, .aload_n 0, 1, [0], []), (2027, .iload_n 3, 1, [3], []), (2028, .iconst 1, 1, [], [(1, 0)]), (2029, .iadd, 1, [], []), (2030, .iaload, 1, [], []), (2031, .aload_n 0, 1, [0], []), (2032, .iload_n 3, 1, [3], []), (2033, .iconst 2, 1, [], [(2, 0)]), (2034, .iadd, 1, [], []), (2035, .iaload, 1, [], []), (2036, .invokevirtual 222, 3, [157, 3, 1, 11, 3], []), (2039, .aload_n 2, 1, [2], []), (2040, .aload_n 0, 1, [0], []), (2041, .iload_n 3, 1, [3], []), (2042, .iconst 1, 1, [], [(1, 0)]), (2043, .iadd, 1, [], []), (2044, .iaload, 1, [], []), (2045, .aload_n 0, 1, [0], []), (2046, .iload_n 3, 1, [3], []), (2047, .iconst 2, 1, [], [(2, 0)]), (2048, .iadd, 1, [], []), (2049, .iaload, 1, [], []), (2050, .invokevirtual 225, 3, [262, 3, 1, 12, 3], []), (2053, .if_icmp .eq 54, 3, [2107], []), (2056, .iconst 0, 1, [], [(0, 0)]), (2057, .ireturn, 1, [1], []), (2058, .aload_n 1, 1, [1], []), (2059, .invokevirtual 226, 3, [158, 1, 1, 11, 1], []), (2062, .aload_n 2, 1, [2], []), (2063, .invokevirtual 229, 3, [263, 1, 1, 12, 1], []), (2066, .if_icmp .eq 41, 3, [2107], []), (2069, .iconst 0, 1, [], [(0, 0)]), (2070, .ireturn, 1, [1], []), (2071, .aload_n 1, 1, [1], []), (2072, .invokevirtual 230, 3, [159, 1, 1, 11, 1], []), (2075, .aload_n 2, 1, [2], []), (2076, .invokevirtual 233, 3, [264, 1, 1, 12, 1], []), (2079, .if_icmp .eq 28, 3, [2107], [])]
noncomputable def cd271_15 : List (Nat × AI) := [(2082, .iconst 0, 1, [], [(0, 0)]), (2083, .ireturn, 1, [1], []), (2084, .aload_n 1, 1, [1], []), (2085, .aload_n 0, 1, [0], []), (2086, .iload_n 3, 1, [3], []), (2087, .iconst 1, 1, [], [(1, 0)]), (2088, .iadd, 1, [], []), (2089, .iaload, 1, [], []), (2090, .invokevirtual 234, 3, [160, 2, 1, 11, 2], []), (2093, .aload_n 2, 1, [2], []), (2094, .aload_n 0, 1, [0], []), (2095, .iload_n 3, 1, [3], []), (2096, .iconst 1, 1, [], [(1, 0)]), (2097, .iadd, 1, [], []), (2098, .iaload, 1, [], []), (2099, .invokevirtual 237, 3, [265, 2, 1, 12, 2], []), (2102, .if_icmp .eq 5, 3, [2107], []), (2105, .iconst 0, 1, [], [(0, 0)]), (2106, .ireturn, 1, [1], []), (2107, .iinc 3 8, 3, [3], [(8, 0)]), (2110, .goto (-2092), 3, [18], []), (2113, .iconst 1, 1, [], [(1, 0)]), (2114, .ireturn, 1, [1], [])]
noncomputable def cd271 : List (Nat × AI) := cd271_0 ++ (cd271_1 ++ (cd271_2 ++ (cd271_3 ++ (cd271_4 ++ (cd271_5 ++ (cd271_6 ++ (cd271_7 ++ (cd271_8 ++ (cd271_9 ++ (cd271_10 ++ (cd271_11 ++ (cd271_12 ++ (cd271_13 ++ (cd271_14 ++ (cd271_15)))))))))))))))
noncomputable def cdA0 : List (List (Nat × AI)) := [cd0, cd1, cd2, cd3, cd4, cd5, cd6, cd7, cd8, cd9, cd10, cd11, cd12, cd13, cd14, cd15, cd16, cd17, cd18, cd19, cd20, cd21, cd22, cd23, cd24, cd25, cd26, cd27, cd28, cd29, cd30, cd31, cd32, cd33, cd34, cd35, cd36, cd37, cd38, cd39]
noncomputable def mtA0 : List MI := [(0, yX0_init, cX0_init, 1, none, 1, 1, 20), (0, yX0_addLine, cX0_addLine, 2, (some .int), 2, 0, 0), (0, yX0_lineAt, cX0_lineAt, 2, (some (.object "DryLand$Line")), 2, 1, 22), (0, yX0_firstStop, cX0_firstStop, 8, (some .int), 6, 3, 68), (0, yX0_inForce, cX0_inForce, 5, (some .int), 2, 2, 43), (1, yX1_init, cX1_init, 1, none, 1, 1, 20), (1, yX1_addCask, cX1_addCask, 3, (some .int), 3, 0, 0), (1, yX1_addPerson, cX1_addPerson, 1, (some .int), 1, 0, 0), (1, yX1_hasCask, cX1_hasCask, 2, (some .boolean), 2, 1, 22), (1, yX1_hasPerson, cX1_hasPerson, 2, (some .boolean), 2, 1, 22), (1, yX1_addFact, cX1_addFact, 5, (some .int), 5, 0, 0), (1, yX1_learn, cX1_learn, 3, none, 2, 1, 23), (1, yX1_learnFact, cX1_learnFact, 3, none, 2, 0, 0), (1, yX1_isCutSet, cX1_isCutSet, 3, (some .boolean), 2, 0, 0), (1, yX1_countCutSets, cX1_countCutSets, 3, (some .int), 1, 1, 22), (1, yX1_fewest, cX1_fewest, 4, (some .int), 1, 1, 22), (1, yX1_inSome, cX1_inSome, 2, (some .int), 1, 1, 22), (1, yX1_inAll, cX1_inAll, 4, (some .int), 1, 2, 43), (1, yX1_personsWho, cX1_personsWho, 4, (some .int), 2, 0, 0), (1, yX1_firstDayKnown, cX1_firstDayKnown, 3, (some .int), 2, 3, 66), (1, yX1_leave, cX1_leave, 2, none, 2, 0, 0), (1, yX1_tellOf, cX1_tellOf, 2, (some .int), 2, 4, 85), (1, yX1_tellStuff, cX1_tellStuff, 2, (some .int), 2, 1, 21), (1, yX1_tellSpirit, cX1_tellSpirit, 2, (some .int), 2, 2, 42), (1, yX1_tellMarked, cX1_tellMarked, 3, (some .int), 2, 3, 63), (1, yX1_factsOf, cX1_factsOf, 4, (some .int), 2, 0, 0), (1, yX1_hangOf, cX1_hangOf, 3, (some .int), 2, 1, 21), (2, yX2_init, cX2_init, 1, none, 1, 1, 20), (2, yX2_setCourt, cX2_setCourt, 3, (some .int), 3, 4, 94), (2, yX2_addCase, cX2_addCase, 4, (some .int), 4, 4, 94), (2, yX2_hasCase, cX2_hasCase, 2, (some .boolean), 2, 1, 22), (2, yX2_hearCases, cX2_hearCases, 3, none, 1, 3, 72), (2, yX2_sit, cX2_sit, 6, none, 3, 2, 47), (2, yX2_nextCase, cX2_nextCase, 6, (some .int), 3, 1, 22), (2, yX2_goesAhead, cX2_goesAhead, 3, (some .boolean), 3, 0, 0), (2, yX2_countWaiting, cX2_countWaiting, 5, (some .int), 2, 0, 0), (2, yX2_addJuror, cX2_addJuror, 3, (some .int), 3, 0, 0), (2, yX2_dismissAll, cX2_dismissAll, 2, (some .int), 1, 0, 0), (2, yX2_share, cX2_share, 7, (some .long), 3, 1, 30), (2, yX2_commonDivisor, cX2_commonDivisor, 11, (some .long), 2, 0, 0)]
noncomputable def cdA1 : List (List (Nat × AI)) := [cd40, cd41, cd42, cd43, cd44, cd45, cd46, cd47, cd48, cd49, cd50, cd51, cd52, cd53, cd54, cd55, cd56, cd57, cd58, cd59, cd60, cd61, cd62, cd63, cd64, cd65, cd66, cd67, cd68, cd69, cd70, cd71, cd72, cd73, cd74, cd75, cd76, cd77, cd78, cd79]
noncomputable def mtA1 : List MI := [(3, yX3_init, cX3_init, 1, none, 1, 1, 20), (3, yX3_isInForce, cX3_isInForce, 2, (some .boolean), 2, 1, 22), (3, yX3_halts, cX3_halts, 6, (some .boolean), 6, 2, 43), (4, yX4_init, cX4_init, 1, none, 1, 1, 20), (4, yX4_arePlaces, cX4_arePlaces, 3, (some .boolean), 2, 1, 22), (4, yX4_hasAgent, cX4_hasAgent, 2, (some .boolean), 2, 1, 22), (4, yX4_hasTruck, cX4_hasTruck, 2, (some .boolean), 2, 1, 22), (4, yX4_addAgent, cX4_addAgent, 5, (some .int), 3, 3, 69), (4, yX4_addTruck, cX4_addTruck, 7, (some .int), 5, 3, 69), (4, yX4_tellTruck, cX4_tellTruck, 4, (some .int), 3, 0, 0), (4, yX4_noteMeeting, cX4_noteMeeting, 3, none, 3, 2, 47), (4, yX4_doMeet, cX4_doMeet, 6, (some .boolean), 3, 1, 22), (4, yX4_agentAt, cX4_agentAt, 3, (some .int), 3, 0, 0), (4, yX4_isWorld, cX4_isWorld, 4, (some .boolean), 2, 0, 0), (4, yX4_worldsWith, cX4_worldsWith, 4, (some .int), 2, 1, 23), (4, yX4_sureOf, cX4_sureOf, 4, (some .int), 2, 2, 46), (5, yX5_init, cX5_init, 1, none, 1, 1, 20), (5, yX5_addPaper, cX5_addPaper, 3, (some .int), 3, 0, 0), (5, yX5_areThere, cX5_areThere, 2, (some .boolean), 2, 0, 0), (5, yX5_hasPaper, cX5_hasPaper, 2, (some .boolean), 2, 1, 22), (5, yX5_isRaid, cX5_isRaid, 2, (some .boolean), 2, 0, 0), (5, yX5_isUnmetRaid, cX5_isUnmetRaid, 2, (some .boolean), 2, 1, 21), (5, yX5_tellRaid, cX5_tellRaid, 4, (some .int), 3, 0, 0), (5, yX5_voidsIf, cX5_voidsIf, 5, (some .int), 2, 1, 21), (5, yX5_savedBy, cX5_savedBy, 2, (some .int), 2, 2, 45), (5, yX5_worstRaid, cX5_worstRaid, 5, (some .int), 1, 3, 66), (6, yX6_init, cX6_init, 1, none, 1, 1, 20), (6, yX6_readLine, cX6_readLine, 5, (some (.object "DryLand$Line")), 3, 4, 90), (6, yX6_readVerbAndKind, cX6_readVerbAndKind, 2, (some .boolean), 2, 2, 44), (6, yX6_readAbove, cX6_readAbove, 2, (some .boolean), 2, 3, 66), (6, yX6_readDays, cX6_readDays, 2, (some .boolean), 2, 3, 66), (6, yX6_readLetters, cX6_readLetters, 4, (some .boolean), 2, 3, 67), (6, yX6_readLetter, cX6_readLetter, 4, (some .boolean), 2, 2, 44), (6, yX6_number, cX6_number, 3, (some .int), 1, 2, 44), (6, yX6_sign, cX6_sign, 3, (some .boolean), 2, 0, 0), (6, yX6_oneOf, cX6_oneOf, 3, (some .int), 2, 1, 22), (7, yX7_init, cX7_init, 1, none, 1, 1, 20), (7, yX7_isSheet, cX7_isSheet, 1, (some .boolean), 1, 1, 22), (7, yX7_isLane, cX7_isLane, 1, (some .boolean), 1, 1, 22), (7, yX7_fail, cX7_fail, 2, (some .int), 2, 0, 0)]
noncomputable def cdA2 : List (List (Nat × AI)) := [cd80, cd81, cd82, cd83, cd84, cd85, cd86, cd87, cd88, cd89, cd90, cd91, cd92, cd93, cd94, cd95, cd96, cd97, cd98, cd99, cd100, cd101, cd102, cd103, cd104, cd105, cd106, cd107, cd108, cd109, cd110, cd111, cd112, cd113, cd114, cd115, cd116, cd117, cd118, cd119]
noncomputable def mtA2 : List MI := [(7, yX7_renew, cX7_renew, 4, (some .int), 4, 2, 42), (7, yX7_drop, cX7_drop, 3, (some .int), 2, 0, 0), (7, yX7_write, cX7_write, 4, (some .int), 4, 2, 42), (7, yX7_cutToLane, cX7_cutToLane, 2, (some .int), 2, 0, 0), (7, yX7_take, cX7_take, 7, (some .int), 6, 2, 46), (7, yX7_faultOfTaking, cX7_faultOfTaking, 5, (some .int), 5, 1, 22), (8, yX8_init, cX8_init, 1, none, 1, 1, 20), (8, yX8_addDoctor, cX8_addDoctor, 2, (some .int), 2, 0, 0), (8, yX8_hasDoctor, cX8_hasDoctor, 2, (some .boolean), 2, 1, 22), (8, yX8_addSlip, cX8_addSlip, 4, (some .int), 4, 0, 0), (8, yX8_countTwice, cX8_countTwice, 3, (some .int), 1, 1, 22), (8, yX8_isUsedAhead, cX8_isUsedAhead, 3, (some .boolean), 2, 0, 0), (8, yX8_tooManyOf, cX8_tooManyOf, 5, (some .int), 3, 1, 24), (8, yX8_countOn, cX8_countOn, 5, (some .int), 3, 0, 0), (9, yX9_init, cX9_init, 1, none, 1, 1, 20), (9, yX9_addTown, cX9_addTown, 3, (some .int), 3, 0, 0), (9, yX9_hasTown, cX9_hasTown, 2, (some .boolean), 2, 1, 22), (9, yX9_passWeek, cX9_passWeek, 6, (some .int), 3, 2, 43), (9, yX9_nextPrice, cX9_nextPrice, 3, (some .int), 3, 1, 21), (10, yX10_init, cX10_init, 1, none, 1, 1, 20), (10, yX10_addStep, cX10_addStep, 7, (some .int), 7, 0, 0), (10, yX10_isOpen, cX10_isOpen, 4, (some .boolean), 4, 4, 95), (10, yX10_wouldStop, cX10_wouldStop, 6, (some .int), 4, 5, 118), (10, yX10_findLeast, cX10_findLeast, 4, (some .int), 3, 5, 118), (10, yX10_measure, cX10_measure, 3, none, 1, 1, 23), (10, yX10_walk, cX10_walk, 5, none, 2, 1, 22), (10, yX10_firstNearer, cX10_firstNearer, 3, (some .int), 2, 0, 0), (11, yX11_init, cX11_init, 1, none, 1, 2, 40), (11, yX11_text, cX11_text, 7, (some .int), 5, 5, 114), (11, yX11_strike, cX11_strike, 5, (some .int), 3, 2, 43), (11, yX11_line, cX11_line, 4, (some .int), 3, 2, 43), (11, yX11_stops, cX11_stops, 7, (some .int), 6, 5, 120), (11, yX11_why, cX11_why, 6, (some .int), 6, 4, 95), (11, yX11_force, cX11_force, 2, (some .int), 2, 3, 67), (11, yX11_step, cX11_step, 7, (some .int), 7, 2, 45), (11, yX11_least, cX11_least, 4, (some .int), 3, 6, 141), (11, yX11_more, cX11_more, 8, (some .int), 6, 6, 143), (11, yX11_doctor, cX11_doctor, 2, (some .int), 2, 1, 22), (11, yX11_slip, cX11_slip, 4, (some .int), 4, 2, 43), (11, yX11_twice, cX11_twice, 1, (some .int), 1, 2, 44)]
noncomputable def cdA3 : List (List (Nat × AI)) := [cd120, cd121, cd122, cd123, cd124, cd125, cd126, cd127, cd128, cd129, cd130, cd131, cd132, cd133, cd134, cd135, cd136, cd137, cd138, cd139, cd140, cd141, cd142, cd143, cd144, cd145, cd146, cd147, cd148, cd149, cd150, cd151, cd152, cd153, cd154, cd155, cd156, cd157, cd158, cd159]
noncomputable def mtA3 : List MI := [(11, yX11_tooMany, cX11_tooMany, 3, (some .int), 3, 2, 48), (11, yX11_agent, cX11_agent, 6, (some .int), 5, 4, 93), (11, yX11_truck, cX11_truck, 9, (some .int), 7, 4, 95), (11, yX11_came, cX11_came, 3, (some .int), 3, 2, 43), (11, yX11_meets, cX11_meets, 2, (some .int), 2, 2, 43), (11, yX11_worlds, cX11_worlds, 1, (some .int), 1, 2, 46), (11, yX11_sure, cX11_sure, 3, (some .int), 3, 3, 69), (11, yX11_cask, cX11_cask, 3, (some .int), 3, 1, 22), (11, yX11_person, cX11_person, 1, (some .int), 1, 1, 20), (11, yX11_drank, cX11_drank, 4, (some .int), 4, 2, 43), (11, yX11_fell, cX11_fell, 5, (some .int), 4, 2, 43), (11, yX11_cut, cX11_cut, 3, (some .int), 3, 3, 66), (11, yX11_knew, cX11_knew, 2, (some .int), 2, 4, 88), (11, yX11_raid, cX11_raid, 2, (some .int), 2, 1, 22), (11, yX11_paper, cX11_paper, 2, (some .int), 2, 1, 22), (11, yX11_met, cX11_met, 3, (some .int), 3, 2, 43), (11, yX11_voids, cX11_voids, 1, (some .int), 1, 2, 45), (11, yX11_saved, cX11_saved, 2, (some .int), 2, 3, 66), (11, yX11_worst, cX11_worst, 1, (some .int), 1, 4, 90), (11, yX11_court, cX11_court, 3, (some .int), 3, 5, 116), (11, yX11_sue, cX11_sue, 4, (some .int), 4, 5, 117), (11, yX11_heard, cX11_heard, 3, (some .int), 3, 2, 43), (11, yX11_waiting, cX11_waiting, 2, (some .int), 2, 2, 42), (11, yX11_juror, cX11_juror, 3, (some .int), 3, 1, 22), (11, yX11_dismiss, cX11_dismiss, 1, (some .int), 1, 1, 21), (11, yX11_jury, cX11_jury, 3, (some .long), 3, 2, 56), (11, yX11_miles, cX11_miles, 3, (some .int), 2, 1, 22), (11, yX11_chase, cX11_chase, 12, (some .int), 8, 2, 43), (11, yX11_town, cX11_town, 3, (some .int), 3, 1, 22), (11, yX11_week, cX11_week, 3, (some .int), 3, 3, 68), (11, yX11_ofTown, cX11_ofTown, 3, (some .int), 3, 2, 43), (11, yX11_sheet, cX11_sheet, 4, (some .int), 4, 3, 65), (11, yX11_lose, cX11_lose, 2, (some .int), 2, 2, 42), (11, yX11_put, cX11_put, 4, (some .int), 4, 3, 65), (11, yX11_cell, cX11_cell, 4, (some .long), 4, 3, 72), (11, yX11_tell, cX11_tell, 2, (some .int), 2, 5, 106), (11, yX11_hang, cX11_hang, 2, (some .int), 2, 2, 43), (11, yX11_as, cX11_as, 3, (some .int), 3, 2, 43), (11, yX11_trace, cX11_trace, 1, (some .int), 1, 0, 0), (11, yX11_fault, cX11_fault, 1, (some .int), 1, 0, 0)]
noncomputable def cdA4 : List (List (Nat × AI)) := [cd160, cd161, cd162, cd163, cd164, cd165, cd166, cd167, cd168, cd169, cd170, cd171, cd172, cd173, cd174, cd175, cd176, cd177, cd178, cd179, cd180, cd181, cd182, cd183, cd184, cd185, cd186, cd187, cd188, cd189, cd190, cd191, cd192, cd193, cd194, cd195, cd196, cd197, cd198, cd199]
noncomputable def mtA4 : List MI := [(11, yX11_many, cX11_many, 2, (some .int), 2, 0, 0), (11, yX11_within, cX11_within, 3, (some .boolean), 3, 0, 0), (11, yX11_isDay, cX11_isDay, 1, (some .boolean), 1, 1, 22), (11, yX11_isDeed, cX11_isDeed, 4, (some .boolean), 4, 1, 22), (11, yX11_isSea, cX11_isSea, 2, (some .boolean), 2, 1, 22), (12, yX12_init, cX12_init, 1, none, 1, 1, 20), (12, yX12_fails, cX12_fails, 2, (some .int), 2, 0, 0), (12, yX12_lost, cX12_lost, 2, (some .long), 2, 0, 0), (12, yX12_within, cX12_within, 3, (some .boolean), 3, 0, 0), (12, yX12_isDay, cX12_isDay, 1, (some .boolean), 1, 1, 22), (12, yX12_isSheet, cX12_isSheet, 1, (some .boolean), 1, 1, 22), (12, yX12_isLane, cX12_isLane, 1, (some .boolean), 1, 1, 22), (12, yX12_against, cX12_against, 5, (some .int), 5, 1, 21), (12, yX12_verbOf, cX12_verbOf, 1, (some .int), 1, 0, 0), (12, yX12_letterOf, cX12_letterOf, 1, (some .int), 1, 0, 0), (12, yX12_codeAt, cX12_codeAt, 1, (some .int), 1, 0, 0), (12, yX12_readNumber, cX12_readNumber, 3, (some .int), 1, 1, 22), (12, yX12_readCode, cX12_readCode, 2, none, 2, 1, 20), (12, yX12_read, cX12_read, 6, (some .int), 3, 2, 44), (12, yX12_copyLine, cX12_copyLine, 3, none, 3, 0, 0), (12, yX12_text, cX12_text, 7, (some .int), 5, 3, 69), (12, yX12_isLine, cX12_isLine, 2, (some .boolean), 2, 0, 0), (12, yX12_strike, cX12_strike, 4, (some .int), 3, 2, 42), (12, yX12_line, cX12_line, 3, (some .int), 3, 1, 21), (12, yX12_isInForce, cX12_isInForce, 3, (some .boolean), 3, 1, 22), (12, yX12_doesStop, cX12_doesStop, 8, (some .boolean), 7, 2, 44), (12, yX12_isDeed, cX12_isDeed, 4, (some .boolean), 4, 1, 22), (12, yX12_whyOf, cX12_whyOf, 7, (some .int), 6, 3, 71), (12, yX12_stops, cX12_stops, 6, (some .int), 6, 4, 97), (12, yX12_why, cX12_why, 6, (some .int), 6, 4, 97), (12, yX12_force, cX12_force, 4, (some .int), 2, 2, 44), (12, yX12_step, cX12_step, 7, (some .int), 7, 2, 45), (12, yX12_isFree, cX12_isFree, 3, (some .boolean), 3, 4, 97), (12, yX12_findWay, cX12_findWay, 5, (some .int), 2, 5, 119), (12, yX12_least, cX12_least, 4, (some .int), 3, 6, 143), (12, yX12_more, cX12_more, 10, (some .int), 6, 5, 119), (12, yX12_isDoctor, cX12_isDoctor, 2, (some .boolean), 2, 0, 0), (12, yX12_doctor, cX12_doctor, 2, (some .int), 2, 1, 22), (12, yX12_slip, cX12_slip, 4, (some .int), 4, 2, 42), (12, yX12_twice, cX12_twice, 5, (some .int), 1, 0, 0)]
noncomputable def cdA5 : List (List (Nat × AI)) := [cd200, cd201, cd202, cd203, cd204, cd205, cd206, cd207, cd208, cd209, cd210, cd211, cd212, cd213, cd214, cd215, cd216, cd217, cd218, cd219, cd220, cd221, cd222, cd223, cd224, cd225, cd226, cd227, cd228, cd229, cd230, cd231, cd232, cd233, cd234, cd235, cd236, cd237, cd238, cd239]
noncomputable def mtA5 : List MI := [(12, yX12_isTooMany, cX12_isTooMany, 5, (some .boolean), 3, 0, 0), (12, yX12_tooMany, cX12_tooMany, 5, (some .int), 3, 1, 24), (12, yX12_arePlaces, cX12_arePlaces, 4, (some .boolean), 3, 1, 22), (12, yX12_agent, cX12_agent, 8, (some .int), 5, 2, 45), (12, yX12_truck, cX12_truck, 10, (some .int), 7, 2, 45), (12, yX12_isTruck, cX12_isTruck, 2, (some .boolean), 2, 0, 0), (12, yX12_came, cX12_came, 4, (some .int), 3, 1, 22), (12, yX12_agentAt, cX12_agentAt, 3, (some .int), 3, 0, 0), (12, yX12_doMeet, cX12_doMeet, 7, (some .boolean), 3, 1, 22), (12, yX12_meeting, cX12_meeting, 4, (some .int), 2, 2, 48), (12, yX12_meets, cX12_meets, 2, (some .int), 2, 3, 71), (12, yX12_layMeets, cX12_layMeets, 2, none, 1, 3, 71), (12, yX12_isWorld, cX12_isWorld, 4, (some .boolean), 2, 0, 0), (12, yX12_worlds, cX12_worlds, 3, (some .int), 1, 4, 92), (12, yX12_sure, cX12_sure, 7, (some .int), 3, 4, 92), (12, yX12_isCask, cX12_isCask, 2, (some .boolean), 2, 0, 0), (12, yX12_isPerson, cX12_isPerson, 2, (some .boolean), 2, 0, 0), (12, yX12_cask, cX12_cask, 3, (some .int), 3, 1, 22), (12, yX12_person, cX12_person, 1, (some .int), 1, 0, 0), (12, yX12_tells, cX12_tells, 5, (some .int), 5, 0, 0), (12, yX12_drank, cX12_drank, 4, (some .int), 4, 2, 42), (12, yX12_fell, cX12_fell, 4, (some .int), 4, 2, 42), (12, yX12_layFacts, cX12_layFacts, 4, none, 2, 0, 0), (12, yX12_sizeOf, cX12_sizeOf, 3, (some .int), 1, 0, 0), (12, yX12_isCut, cX12_isCut, 4, (some .boolean), 2, 0, 0), (12, yX12_findCuts, cX12_findCuts, 3, none, 2, 1, 23), (12, yX12_cut, cX12_cut, 3, (some .int), 3, 2, 45), (12, yX12_isAnyKnown, cX12_isAnyKnown, 3, (some .boolean), 2, 0, 0), (12, yX12_knew, cX12_knew, 3, (some .int), 2, 2, 45), (12, yX12_raid, cX12_raid, 2, (some .int), 2, 0, 0), (12, yX12_paper, cX12_paper, 2, (some .int), 2, 0, 0), (12, yX12_isPaper, cX12_isPaper, 2, (some .boolean), 2, 0, 0), (12, yX12_met, cX12_met, 4, (some .int), 3, 1, 21), (12, yX12_voidsWith, cX12_voidsWith, 5, (some .int), 2, 0, 0), (12, yX12_voids, cX12_voids, 1, (some .int), 1, 1, 24), (12, yX12_countOf, cX12_countOf, 3, (some .int), 1, 0, 0), (12, yX12_savedBy, cX12_savedBy, 2, (some .int), 2, 1, 24), (12, yX12_saved, cX12_saved, 2, (some .int), 2, 2, 45), (12, yX12_worst, cX12_worst, 3, (some .int), 1, 2, 45), (12, yX12_nextCase, cX12_nextCase, 6, (some .int), 3, 0, 0)]
noncomputable def cdA6 : List (List (Nat × AI)) := [cd240, cd241, cd242, cd243, cd244, cd245, cd246, cd247, cd248, cd249, cd250, cd251, cd252, cd253, cd254, cd255, cd256, cd257, cd258, cd259, cd260, cd261, cd262, cd263, cd264, cd265, cd266, cd267, cd268, cd269, cd270, cd271]
noncomputable def mtA6 : List MI := [(12, yX12_hear, cX12_hear, 6, (some .int), 1, 1, 25), (12, yX12_court, cX12_court, 3, (some .int), 3, 2, 50), (12, yX12_sue, cX12_sue, 4, (some .int), 4, 2, 42), (12, yX12_heard, cX12_heard, 4, (some .int), 3, 2, 50), (12, yX12_waiting, cX12_waiting, 5, (some .int), 2, 2, 50), (12, yX12_juror, cX12_juror, 3, (some .int), 3, 1, 22), (12, yX12_dismiss, cX12_dismiss, 2, (some .int), 1, 0, 0), (12, yX12_jury, cX12_jury, 17, (some .long), 3, 1, 22), (12, yX12_miles, cX12_miles, 3, (some .int), 2, 1, 22), (12, yX12_size, cX12_size, 1, (some .int), 1, 0, 0), (12, yX12_chase, cX12_chase, 13, (some .int), 8, 1, 22), (12, yX12_town, cX12_town, 3, (some .int), 3, 1, 22), (12, yX12_week, cX12_week, 6, (some .int), 3, 1, 22), (12, yX12_ofTown, cX12_ofTown, 3, (some .int), 3, 0, 0), (12, yX12_sheet, cX12_sheet, 5, (some .int), 4, 2, 42), (12, yX12_lose, cX12_lose, 3, (some .int), 2, 2, 42), (12, yX12_put, cX12_put, 4, (some .int), 4, 2, 42), (12, yX12_cell, cX12_cell, 4, (some .long), 4, 2, 42), (12, yX12_begins, cX12_begins, 2, none, 2, 0, 0), (12, yX12_factsOf, cX12_factsOf, 4, (some .int), 2, 0, 0), (12, yX12_tell, cX12_tell, 2, (some .int), 2, 1, 23), (12, yX12_hang, cX12_hang, 2, (some .int), 2, 1, 21), (12, yX12_as, cX12_as, 3, (some .int), 3, 1, 22), (12, yX12_trace, cX12_trace, 1, (some .int), 1, 0, 0), (12, yX12_fault, cX12_fault, 1, (some .int), 1, 0, 0), (12, yX12_many, cX12_many, 2, (some .int), 2, 0, 0), (14, yJ6_bitCount_0f7a4, cJ6_bitCount_0f7a4, 1, (some .int), 1, 0, 0), (15, yJ9_abs_0f7a4, cJ9_abs_0f7a4, 1, (some .int), 1, 0, 0), (15, yJ9_max_7cf53, cJ9_max_7cf53, 2, (some .int), 2, 0, 0), (15, yJ9_min_7cf53, cJ9_min_7cf53, 2, (some .int), 2, 0, 0), (16, yJ7_fill_53178, cJ7_fill_53178, 4, none, 2, 0, 0), (13, yL_law, cL_law, 4, (some .boolean), 1, 7, 170)]
noncomputable def cdA : List (List (Nat × AI)) := cdA0 ++ (cdA1 ++ (cdA2 ++ (cdA3 ++ (cdA4 ++ (cdA5 ++ (cdA6))))))
noncomputable def mtab : List MI := mtA0 ++ (mtA1 ++ (mtA2 ++ (mtA3 ++ (mtA4 ++ (mtA5 ++ (mtA6))))))
def gcd' : List (List (Nat × AI)) → Nat → List (Nat × AI)
  | [], _ => []
  | a :: _, 0 => a
  | _ :: t, n + 1 => gcd' t n
def gmi : List MI → Nat → MI
  | [], _ => (0, yX0_init, cX0_init, 0, none, 0, 0, 0)
  | a :: _, 0 => a
  | _ :: t, n + 1 => gmi t n
noncomputable def cdT (M : Nat) : List (Nat × AI) := gcd' cdA M
noncomputable def mi (M : Nat) : MI := gmi mtab M
def ownN : List String := [RX0, RX1, RX2, RX3, RX4, RX5, RX6, RX7, RX8, RX9, RX10, RX11, RX12, RL, RJ6, RJ9, RJ7]
def own (c : Nat) : String := ownN.getD c ""
/-- links of calls (class, entry, method, kind: 0 virtual, 1 static, 2 init, 3 static of a nest mate, 4 init of a nest mate), of fields (class, entry, class, place), of statics, of classes; Object's init, arraycopy, constants -/
def ctab : List (Nat × Nat × Nat × Nat) := [(0, 21, 161, 3), (0, 25, 42, 0), (0, 29, 41, 0), (1, 43, 161, 3), (1, 50, 270, 1), (1, 56, 12, 0), (1, 63, 13, 0), (1, 67, 266, 1), (1, 73, 16, 0), (1, 77, 11, 0), (1, 80, 17, 0), (1, 86, 24, 0), (1, 89, 23, 0), (1, 92, 22, 0), (1, 95, 20, 0), (1, 98, 25, 0), (2, 44, 31, 0), (2, 53, 161, 3), (2, 57, 270, 1), (2, 63, 32, 0), (2, 67, 33, 0), (2, 71, 34, 0), (2, 78, 39, 1), (3, 24, 161, 3), (3, 28, 41, 0), (4, 35, 161, 3), (4, 52, 50, 0), (4, 56, 51, 0), (4, 60, 52, 0), (4, 64, 53, 0), (4, 68, 54, 0), (5, 23, 161, 3), (5, 27, 60, 0), (5, 31, 63, 0), (5, 35, 266, 1), (5, 40, 61, 0), (5, 43, 64, 0), (6, 38, 40, 4), (6, 39, 68, 0), (6, 43, 69, 0), (6, 46, 70, 0), (6, 49, 71, 0), (6, 55, 75, 0), (6, 68, 74, 0), (6, 72, 73, 0), (6, 85, 72, 0), (7, 26, 161, 3), (7, 34, 77, 1), (7, 38, 78, 1), (7, 41, 79, 0), (7, 45, 270, 1), (7, 51, 83, 1), (7, 55, 85, 0), (8, 28, 161, 3), (8, 35, 91, 0), (8, 39, 93, 0), (9, 31, 161, 3), (9, 44, 98, 1), (10, 44, 3, 0), (10, 50, 101, 0), (10, 54, 42, 0), (10, 60, 104, 0), (10, 63, 105, 0), (10, 67, 270, 1), (10, 79, 106, 0), (11, 11, 76, 4), (11, 20, 66, 4), (11, 27, 0, 4), (11, 34, 99, 4), (11, 41, 86, 4), (11, 48, 43, 4), (11, 55, 5, 4), (11, 62, 56, 4), (11, 69, 27, 4), (11, 76, 94, 4), (11, 85, 84, 0), (11, 93, 67, 0), (11, 100, 1, 0), (11, 104, 2, 0), (11, 108, 162, 1), (11, 135, 112, 0), (11, 139, 163, 1), (11, 143, 3, 0), (11, 146, 4, 0), (11, 150, 161, 1), (11, 154, 100, 0), (11, 158, 103, 0), (11, 165, 102, 0), (11, 169, 87, 0), (11, 172, 88, 0), (11, 175, 89, 0), (11, 179, 90, 0), (11, 183, 92, 0), (11, 187, 44, 1), (11, 191, 47, 0), (11, 195, 48, 0), (11, 199, 46, 0), (11, 202, 49, 0), (11, 208, 54, 0), (11, 211, 45, 0), (11, 214, 55, 0), (11, 217, 6, 0), (11, 220, 7, 0), (11, 223, 9, 0), (11, 226, 8, 0), (11, 229, 10, 0), (11, 233, 11, 0), (11, 237, 14, 0), (11, 240, 15, 0), (11, 243, 17, 0), (11, 246, 16, 0), (11, 249, 18, 0), (11, 252, 19, 0), (11, 255, 57, 0), (11, 259, 58, 0), (11, 262, 59, 0), (11, 265, 60, 0), (11, 268, 62, 0), (11, 271, 63, 0), (11, 274, 61, 0), (11, 277, 64, 0), (11, 280, 65, 0), (11, 283, 28, 0), (11, 286, 29, 0), (11, 289, 30, 0), (11, 307, 35, 0), (11, 310, 36, 0), (11, 313, 37, 0), (11, 321, 38, 0), (11, 325, 164, 1), (11, 334, 95, 0), (11, 337, 96, 0), (11, 340, 97, 0), (11, 358, 80, 0), (11, 361, 77, 1), (11, 364, 81, 0), (11, 367, 82, 0), (11, 370, 21, 0), (11, 373, 26, 0), (11, 382, 79, 0), (12, 176, 168, 1), (12, 180, 166, 0), (12, 190, 175, 0), (12, 198, 173, 1), (12, 201, 176, 0), (12, 204, 177, 0), (12, 208, 174, 1), (12, 211, 170, 1), (12, 215, 171, 1), (12, 218, 172, 0), (12, 222, 178, 0), (12, 229, 179, 0), (12, 233, 181, 0), (12, 236, 169, 1), (12, 239, 184, 0), (12, 243, 185, 0), (12, 247, 186, 1), (12, 251, 187, 0), (12, 258, 192, 0), (12, 261, 193, 0), (12, 267, 196, 0), (12, 273, 200, 0), (12, 276, 202, 0), (12, 285, 205, 0), (12, 288, 207, 0), (12, 291, 208, 0), (12, 294, 209, 0), (12, 297, 211, 0), (12, 300, 212, 0), (12, 312, 216, 0), (12, 315, 215, 0), (12, 318, 219, 0), (12, 328, 222, 0), (12, 343, 224, 0), (12, 346, 223, 1), (12, 349, 225, 0), (12, 352, 227, 0), (12, 358, 231, 0), (12, 361, 233, 0), (12, 364, 235, 1), (12, 367, 236, 0), (12, 373, 239, 0), (12, 376, 240, 0), (12, 382, 249, 1), (12, 388, 167, 0), (12, 395, 258, 0), (12, 398, 259, 0), (13, 9, 107, 2), (13, 12, 165, 2), (13, 13, 108, 0), (13, 17, 180, 0), (13, 18, 109, 0), (13, 22, 182, 0), (13, 23, 110, 0), (13, 26, 183, 0), (13, 27, 111, 0), (13, 31, 188, 0), (13, 32, 112, 0), (13, 35, 189, 0), (13, 36, 113, 0), (13, 40, 190, 0), (13, 41, 114, 0), (13, 45, 191, 0), (13, 46, 115, 0), (13, 49, 194, 0), (13, 50, 116, 0), (13, 53, 195, 0), (13, 54, 117, 0), (13, 57, 197, 0), (13, 58, 118, 0), (13, 62, 198, 0), (13, 63, 119, 0), (13, 67, 199, 0), (13, 68, 120, 0), (13, 71, 201, 0), (13, 72, 121, 0), (13, 75, 203, 0), (13, 76, 122, 0), (13, 79, 204, 0), (13, 80, 123, 0), (13, 83, 206, 0), (13, 84, 124, 0), (13, 87, 210, 0), (13, 88, 125, 0), (13, 91, 213, 0), (13, 92, 126, 0), (13, 95, 214, 0), (13, 96, 127, 0), (13, 99, 217, 0), (13, 100, 128, 0), (13, 103, 218, 0), (13, 104, 129, 0), (13, 107, 220, 0), (13, 108, 130, 0), (13, 112, 221, 0), (13, 113, 131, 0), (13, 116, 226, 0), (13, 117, 132, 0), (13, 120, 228, 0), (13, 121, 133, 0), (13, 125, 229, 0), (13, 126, 134, 0), (13, 129, 230, 0), (13, 130, 135, 0), (13, 134, 232, 0), (13, 135, 136, 0), (13, 138, 234, 0), (13, 139, 137, 0), (13, 142, 237, 0), (13, 143, 138, 0), (13, 146, 238, 0), (13, 147, 139, 0), (13, 150, 241, 0), (13, 151, 140, 0), (13, 154, 242, 0), (13, 155, 141, 0), (13, 158, 243, 0), (13, 159, 142, 0), (13, 162, 244, 0), (13, 163, 143, 0), (13, 166, 245, 0), (13, 167, 144, 0), (13, 170, 246, 0), (13, 171, 145, 0), (13, 175, 247, 0), (13, 176, 146, 0), (13, 179, 248, 0), (13, 180, 147, 0), (13, 184, 250, 0), (13, 185, 148, 0), (13, 188, 251, 0), (13, 189, 149, 0), (13, 192, 252, 0), (13, 193, 150, 0), (13, 196, 253, 0), (13, 197, 151, 0), (13, 200, 254, 0), (13, 201, 152, 0), (13, 204, 255, 0), (13, 205, 153, 0), (13, 208, 256, 0), (13, 209, 154, 0), (13, 213, 257, 0), (13, 214, 155, 0), (13, 217, 260, 0), (13, 218, 156, 0), (13, 221, 261, 0), (13, 222, 157, 0), (13, 225, 262, 0), (13, 226, 158, 0), (13, 229, 263, 0), (13, 230, 159, 0), (13, 233, 264, 0), (13, 234, 160, 0), (13, 237, 265, 0)]
def ftab : List (Nat × Nat × Nat × Nat) := [(0, 11, 0, 0), (0, 17, 0, 1), (1, 11, 1, 0), (1, 15, 1, 1), (1, 18, 1, 2), (1, 21, 1, 3), (1, 24, 1, 4), (1, 27, 1, 5), (1, 30, 1, 6), (1, 33, 1, 7), (1, 36, 1, 9), (1, 40, 1, 10), (1, 47, 1, 11), (1, 60, 1, 8), (1, 83, 1, 12), (2, 11, 2, 0), (2, 15, 2, 1), (2, 18, 2, 2), (2, 21, 2, 3), (2, 24, 2, 4), (2, 27, 2, 5), (2, 31, 2, 6), (2, 34, 2, 10), (2, 38, 2, 11), (2, 41, 2, 12), (2, 47, 2, 8), (2, 50, 2, 7), (2, 75, 2, 9), (3, 9, 3, 2), (3, 15, 3, 6), (3, 18, 3, 3), (3, 21, 3, 4), (3, 32, 3, 0), (3, 35, 3, 1), (3, 38, 3, 5), (4, 13, 4, 0), (4, 16, 4, 1), (4, 20, 4, 2), (4, 23, 4, 3), (4, 26, 4, 4), (4, 29, 4, 5), (4, 32, 4, 6), (4, 39, 4, 7), (4, 43, 4, 8), (5, 9, 5, 0), (5, 15, 5, 1), (5, 19, 5, 2), (6, 11, 6, 0), (6, 23, 6, 1), (6, 33, 6, 2), (6, 59, 3, 0), (6, 65, 3, 1), (6, 76, 3, 2), (6, 79, 3, 3), (6, 82, 3, 4), (6, 91, 3, 5), (7, 13, 7, 0), (7, 16, 7, 1), (7, 20, 7, 2), (7, 23, 7, 3), (7, 30, 7, 4), (8, 9, 8, 0), (8, 15, 8, 1), (8, 18, 8, 2), (8, 21, 8, 3), (8, 24, 8, 4), (8, 32, 8, 5), (9, 11, 9, 0), (9, 15, 9, 1), (9, 18, 9, 2), (9, 21, 9, 3), (9, 24, 9, 4), (9, 27, 9, 5), (10, 11, 10, 0), (10, 15, 10, 1), (10, 18, 10, 2), (10, 21, 10, 3), (10, 24, 10, 4), (10, 27, 10, 5), (10, 30, 10, 6), (10, 34, 10, 7), (10, 37, 10, 8), (10, 40, 10, 9), (11, 12, 11, 0), (11, 21, 11, 1), (11, 28, 11, 2), (11, 35, 11, 3), (11, 42, 11, 4), (11, 49, 11, 5), (11, 56, 11, 6), (11, 63, 11, 7), (11, 70, 11, 8), (11, 77, 11, 9), (11, 81, 11, 10), (11, 89, 7, 3), (11, 97, 6, 2), (11, 112, 3, 6), (11, 117, 3, 0), (11, 120, 3, 1), (11, 123, 3, 2), (11, 126, 3, 3), (11, 129, 3, 4), (11, 132, 3, 5), (11, 162, 10, 8), (11, 205, 4, 6), (11, 292, 2, 0), (11, 295, 2, 1), (11, 298, 2, 2), (11, 301, 2, 3), (11, 304, 2, 4), (11, 316, 2, 9), (11, 343, 9, 0), (11, 346, 9, 1), (11, 349, 9, 2), (11, 352, 9, 3), (11, 355, 9, 4), (11, 376, 7, 4), (11, 379, 1, 0), (11, 385, 1, 12), (11, 388, 0, 1), (11, 391, 10, 9), (11, 392, 8, 5), (11, 393, 4, 7), (11, 396, 4, 8), (11, 399, 1, 9), (11, 400, 1, 10), (11, 403, 1, 11), (11, 406, 5, 2), (11, 407, 2, 7), (11, 410, 9, 5), (12, 9, 12, 2), (12, 13, 12, 3), (12, 16, 12, 4), (12, 19, 12, 6), (12, 22, 12, 7), (12, 25, 12, 8), (12, 28, 12, 9), (12, 31, 12, 10), (12, 34, 12, 11), (12, 37, 12, 12), (12, 40, 12, 17), (12, 43, 12, 18), (12, 46, 12, 19), (12, 49, 12, 20), (12, 52, 12, 21), (12, 55, 12, 22), (12, 58, 12, 23), (12, 61, 12, 24), (12, 64, 12, 26), (12, 67, 12, 28), (12, 70, 12, 29), (12, 73, 12, 30), (12, 76, 12, 32), (12, 79, 12, 33), (12, 82, 12, 35), (12, 85, 12, 36), (12, 88, 12, 37), (12, 91, 12, 38), (12, 94, 12, 39), (12, 97, 12, 41), (12, 100, 12, 42), (12, 103, 12, 45), (12, 106, 12, 46), (12, 109, 12, 47), (12, 113, 12, 48), (12, 116, 12, 49), (12, 119, 12, 57), (12, 122, 12, 58), (12, 125, 12, 59), (12, 129, 12, 60), (12, 132, 12, 62), (12, 135, 12, 63), (12, 138, 12, 64), (12, 141, 12, 65), (12, 144, 12, 66), (12, 147, 12, 68), (12, 150, 12, 69), (12, 153, 12, 70), (12, 156, 12, 72), (12, 159, 12, 73), (12, 162, 12, 74), (12, 165, 12, 75), (12, 168, 12, 76), (12, 171, 12, 0), (12, 184, 12, 13), (12, 187, 12, 14), (12, 194, 12, 15), (12, 226, 12, 5), (12, 255, 12, 16), (12, 264, 12, 25), (12, 270, 12, 27), (12, 279, 12, 31), (12, 282, 12, 34), (12, 303, 12, 40), (12, 306, 12, 43), (12, 309, 12, 44), (12, 322, 12, 50), (12, 325, 12, 51), (12, 331, 12, 52), (12, 334, 12, 53), (12, 337, 12, 54), (12, 340, 12, 55), (12, 355, 12, 56), (12, 370, 12, 61), (12, 379, 12, 67), (12, 385, 12, 71), (12, 392, 12, 1)]
def stab : List (Nat × Nat × Nat) := [(6, 52, 1), (6, 62, 2), (6, 88, 4), (6, 94, 3)]
def ntab : List (Nat × Nat × Nat) := [(6, 36, 3), (11, 9, 7), (11, 18, 6), (11, 25, 0), (11, 32, 10), (11, 39, 8), (11, 46, 4), (11, 53, 1), (11, 60, 5), (11, 67, 2), (11, 74, 9), (13, 7, 11), (13, 10, 12)]
def atab : List (Nat × Nat) := [(0, 9)]
def utab : List (Nat × Nat) := [(4, 11), (7, 11)]
def otab : List (Nat × Nat) := [(0, 3), (1, 3), (2, 3), (3, 3), (4, 3), (5, 3), (6, 3), (7, 3), (8, 3), (9, 3), (10, 3), (11, 3), (12, 1)]
def ytab : List (Nat × Nat) := [(4, 46), (6, 27), (7, 59)]
def ltab : List (Nat × Nat × Int32) := [(14, 265, 1431655765), (14, 266, 858993459), (14, 267, 252645135)]
def jtab : List (Nat × Nat) := [(2, 82), (11, 319), (12, 174)]
def xtab : List (Nat × Nat × Nat) := [(6, 17, 2), (9, 35, 1), (9, 41, 2), (10, 73, 2), (11, 329, 3)]
end
section
/-! words, by their places in the tables -/
def clT (c : Nat) : vw_C := vwCl.getD c (RX0, TX0, 0)
noncomputable def codeW (m : MI) : Cond := .code m.2.1 m.2.2.1 m.2.2.2.1 m.2.2.2.2.1
noncomputable def yM (M : Nat) : MethodName := (mi M).2.1
def flW (e : Nat × Nat × Nat × Nat) : Cond := .fieldLink (own e.1) e.2.1 ((clT e.2.2.1).2.1 e.2.2.2).1 ((clT e.2.2.1).2.1 e.2.2.2).2.1 ((clT e.2.2.1).2.1 e.2.2.2).2.2.1
noncomputable def mlW (e : Nat × Nat × Nat × Nat) : Cond := .methodLink (own e.1) e.2.1 (yM e.2.2.1)
def statN (k : Nat) : String := ["", "VERBS", "KINDS", "DIGITS", "LETTERS"].getD k ""
def virtM : List Nat := [1, 2, 3, 4, 6, 7, 8, 9, 10, 11, 12, 13, 14, 15, 16, 17, 18, 19, 20, 21, 22, 23, 24, 25, 26, 28, 29, 30, 31, 32, 33, 34, 35, 36, 37, 38, 41, 42, 45, 46, 47, 48, 49, 50, 51, 52, 53, 54, 55, 57, 58, 59, 60, 61, 62, 63, 64, 65, 67, 68, 69, 70, 71, 72, 73, 74, 75, 79, 80, 81, 82, 84, 85, 87, 88, 89, 90, 91, 92, 93, 95, 96, 97, 100, 101, 102, 103, 104, 105, 106, 108, 109, 110, 111, 112, 113, 114, 115, 116, 117, 118, 119, 120, 121, 122, 123, 124, 125, 126, 127, 128, 129, 130, 131, 132, 133, 134, 135, 136, 137, 138, 139, 140, 141, 142, 143, 144, 145, 146, 147, 148, 149, 150, 151, 152, 153, 154, 155, 156, 157, 158, 159, 160, 166, 167, 172, 175, 176, 177, 178, 179, 180, 181, 182, 183, 184, 185, 187, 188, 189, 190, 191, 192, 193, 194, 195, 196, 197, 198, 199, 200, 201, 202, 203, 204, 205, 206, 207, 208, 209, 210, 211, 212, 213, 214, 215, 216, 217, 218, 219, 220, 221, 222, 224, 225, 226, 227, 228, 229, 230, 231, 232, 233, 234, 236, 237, 238, 239, 240, 241, 242, 243, 244, 245, 246, 247, 248, 250, 251, 252, 253, 254, 255, 256, 257, 258, 259, 260, 261, 262, 263, 264, 265]
def statM : List Nat := [39, 44, 77, 78, 83, 98, 161, 162, 163, 164, 168, 169, 170, 171, 173, 174, 186, 223, 235, 249, 266, 270]
def specM : List Nat := [0, 5, 27, 40, 43, 56, 66, 76, 86, 94, 99, 107, 165]
noncomputable def WLa0 : List Cond := mtA0.map codeW
noncomputable def WLa1 : List Cond := mtA1.map codeW
noncomputable def WLa2 : List Cond := mtA2.map codeW
noncomputable def WLa3 : List Cond := mtA3.map codeW
noncomputable def WLa4 : List Cond := mtA4.map codeW
noncomputable def WLa5 : List Cond := mtA5.map codeW
noncomputable def WLa6 : List Cond := (mtA6.take 31).map codeW
noncomputable def WLb : List Cond := ftab.map flW
noncomputable def WLc : List Cond := (ctab.filter (fun e => Nat.ble e.2.2.2 2)).map mlW
noncomputable def WLd : List Cond := virtM.flatMap (fun M => [.instanceMethod (yM M), .selects (yM M).cls (yM M) (yM M)])
noncomputable def WLe : List Cond := statM.map (fun M => .static (yM M))
noncomputable def WLf : List Cond := specM.map (fun M => .instanceMethod (yM M))
def iniL : List String := ["DryLand$Act", "DryLand$Casks", "DryLand$Courts", "DryLand$Line", "DryLand$Nights", "DryLand$Papers", "DryLand$Reader", "DryLand$Sheets", "DryLand$Slips", "DryLand$Towns", "DryLand$Ways", "DryLand", "DryLandModel", "java/lang/Integer", "java/lang/Math", "java/util/Arrays", "java/lang/System"]
def WLg : List Cond := iniL.map (fun c => .initialized c)
def WLh : List Cond := ntab.flatMap (fun e => [.classLink (own e.1) e.2.1 (clT e.2.2).1, .instantiable (clT e.2.2).1 (clT e.2.2).2.2])
def WLi : List Cond := (List.range 13).flatMap (fun c => u_ws (clT c).1 (clT c).2.1 (clT c).2.2)
def WLj : List Cond := otab.map (fun e => .methodLink (own e.1) e.2 objectInit) ++ [.instanceMethod objectInit, .code objectInit ⟨#[0xb1]⟩ 1 none]
def WLk : List Cond := ytab.map (fun e => .methodLink (own e.1) e.2 arraycopyName) ++ [.native arraycopyName, .static arraycopyName]
def WLl : List Cond := ltab.map (fun e => .constant (own e.1) e.2.1 e.2.2) ++ jtab.map (fun e => .constantLong (own e.1) e.2 vLOST)
def WLm : List Cond := [.arrayClass .int, .arrayClass .boolean] ++ (atab.map (fun e => .classLink (own e.1) e.2 "DryLand$Line") ++ (utab.map (fun e => .classLink (own e.1) e.2 "[[I") ++ stab.map (fun e => .fieldLink (own e.1) e.2.1 "DryLand$Reader" (statN e.2.2) "[I")))
noncomputable def WLx : List Cond := xtab.map (fun e => .methodLink (own e.1) e.2.1 (yM (match e.2.2 with | 1 => 268 | 2 => 269 | _ => 267))) ++ [.static (yM 267), .static (yM 268), .static (yM 269)]
noncomputable def WL : List Cond := WLa0 ++ (WLa1 ++ (WLa2 ++ (WLa3 ++ (WLa4 ++ (WLa5 ++ (WLa6 ++ (WLb ++ (WLc ++ (WLd ++ (WLe ++ (WLf ++ (WLg ++ (WLh ++ (WLi ++ (WLj ++ (WLk ++ (WLx ++ (WLl ++ WLm))))))))))))))))))
def plc (ps : List Nat) : List Cond := ps.filterMap (fun i => lw_tbl[i]?)
theorem plc_in {ws : List Cond} {ps : List Nat} (h : ws = plc ps) : ∀ w ∈ ws, w ∈ lw_tbl := by
  intro w hw
  rw [h] at hw
  obtain ⟨i, -, hi⟩ := List.mem_filterMap.mp hw
  exact List.mem_of_getElem? hi
set_option maxRecDepth 100000 in
theorem WLa0_p : WLa0 = plc [111, 533, 541, 565, 583, 231, 757, 765, 778, 773, 782, 794, 799, 807, 803, 811, 825, 821, 830, 838, 1080, 1072, 1088, 1084, 1076, 1092, 1100, 299, 914, 939, 947, 918, 923, 927, 931, 956, 964, 972, 981, 984] := by rfl
set_option maxRecDepth 100000 in
theorem WLa0_g : WLa0.all goodWord = true := by decide +kernel
set_option maxRecDepth 100000 in
theorem WLa1_p : WLa1 = plc [453, 573, 569, 193, 682, 744, 716, 687, 708, 720, 692, 696, 700, 736, 732, 748, 282, 848, 856, 864, 869, 890, 873, 881, 894, 904, 94, 444, 493, 509, 519, 523, 527, 513, 503, 499, 67, 423, 429, 437] := by rfl
set_option maxRecDepth 100000 in
theorem WLa1_g : WLa1.all goodWord = true := by decide +kernel
set_option maxRecDepth 100000 in
theorem WLa2_p : WLa2 = plc [1039, 1049, 1057, 1060, 420, 433, 167, 638, 646, 651, 659, 663, 671, 675, 352, 1007, 1015, 1020, 1027, 127, 592, 604, 629, 600, 609, 617, 621, 59, 416, 537, 550, 554, 558, 579, 588, 596, 625, 634, 642, 655] := by rfl
set_option maxRecDepth 100000 in
theorem WLa2_g : WLa2.all goodWord = true := by decide +kernel
set_option maxRecDepth 100000 in
theorem WLa3_p : WLa3 = plc [667, 679, 704, 712, 724, 728, 740, 753, 761, 769, 786, 790, 834, 844, 852, 860, 877, 886, 900, 910, 935, 943, 952, 960, 968, 976, 989, 993, 1003, 1011, 1031, 1035, 1044, 1053, 1064, 1068, 1096, 1104, 1109, 1113] := by rfl
set_option maxRecDepth 100000 in
theorem WLa3_g : WLa3.all goodWord = true := by decide +kernel
set_option maxRecDepth 100000 in
theorem WLa4_p : WLa4 = plc [1117, 426, 545, 561, 996, 1122, 1376, 1714, 1365, 1413, 1362, 1368, 1372, 1387, 1398, 1384, 1391, 1395, 1380, 1402, 1359, 1410, 1406, 1417, 1436, 1432, 1424, 1428, 1421, 1440, 1444, 1448, 1460, 1456, 1452, 1464, 1476, 1468, 1472, 1480] := by rfl
set_option maxRecDepth 100000 in
theorem WLa4_g : WLa4.all goodWord = true := by decide +kernel
set_option maxRecDepth 100000 in
theorem WLa5_p : WLa5 = plc [1488, 1484, 1496, 1492, 1500, 1508, 1504, 1524, 1520, 1516, 1512, 1532, 1536, 1528, 1540, 1560, 1556, 1544, 1548, 1564, 1552, 1568, 1580, 1587, 1584, 1576, 1572, 1595, 1591, 1599, 1603, 1611, 1607, 1619, 1615, 1630, 1627, 1623, 1634, 1646] := by rfl
set_option maxRecDepth 100000 in
theorem WLa5_g : WLa5.all goodWord = true := by decide +kernel
set_option maxRecDepth 100000 in
theorem WLa6_p : WLa6 = plc [1642, 1638, 1650, 1654, 1658, 1662, 1666, 1670, 1675, 1682, 1679, 1686, 1690, 1694, 1698, 1702, 1706, 1710, 1722, 1726, 1718, 1730, 1734, 1738, 1742, 1746, 814, 999, 1023, 447, 612] := by rfl
set_option maxRecDepth 100000 in
theorem WLa6_g : WLa6.all goodWord = true := by decide +kernel
set_option maxRecDepth 100000 in
theorem WLb_p : WLb = plc [115, 116, 233, 235, 236, 237, 238, 239, 240, 241, 243, 245, 247, 242, 249, 301, 303, 305, 307, 309, 311, 312, 318, 319, 320, 315, 313, 316, 461, 473, 464, 467, 456, 458, 470, 196, 197, 198, 199, 200, 201, 202, 204, 206, 284, 285, 286, 96, 97, 98, 455, 459, 462, 466, 469, 472, 71, 72, 73, 74, 76, 169, 170, 171, 172, 173, 174, 354, 356, 358, 360, 362, 364, 129, 130, 131, 132, 133, 134, 135, 136, 137, 139, 379, 380, 381, 382, 383, 384, 385, 386, 387, 388, 389, 75, 99, 474, 457, 460, 463, 465, 468, 471, 138, 203, 302, 304, 306, 308, 310, 317, 355, 357, 359, 361, 363, 77, 234, 250, 117, 140, 175, 205, 207, 244, 246, 248, 287, 314, 365, 1126, 1127, 1128, 1130, 1131, 1132, 1133, 1134, 1135, 1136, 1141, 1142, 1143, 1144, 1145, 1146, 1147, 1148, 1150, 1152, 1153, 1154, 1156, 1157, 1159, 1160, 1161, 1162, 1163, 1165, 1166, 1169, 1170, 1171, 1172, 1173, 1181, 1182, 1183, 1184, 1186, 1187, 1188, 1189, 1190, 1192, 1193, 1194, 1196, 1197, 1198, 1199, 1200, 1124, 1137, 1138, 1139, 1129, 1140, 1149, 1151, 1155, 1158, 1164, 1167, 1168, 1174, 1175, 1176, 1177, 1178, 1179, 1180, 1185, 1191, 1195, 1125] := by rfl
set_option maxRecDepth 100000 in
theorem WLb_g : WLb.all goodWord = true := by decide +kernel
set_option maxRecDepth 100000 in
theorem WLc_p : WLc = plc [566, 584, 795, 796, 804, 812, 822, 839, 840, 1073, 1081, 1085, 1077, 1089, 915, 919, 920, 924, 928, 982, 570, 689, 693, 697, 733, 749, 882, 895, 896, 905, 906, 490, 506, 516, 520, 496, 500, 510, 524, 421, 427, 434, 1040, 1058, 430, 660, 672, 1025, 605, 601, 630, 606, 614, 610, 618, 417, 441, 530, 538, 543, 555, 559, 562, 580, 546, 589, 597, 626, 635, 643, 648, 656, 668, 680, 684, 705, 713, 717, 729, 741, 745, 754, 762, 770, 775, 779, 791, 800, 808, 818, 826, 827, 835, 845, 853, 861, 866, 870, 878, 887, 891, 901, 911, 936, 944, 953, 961, 969, 978, 994, 1004, 1012, 1017, 1036, 1045, 1046, 1054, 1069, 1097, 1105, 1363, 1373, 1381, 1385, 1388, 1392, 1396, 1360, 1366, 1369, 1377, 1399, 1407, 1411, 1433, 1429, 1422, 1425, 1457, 1453, 1473, 1485, 1493, 1505, 1521, 1517, 1513, 1529, 1533, 1553, 1557, 1561, 1577, 1581, 1585, 1573, 1592, 1608, 1616, 1628, 1624, 1643, 1639, 1680, 1711, 1719, 1723, 57, 1120, 413, 1356, 534, 1403, 547, 1414, 551, 1418, 575, 1437, 576, 1441, 585, 1445, 593, 1449, 622, 1461, 631, 1465, 639, 1469, 652, 1477, 664, 1481, 676, 1489, 701, 1497, 709, 1501, 721, 1509, 725, 1525, 737, 1537, 750, 1541, 758, 1545, 766, 1549, 783, 1565, 787, 1569, 831, 1588, 841, 1596, 849, 1600, 857, 1604, 874, 1612, 883, 1620, 897, 1631, 907, 1635, 932, 1647, 940, 1651, 949, 1655, 957, 1659, 965, 1663, 973, 1667, 986, 1672, 990, 1676, 1000, 1683, 1008, 1687, 1028, 1691, 1032, 1695, 1041, 1699, 1050, 1703, 1061, 1707, 1065, 1715, 1093, 1727, 1101, 1731, 1106, 1735, 1110, 1739, 1114, 1743] := by rfl
set_option maxRecDepth 100000 in
theorem WLc_g : WLc.all goodWord = true := by decide +kernel
set_option maxRecDepth 100000 in
theorem WLd_p : WLd = plc [531, 532, 539, 540, 563, 564, 581, 582, 755, 756, 763, 764, 776, 777, 771, 772, 780, 781, 792, 793, 797, 798, 805, 806, 801, 802, 809, 810, 823, 824, 819, 820, 828, 829, 836, 837, 1078, 1079, 1070, 1071, 1086, 1087, 1082, 1083, 1074, 1075, 1090, 1091, 1098, 1099, 912, 913, 937, 938, 945, 946, 916, 917, 921, 922, 925, 926, 929, 930, 954, 955, 962, 963, 970, 971, 979, 980, 571, 572, 567, 568, 742, 743, 714, 715, 685, 686, 706, 707, 718, 719, 690, 691, 694, 695, 698, 699, 734, 735, 730, 731, 746, 747, 846, 847, 854, 855, 862, 863, 867, 868, 888, 889, 871, 872, 879, 880, 892, 893, 902, 903, 442, 443, 491, 492, 507, 508, 517, 518, 521, 522, 525, 526, 511, 512, 501, 502, 497, 498, 435, 436, 1037, 1038, 1047, 1048, 1055, 1056, 418, 419, 431, 432, 636, 637, 644, 645, 649, 650, 657, 658, 661, 662, 669, 670, 673, 674, 1005, 1006, 1013, 1014, 1018, 1019, 590, 591, 602, 603, 627, 628, 598, 599, 607, 608, 615, 616, 619, 620, 414, 415, 535, 536, 548, 549, 552, 553, 556, 557, 577, 578, 586, 587, 594, 595, 623, 624, 632, 633, 640, 641, 653, 654, 665, 666, 677, 678, 702, 703, 710, 711, 722, 723, 726, 727, 738, 739, 751, 752, 759, 760, 767, 768, 784, 785, 788, 789, 832, 833, 842, 843, 850, 851, 858, 859, 875, 876, 884, 885, 898, 899, 908, 909, 933, 934, 941, 942, 950, 951, 958, 959, 966, 967, 974, 975, 987, 988, 991, 992, 1001, 1002, 1009, 1010, 1029, 1030, 1033, 1034, 1042, 1043, 1051, 1052, 1062, 1063, 1066, 1067, 1094, 1095, 1102, 1103, 1107, 1108, 1111, 1112, 1115, 1116, 1375, 1, 1713, 34, 1371, 0, 1383, 3, 1390, 4, 1394, 5, 1379, 2, 1401, 6, 1357, 1358, 1409, 7, 1404, 1405, 1415, 1416, 1435, 10, 1431, 9, 1427, 8, 1419, 1420, 1438, 1439, 1442, 1443, 1446, 1447, 1459, 12, 1455, 11, 1450, 1451, 1462, 1463, 1475, 13, 1466, 1467, 1470, 1471, 1478, 1479, 1487, 14, 1482, 1483, 1495, 15, 1490, 1491, 1498, 1499, 1507, 16, 1502, 1503, 1523, 19, 1519, 18, 1515, 17, 1510, 1511, 1531, 20, 1535, 21, 1526, 1527, 1538, 1539, 1559, 23, 1555, 22, 1542, 1543, 1546, 1547, 1563, 24, 1550, 1551, 1566, 1567, 1579, 26, 1583, 27, 1575, 25, 1570, 1571, 1594, 28, 1589, 1590, 1597, 1598, 1601, 1602, 1610, 29, 1605, 1606, 1618, 30, 1613, 1614, 1626, 31, 1621, 1622, 1632, 1633, 1645, 33, 1641, 32, 1636, 1637, 1648, 1649, 1652, 1653, 1656, 1657, 1660, 1661, 1664, 1665, 1668, 1669, 1673, 1674, 1677, 1678, 1684, 1685, 1688, 1689, 1692, 1693, 1696, 1697, 1700, 1701, 1704, 1705, 1708, 1709, 1721, 35, 1725, 36, 1716, 1717, 1728, 1729, 1732, 1733, 1736, 1737, 1740, 1741, 1744, 1745] := by rfl
set_option maxRecDepth 100000 in
theorem WLd_g : WLd.all goodWord = true := by decide +kernel
set_option maxRecDepth 100000 in
theorem WLe_p : WLe = plc [983, 681, 422, 428, 1059, 1026, 425, 544, 560, 995, 1364, 1412, 1361, 1367, 1386, 1397, 1423, 1586, 1629, 1681, 813, 611] := by rfl
set_option maxRecDepth 100000 in
theorem WLe_g : WLe.all goodWord = true := by decide +kernel
set_option maxRecDepth 100000 in
theorem WLf_p : WLf = plc [110, 230, 298, 452, 192, 281, 93, 66, 166, 351, 126, 58, 1121] := by rfl
set_option maxRecDepth 100000 in
theorem WLf_g : WLf.all goodWord = true := by decide +kernel
set_option maxRecDepth 100000 in
theorem WLg_p : WLg = plc [41, 45, 47, 52, 44, 46, 40, 39, 43, 48, 42, 38, 49, 54, 51, 53, 50] := by rfl
set_option maxRecDepth 100000 in
theorem WLg_g : WLg.all goodWord = true := by decide +kernel
set_option maxRecDepth 100000 in
theorem WLh_p : WLh = plc [449, 450, 63, 64, 90, 91, 107, 108, 123, 124, 163, 164, 189, 190, 227, 228, 278, 279, 295, 296, 348, 349, 55, 56, 1118, 1119] := by rfl
set_option maxRecDepth 100000 in
theorem WLh_g : WLh.all goodWord = true := by decide +kernel
set_option maxRecDepth 100000 in
theorem WLi_p : WLi = plc [118, 120, 251, 253, 255, 257, 259, 261, 263, 265, 267, 269, 271, 273, 275, 321, 323, 325, 327, 329, 331, 333, 335, 337, 339, 341, 343, 345, 475, 477, 479, 481, 483, 485, 487, 208, 210, 212, 214, 216, 218, 220, 222, 224, 288, 290, 292, 100, 102, 104, 78, 80, 82, 84, 86, 176, 178, 180, 182, 184, 186, 366, 368, 370, 372, 374, 376, 141, 143, 145, 147, 149, 151, 153, 155, 157, 159, 390, 392, 394, 396, 398, 400, 402, 404, 406, 408, 410, 1201, 1203, 1205, 1207, 1209, 1211, 1213, 1215, 1217, 1219, 1221, 1223, 1225, 1227, 1229, 1231, 1233, 1235, 1237, 1239, 1241, 1243, 1245, 1247, 1249, 1251, 1253, 1255, 1257, 1259, 1261, 1263, 1265, 1267, 1269, 1271, 1273, 1275, 1277, 1279, 1281, 1283, 1285, 1287, 1289, 1291, 1293, 1295, 1297, 1299, 1301, 1303, 1305, 1307, 1309, 1311, 1313, 1315, 1317, 1319, 1321, 1323, 1325, 1327, 1329, 1331, 1333, 1335, 1337, 1339, 1341, 1343, 1345, 1347, 1349, 1351, 1353] := by rfl
set_option maxRecDepth 100000 in
theorem WLi_g : WLi.all goodWord = true := by decide +kernel
set_option maxRecDepth 100000 in
theorem WLj_p : WLj = plc [112, 232, 300, 454, 194, 283, 95, 68, 168, 353, 128, 60, 1123, 61, 62] := by rfl
set_option maxRecDepth 100000 in
theorem WLj_g : WLj.all goodWord = true := by decide +kernel
set_option maxRecDepth 100000 in
theorem WLk_p : WLk = plc [688, 448, 438, 440, 439] := by rfl
set_option maxRecDepth 100000 in
theorem WLk_g : WLk.all goodWord = true := by decide +kernel
set_option maxRecDepth 100000 in
theorem WLx_p : WLx = plc [445, 1021, 1024, 613, 997, 998, 1022, 446] := by rfl
set_option maxRecDepth 100000 in
theorem WLx_g : WLx.all goodWord = true := by decide +kernel
set_option maxRecDepth 100000 in
theorem WLl_p : WLl = plc [815, 816, 817, 985, 977, 1671] := by rfl
set_option maxRecDepth 100000 in
theorem WLl_g : WLl.all goodWord = true := by decide +kernel
set_option maxRecDepth 100000 in
theorem WLm_p : WLm = plc [89, 162, 113, 195, 69, 494, 504, 528, 514] := by rfl
set_option maxRecDepth 100000 in
theorem WLm_g : WLm.all goodWord = true := by decide +kernel
theorem WL_in : ∀ w ∈ WL, w ∈ lw_tbl := by
  intro w hw
  unfold WL at hw
  simp only [List.mem_append] at hw
  rcases hw with h | h | h | h | h | h | h | h | h | h | h | h | h | h | h | h | h | h | h | h
  · exact plc_in WLa0_p w h
  · exact plc_in WLa1_p w h
  · exact plc_in WLa2_p w h
  · exact plc_in WLa3_p w h
  · exact plc_in WLa4_p w h
  · exact plc_in WLa5_p w h
  · exact plc_in WLa6_p w h
  · exact plc_in WLb_p w h
  · exact plc_in WLc_p w h
  · exact plc_in WLd_p w h
  · exact plc_in WLe_p w h
  · exact plc_in WLf_p w h
  · exact plc_in WLg_p w h
  · exact plc_in WLh_p w h
  · exact plc_in WLi_p w h
  · exact plc_in WLj_p w h
  · exact plc_in WLk_p w h
  · exact plc_in WLx_p w h
  · exact plc_in WLl_p w h
  · exact plc_in WLm_p w h
theorem WL_good : ∀ w ∈ WL, (w.onTables && w.keeps) = true ∨ ∃ ty, w = .arrayClass ty := by
  intro w hw
  unfold WL at hw
  simp only [List.mem_append] at hw
  rcases hw with h | h | h | h | h | h | h | h | h | h | h | h | h | h | h | h | h | h | h | h
  · exact good_of_word (List.all_eq_true.mp WLa0_g w h)
  · exact good_of_word (List.all_eq_true.mp WLa1_g w h)
  · exact good_of_word (List.all_eq_true.mp WLa2_g w h)
  · exact good_of_word (List.all_eq_true.mp WLa3_g w h)
  · exact good_of_word (List.all_eq_true.mp WLa4_g w h)
  · exact good_of_word (List.all_eq_true.mp WLa5_g w h)
  · exact good_of_word (List.all_eq_true.mp WLa6_g w h)
  · exact good_of_word (List.all_eq_true.mp WLb_g w h)
  · exact good_of_word (List.all_eq_true.mp WLc_g w h)
  · exact good_of_word (List.all_eq_true.mp WLd_g w h)
  · exact good_of_word (List.all_eq_true.mp WLe_g w h)
  · exact good_of_word (List.all_eq_true.mp WLf_g w h)
  · exact good_of_word (List.all_eq_true.mp WLg_g w h)
  · exact good_of_word (List.all_eq_true.mp WLh_g w h)
  · exact good_of_word (List.all_eq_true.mp WLi_g w h)
  · exact good_of_word (List.all_eq_true.mp WLj_g w h)
  · exact good_of_word (List.all_eq_true.mp WLk_g w h)
  · exact good_of_word (List.all_eq_true.mp WLx_g w h)
  · exact good_of_word (List.all_eq_true.mp WLl_g w h)
  · exact good_of_word (List.all_eq_true.mp WLm_g w h)
end
section
/-! the static check of each instruction -/
def in4 : List (Nat × Nat × Nat × Nat) → Nat → Nat → Nat → Nat → Bool
  | [], _, _, _, _ => false
  | (a, b, c, d) :: t, x, y, z, w => (Nat.beq a x && (Nat.beq b y && (Nat.beq c z && Nat.beq d w))) || in4 t x y z w
def in3 : List (Nat × Nat × Nat) → Nat → Nat → Nat → Bool
  | [], _, _, _ => false
  | (a, b, c) :: t, x, y, z => (Nat.beq a x && (Nat.beq b y && Nat.beq c z)) || in3 t x y z
def in2 : List (Nat × Nat) → Nat → Nat → Bool
  | [], _, _ => false
  | (a, b) :: t, x, y => (Nat.beq a x && Nat.beq b y) || in2 t x y
def inL : List (Nat × Nat × Int32) → Nat → Nat → Int32 → Bool
  | [], _, _, _ => false
  | (a, b, c) :: t, x, y, z => (Nat.beq a x && (Nat.beq b y && decide (c = z))) || inL t x y z
theorem nbeq {a b : Nat} (h : Nat.beq a b = true) : a = b := Nat.eq_of_beq_eq_true h
theorem in4_mem : ∀ {l : List (Nat × Nat × Nat × Nat)} {x y z w : Nat}, in4 l x y z w = true → (x, y, z, w) ∈ l
  | [], _, _, _, _, h => by cases h
  | (a, b, c, d) :: t, x, y, z, w, h => by
    unfold in4 at h
    rcases Bool.or_eq_true _ _ ▸ h with h | h
    · simp only [Bool.and_eq_true] at h
      obtain ⟨h1, h2, h3, h4⟩ := h
      rw [nbeq h1, nbeq h2, nbeq h3, nbeq h4]
      exact List.mem_cons_self
    · exact List.mem_cons_of_mem _ (in4_mem h)
theorem in3_mem : ∀ {l : List (Nat × Nat × Nat)} {x y z : Nat}, in3 l x y z = true → (x, y, z) ∈ l
  | [], _, _, _, h => by cases h
  | (a, b, c) :: t, x, y, z, h => by
    unfold in3 at h
    rcases Bool.or_eq_true _ _ ▸ h with h | h
    · simp only [Bool.and_eq_true] at h
      obtain ⟨h1, h2, h3⟩ := h
      rw [nbeq h1, nbeq h2, nbeq h3]
      exact List.mem_cons_self
    · exact List.mem_cons_of_mem _ (in3_mem h)
theorem in2_mem : ∀ {l : List (Nat × Nat)} {x y : Nat}, in2 l x y = true → (x, y) ∈ l
  | [], _, _, h => by cases h
  | (a, b) :: t, x, y, h => by
    unfold in2 at h
    rcases Bool.or_eq_true _ _ ▸ h with h | h
    · simp only [Bool.and_eq_true] at h
      obtain ⟨h1, h2⟩ := h
      rw [nbeq h1, nbeq h2]
      exact List.mem_cons_self
    · exact List.mem_cons_of_mem _ (in2_mem h)
theorem inL_mem : ∀ {l : List (Nat × Nat × Int32)} {x y : Nat} {z : Int32}, inL l x y z = true → (x, y, z) ∈ l
  | [], _, _, _, h => by cases h
  | (a, b, c) :: t, x, y, z, h => by
    unfold inL at h
    rcases Bool.or_eq_true _ _ ▸ h with h | h
    · simp only [Bool.and_eq_true, decide_eq_true_eq] at h
      obtain ⟨h1, h2, h3⟩ := h
      rw [nbeq h1, nbeq h2, h3]
      exact List.mem_cons_self
    · exact List.mem_cons_of_mem _ (inL_mem h)
def rkOf (r : Option FieldType) : Nat := match r with
  | none => 0
  | some .int => 1
  | some .boolean => 1
  | some .long => 2
  | _ => 3
def isSt (M : Nat) : List Nat → Bool
  | [] => false
  | a :: t => Nat.beq a M || isSt M t
noncomputable def chkC (F Lc M' na rk mx : Nat) : Bool := Nat.beq (mi M').2.2.2.1 mx && (Nat.beq (mi M').2.2.2.2.2.1 na && (Nat.beq (rkOf (mi M').2.2.2.2.1) rk && (Nat.ble ((mi M').2.2.2.2.2.2.1 + 1) F && (Nat.ble (8 + ((mi M').2.2.2.1 + 11) + (mi M').2.2.2.2.2.2.2) Lc && (Nat.blt M' 271 && !(Nat.beq (mi M').1 15))))))
noncomputable def chkI (oc maxL F Lc : Nat) (ret : Option FieldType) (isInit : Bool) (pc : Nat) (ai : AI) : Bool := match ai.1 with
  | .iconst n => Nat.beq ai.2.1 1 && decide (Int32.ofInt n = kv ai.2.2.2)
  | .bipush n => Nat.beq ai.2.1 2 && decide ((Int8.ofInt n).toInt32 = kv ai.2.2.2)
  | .sipush n => Nat.beq ai.2.1 3 && decide ((Int16.ofInt n).toInt32 = kv ai.2.2.2)
  | .ldc_w ix => Nat.beq ai.2.1 3 && inL ltab oc ix (kv ai.2.2.2)
  | .lconst n => Nat.beq ai.2.1 1 && Nat.beq (ax ai.2.2.1 0) n.val
  | .ldc2_w ix => Nat.beq ai.2.1 3 && in2 jtab oc ix
  | .aconst_null => Nat.beq ai.2.1 1
  | .iload i => Nat.beq ai.2.1 2 && Nat.beq (ax ai.2.2.1 0) i
  | .lload i => Nat.beq ai.2.1 2 && Nat.beq (ax ai.2.2.1 0) i
  | .aload i => Nat.beq ai.2.1 2 && Nat.beq (ax ai.2.2.1 0) i
  | .iload_n i => Nat.beq ai.2.1 1 && Nat.beq (ax ai.2.2.1 0) i.val
  | .lload_n i => Nat.beq ai.2.1 1 && Nat.beq (ax ai.2.2.1 0) i.val
  | .aload_n i => Nat.beq ai.2.1 1 && Nat.beq (ax ai.2.2.1 0) i.val
  | .istore i => Nat.beq ai.2.1 2 && (Nat.beq (ax ai.2.2.1 0) i && Nat.blt i maxL)
  | .lstore i => Nat.beq ai.2.1 2 && (Nat.beq (ax ai.2.2.1 0) i && Nat.blt (i + 1) maxL)
  | .astore i => Nat.beq ai.2.1 2 && (Nat.beq (ax ai.2.2.1 0) i && Nat.blt i maxL)
  | .istore_n i => Nat.beq ai.2.1 1 && (Nat.beq (ax ai.2.2.1 0) i.val && Nat.blt i.val maxL)
  | .lstore_n i => Nat.beq ai.2.1 1 && (Nat.beq (ax ai.2.2.1 0) i.val && Nat.blt (i.val + 1) maxL)
  | .astore_n i => Nat.beq ai.2.1 1 && (Nat.beq (ax ai.2.2.1 0) i.val && Nat.blt i.val maxL)
  | .iinc i n => Nat.beq ai.2.1 3 && (Nat.beq (ax ai.2.2.1 0) i && (Nat.blt i maxL && decide (Int32.ofInt n = kv ai.2.2.2)))
  | .iadd | .isub | .imul | .iand | .ior | .ixor | .idiv | .irem | .ineg | .ishl | .ishr | .iushr | .i2l | .i2b | .i2s | .lmul | .lsub | .ldiv | .lrem | .lcmp | .dup | .dup2 => Nat.beq ai.2.1 1
  | .arraylength | .iaload | .baload | .aaload | .iastore | .bastore | .aastore => Nat.beq ai.2.1 1
  | .ifCond _ off => Nat.beq ai.2.1 3 && decide ((pc : Int) + off = (ax ai.2.2.1 0 : Int))
  | .if_icmp _ off => Nat.beq ai.2.1 3 && decide ((pc : Int) + off = (ax ai.2.2.1 0 : Int))
  | .ifnull off => Nat.beq ai.2.1 3 && decide ((pc : Int) + off = (ax ai.2.2.1 0 : Int))
  | .ifnonnull off => Nat.beq ai.2.1 3 && decide ((pc : Int) + off = (ax ai.2.2.1 0 : Int))
  | .goto off => Nat.beq ai.2.1 3 && decide ((pc : Int) + off = (ax ai.2.2.1 0 : Int))
  | .tableswitch d lo hi offs => decide ((pc : Int) + d = (ax ai.2.2.1 0 : Int)) && (decide (lo + offs.size = hi + 1) && (decide (0 ≤ lo) && (decide (hi < 1000) && decide (ai.2.2.2 = offs.toList.mapIdx (fun j o => (Int32.ofInt (lo + j), ((pc : Int) + o).toNat)) ∧ ∀ o ∈ offs.toList, 0 ≤ (pc : Int) + o))))
  | .lookupswitch d ps => decide ((pc : Int) + d = (ax ai.2.2.1 0 : Int)) && ((ps.toList.zip (ps.toList.drop 1)).all (fun (a, next) => a.1 < next.1) && decide (ai.2.2.2 = ps.toList.map (fun o => (Int32.ofInt o.1, ((pc : Int) + o.2).toNat)) ∧ ∀ o ∈ ps.toList, 0 ≤ (pc : Int) + o.2 ∧ 0 ≤ o.1 ∧ o.1 < 1000))
  | .getstatic ix => Nat.beq ai.2.1 3 && (in3 stab oc ix (ax ai.2.2.1 0) && (Nat.blt 0 (ax ai.2.2.1 0) && Nat.blt (ax ai.2.2.1 0) 5))
  | .getfield ix => Nat.beq ai.2.1 3 && (in4 ftab oc ix (ax ai.2.2.1 0) (ax ai.2.2.1 1) && (Nat.blt (ax ai.2.2.1 0) 13 && (Nat.blt (ax ai.2.2.1 1) (clT (ax ai.2.2.1 0)).2.2 && Nat.beq (gn (gll ftT (ax ai.2.2.1 0)) (ax ai.2.2.1 1)) (ax ai.2.2.1 2))))
  | .putfield ix => Nat.beq ai.2.1 3 && (in4 ftab oc ix (ax ai.2.2.1 0) (ax ai.2.2.1 1) && (Nat.blt (ax ai.2.2.1 0) 13 && (Nat.blt (ax ai.2.2.1 1) (clT (ax ai.2.2.1 0)).2.2 && (Nat.beq (gn (gll ftT (ax ai.2.2.1 0)) (ax ai.2.2.1 1)) (ax ai.2.2.1 2) &&
      (!((clT (ax ai.2.2.1 0)).2.1 (ax ai.2.2.1 1)).2.2.2 || (isInit && Nat.beq (ax ai.2.2.1 0) oc))))))
  | .new ix => Nat.beq ai.2.1 3 && (in3 ntab oc ix (ax ai.2.2.1 0) && Nat.blt (ax ai.2.2.1 0) 13)
  | .newarray t => Nat.beq ai.2.1 2 && ((Nat.beq (ax ai.2.2.1 0) 0 && decide (t = .int)) || (Nat.beq (ax ai.2.2.1 0) 1 && decide (t = .boolean)))
  | .anewarray ix => Nat.beq ai.2.1 3 && in2 atab oc ix
  | .multianewarray ix d => Nat.beq ai.2.1 4 && (in2 utab oc ix && Nat.beq d 2)
  | .invokevirtual ix => Nat.beq ai.2.1 3 && (in4 ctab oc ix (ax ai.2.2.1 0) 0 && (chkC F Lc (ax ai.2.2.1 0) (ax ai.2.2.1 1) (ax ai.2.2.1 2) (ax ai.2.2.1 4) && (Nat.beq (mi (ax ai.2.2.1 0)).1 (ax ai.2.2.1 3) && (Nat.blt (ax ai.2.2.1 3) 13 && Nat.blt 0 (ax ai.2.2.1 1)))))
  | .invokestatic ix => match ai.2.2.1 with
    | [] => Nat.beq ai.2.1 3 && (in2 ytab oc ix && (Nat.ble 1 F && Nat.ble 26 Lc))
    | [1] => Nat.beq ai.2.1 3 && (in3 xtab oc ix 1 && (Nat.ble 1 F && Nat.ble 21 Lc))
    | [2] => Nat.beq ai.2.1 3 && (in3 xtab oc ix 2 && (Nat.ble 1 F && Nat.ble 21 Lc))
    | [3] => Nat.beq ai.2.1 3 && (in3 xtab oc ix 3 && (Nat.ble 1 F && Nat.ble 21 Lc))
    | _ => Nat.beq ai.2.1 3 && ((in4 ctab oc ix (ax ai.2.2.1 0) 1 || in4 ctab oc ix (ax ai.2.2.1 0) 3) && chkC F Lc (ax ai.2.2.1 0) (ax ai.2.2.1 1) (ax ai.2.2.1 2) (ax ai.2.2.1 4))
  | .invokespecial ix => match ai.2.2.1 with
    | [] => Nat.beq ai.2.1 3 && (in2 otab oc ix && (Nat.ble 1 F && Nat.ble 20 Lc))
    | _ => Nat.beq ai.2.1 3 && ((in4 ctab oc ix (ax ai.2.2.1 0) 2 || in4 ctab oc ix (ax ai.2.2.1 0) 4) && (chkC F Lc (ax ai.2.2.1 0) (ax ai.2.2.1 1) 0 (ax ai.2.2.1 4) && Nat.blt 0 (ax ai.2.2.1 1)))
  | .ireturn => Nat.beq ai.2.1 1 && ((Nat.beq (ax ai.2.2.1 0) 0 && decide (ret = some .int)) || (Nat.beq (ax ai.2.2.1 0) 1 && decide (ret = some .boolean)))
  | .lreturn => Nat.beq ai.2.1 1 && decide (ret = some .long)
  | .areturn => Nat.beq ai.2.1 1 && decide (ret = some (.object "DryLand$Line"))
  | .return_ => Nat.beq ai.2.1 1 && decide (ret = none)
  | _ => true
noncomputable def chkQ (m : MI) (q : Nat × AI) : Bool := decide (decode m.2.2.1 q.1 = .ok (q.2.1, q.2.2.1)) && chkI m.1 m.2.2.2.1 m.2.2.2.2.2.2.1 m.2.2.2.2.2.2.2 m.2.2.2.2.1 (decide (m.2.1.name = "<init>")) q.1 q.2
noncomputable def chkM (M : Nat) : Bool := (cdT M).all (chkQ (mi M))
/-- of a method's name and kinds of its places -/
noncomputable def chkN (M : Nat) : Bool := Nat.beq (mi M).1 15 || (plainName (yM M).cls && (decide ((yM M).cls ≠ "java/lang/invoke/MethodHandle") && (decide ((yM M).cls ≠ "java/lang/invoke/VarHandle") && (decide ((yM M).cls = own (mi M).1) && (decide ((yM M).cls ∈ iniL) && decide ((parseMethodDescriptor (yM M).desc).map (fun d => d.parameters.length) = some ((mi M).2.2.2.2.2.1 - (bif isSt M statM then 0 else 1))))))))
set_option maxRecDepth 100000 in
theorem ckA0 : (List.range' 0 10).all chkM = true := by decide +kernel
set_option maxRecDepth 100000 in
theorem ckA1 : (List.range' 10 10).all chkM = true := by decide +kernel
set_option maxRecDepth 100000 in
theorem ckA2 : (List.range' 20 10).all chkM = true := by decide +kernel
set_option maxRecDepth 100000 in
theorem ckA3 : (List.range' 30 10).all chkM = true := by decide +kernel
set_option maxRecDepth 100000 in
theorem ckA4 : (List.range' 40 10).all chkM = true := by decide +kernel
set_option maxRecDepth 100000 in
theorem ckA5 : (List.range' 50 10).all chkM = true := by decide +kernel
set_option maxRecDepth 100000 in
theorem ckA6 : (List.range' 60 10).all chkM = true := by decide +kernel
set_option maxRecDepth 100000 in
theorem ckA7 : (List.range' 70 10).all chkM = true := by decide +kernel
set_option maxRecDepth 100000 in
theorem ckA8 : (List.range' 80 10).all chkM = true := by decide +kernel
set_option maxRecDepth 100000 in
theorem ckA9 : (List.range' 90 10).all chkM = true := by decide +kernel
set_option maxRecDepth 100000 in
theorem ckA10 : (List.range' 100 10).all chkM = true := by decide +kernel
set_option maxRecDepth 100000 in
theorem ckA11 : (List.range' 110 10).all chkM = true := by decide +kernel
set_option maxRecDepth 100000 in
theorem ckA12 : (List.range' 120 10).all chkM = true := by decide +kernel
set_option maxRecDepth 100000 in
theorem ckA13 : (List.range' 130 10).all chkM = true := by decide +kernel
set_option maxRecDepth 100000 in
theorem ckA14 : (List.range' 140 10).all chkM = true := by decide +kernel
set_option maxRecDepth 100000 in
theorem ckA15 : (List.range' 150 10).all chkM = true := by decide +kernel
set_option maxRecDepth 100000 in
theorem ckA16 : (List.range' 160 10).all chkM = true := by decide +kernel
set_option maxRecDepth 100000 in
theorem ckA17 : (List.range' 170 10).all chkM = true := by decide +kernel
set_option maxRecDepth 100000 in
theorem ckA18 : (List.range' 180 10).all chkM = true := by decide +kernel
set_option maxRecDepth 100000 in
theorem ckA19 : (List.range' 190 10).all chkM = true := by decide +kernel
set_option maxRecDepth 100000 in
theorem ckA20 : (List.range' 200 10).all chkM = true := by decide +kernel
set_option maxRecDepth 100000 in
theorem ckA21 : (List.range' 210 10).all chkM = true := by decide +kernel
set_option maxRecDepth 100000 in
theorem ckA22 : (List.range' 220 10).all chkM = true := by decide +kernel
set_option maxRecDepth 100000 in
theorem ckA23 : (List.range' 230 10).all chkM = true := by decide +kernel
set_option maxRecDepth 100000 in
theorem ckA24 : (List.range' 240 10).all chkM = true := by decide +kernel
set_option maxRecDepth 100000 in
theorem ckA25 : (List.range' 250 10).all chkM = true := by decide +kernel
set_option maxRecDepth 100000 in
theorem ckA26 : (List.range' 260 10).all chkM = true := by decide +kernel
set_option maxRecDepth 100000 in
theorem ckA27 : (List.range' 270 1).all chkM = true := by decide +kernel
set_option maxRecDepth 100000 in
theorem ckN0 : (List.range' 0 40).all chkN = true := by decide +kernel
set_option maxRecDepth 100000 in
theorem ckN1 : (List.range' 40 40).all chkN = true := by decide +kernel
set_option maxRecDepth 100000 in
theorem ckN2 : (List.range' 80 40).all chkN = true := by decide +kernel
set_option maxRecDepth 100000 in
theorem ckN3 : (List.range' 120 40).all chkN = true := by decide +kernel
set_option maxRecDepth 100000 in
theorem ckN4 : (List.range' 160 40).all chkN = true := by decide +kernel
set_option maxRecDepth 100000 in
theorem ckN5 : (List.range' 200 40).all chkN = true := by decide +kernel
set_option maxRecDepth 100000 in
theorem ckN6 : (List.range' 240 31).all chkN = true := by decide +kernel
set_option maxRecDepth 100000 in
theorem ckL0 : cd271_0.all (chkQ (mi 271)) = true := by decide +kernel
set_option maxRecDepth 100000 in
theorem ckL1 : cd271_1.all (chkQ (mi 271)) = true := by decide +kernel
set_option maxRecDepth 100000 in
theorem ckL2 : cd271_2.all (chkQ (mi 271)) = true := by decide +kernel
set_option maxRecDepth 100000 in
theorem ckL3 : cd271_3.all (chkQ (mi 271)) = true := by decide +kernel
set_option maxRecDepth 100000 in
theorem ckL4 : cd271_4.all (chkQ (mi 271)) = true := by decide +kernel
set_option maxRecDepth 100000 in
theorem ckL5 : cd271_5.all (chkQ (mi 271)) = true := by decide +kernel
set_option maxRecDepth 100000 in
theorem ckL6 : cd271_6.all (chkQ (mi 271)) = true := by decide +kernel
set_option maxRecDepth 100000 in
theorem ckL7 : cd271_7.all (chkQ (mi 271)) = true := by decide +kernel
set_option maxRecDepth 100000 in
theorem ckL8 : cd271_8.all (chkQ (mi 271)) = true := by decide +kernel
set_option maxRecDepth 100000 in
theorem ckL9 : cd271_9.all (chkQ (mi 271)) = true := by decide +kernel
set_option maxRecDepth 100000 in
theorem ckL10 : cd271_10.all (chkQ (mi 271)) = true := by decide +kernel
set_option maxRecDepth 100000 in
theorem ckL11 : cd271_11.all (chkQ (mi 271)) = true := by decide +kernel
set_option maxRecDepth 100000 in
theorem ckL12 : cd271_12.all (chkQ (mi 271)) = true := by decide +kernel
set_option maxRecDepth 100000 in
theorem ckL13 : cd271_13.all (chkQ (mi 271)) = true := by decide +kernel
set_option maxRecDepth 100000 in
theorem ckL14 : cd271_14.all (chkQ (mi 271)) = true := by decide +kernel
set_option maxRecDepth 100000 in
theorem ckL15 : cd271_15.all (chkQ (mi 271)) = true := by decide +kernel
end
section
/-! THE ABSTRACT MACHINE: cells numbered as they are made, from 5 on (0 the script, 1 .. 4 Reader's tables); ints, longs, references apart -/
abbrev Hp (S : Type) : Type := Nat × (Nat → Nat → Int32) × (Nat → Nat → Int64) × S
abbrev LV : Type := List (Option Value)
def gl : LV → Nat → Option Value
  | [], _ => none
  | a :: _, 0 => a
  | _ :: t, n + 1 => gl t n
def sl : LV → Nat → Option Value → LV
  | [], 0, v => [v]
  | [], n + 1, v => none :: sl [] n v
  | _ :: t, 0, v => v :: t
  | a :: t, n + 1, v => a :: sl t n v
/-- the slot ahead holds nothing of two slots -/
def nl (ls : LV) : Nat → Bool
  | 0 => true
  | j + 1 => match gl ls j with
    | some v => Nat.beq v.category 1
    | none => true
def ents : List Value → LV
  | [] => []
  | .long x :: r => some (.long x) :: none :: ents r
  | .double x :: r => some (.double x) :: none :: ents r
  | v :: r => some v :: ents r
def mxl : List Nat := [1, 2, 2, 8, 5, 1, 3, 1, 2, 2, 5, 3, 3, 3, 3, 4, 2, 4, 4, 3, 2, 2, 2, 2, 3, 4, 3, 1, 3, 4, 2, 3, 6, 6, 3, 5, 3, 2, 7, 11, 1, 2, 6, 1, 3, 2, 2, 5, 7, 4, 3, 6, 3, 4, 4, 4, 1, 3, 2, 2, 2, 2, 4, 5, 2, 5, 1, 5, 2, 2, 2, 4, 4, 3, 3, 3, 1, 1, 1, 2, 4, 3, 4, 2, 7, 5, 1, 2, 2, 4, 3, 3, 5, 5, 1, 3, 2, 6, 3, 1, 7, 4, 6, 4, 3, 5, 3, 1, 7, 5, 4, 7, 6, 2, 7, 4, 8, 2, 4, 1, 3, 6, 9, 3, 2, 1, 3, 3, 1, 4, 5, 3, 2, 2, 2, 3, 1, 2, 1, 3, 4, 3, 2, 3, 1, 3, 3, 12, 3, 3, 3, 4, 2, 4, 4, 2, 2, 3, 1, 1, 2, 3, 1, 4, 2, 1, 2, 2, 3, 1, 1, 1, 5, 1, 1, 1, 3, 2, 6, 3, 7, 2, 4, 3, 3, 8, 4, 7, 6, 6, 4, 7, 3, 5, 4, 10, 2, 2, 4, 5, 5, 5, 4, 8, 10, 2, 4, 3, 7, 4, 2, 2, 4, 3, 7, 2, 2, 3, 1, 5, 4, 4, 4, 3, 4, 3, 3, 3, 3, 2, 2, 2, 4, 5, 1, 3, 2, 2, 3, 6, 6, 3, 4, 4, 5, 3, 2, 17, 3, 1, 13, 3, 6, 3, 5, 3, 4, 4, 2, 4, 2, 2, 3, 1, 1, 2, 1, 1, 2, 2, 4, 4]
def padT : LV → Nat → LV
  | [], n => List.replicate n none
  | a :: t, 0 => a :: t
  | a :: t, n + 1 => a :: padT t n
/-- locals at a method's beginning -/
def entm (M : Nat) (as : List Value) : LV := padT (ents as) (gn mxl M)
def pI {α : Type} (st : List Value) (bad : α) (f : Int32 → List Value → α) : α := match st with
  | .int x :: r => f x r
  | _ => bad
def pII {α : Type} (st : List Value) (bad : α) (f : Int32 → Int32 → List Value → α) : α := match st with
  | .int y :: .int x :: r => f x y r
  | _ => bad
def pJ {α : Type} (st : List Value) (bad : α) (f : Int64 → List Value → α) : α := match st with
  | .long x :: r => f x r
  | _ => bad
def pJJ {α : Type} (st : List Value) (bad : α) (f : Int64 → Int64 → List Value → α) : α := match st with
  | .long y :: .long x :: r => f x y r
  | _ => bad
def pR {α : Type} (st : List Value) (bad : α) (f : Nat → List Value → α) : α := match st with
  | .ref a :: r => f a r
  | _ => bad
def pO {α : Type} (st : List Value) (bad : α) (fn : List Value → α) (f : Nat → List Value → α) : α := match st with
  | .null :: r => fn r
  | .ref a :: r => f a r
  | _ => bad
def pIR {α : Type} (st : List Value) (bad : α) (f : Int32 → Nat → List Value → α) : α := match st with
  | .int i :: .ref a :: r => f i a r
  | _ => bad
def pIIR {α : Type} (st : List Value) (bad : α) (f : Int32 → Int32 → Nat → List Value → α) : α := match st with
  | .int x :: .int i :: .ref a :: r => f x i a r
  | _ => bad
def pJR {α : Type} (st : List Value) (bad : α) (f : Int64 → Nat → List Value → α) : α := match st with
  | .long x :: .ref a :: r => f x a r
  | _ => bad
def pRR {α : Type} (st : List Value) (bad : α) (f : Nat → Nat → List Value → α) : α := match st with
  | .ref v :: .ref a :: r => f v a r
  | _ => bad
def pRIR {α : Type} (st : List Value) (bad : α) (f : Nat → Int32 → Nat → List Value → α) : α := match st with
  | .ref v :: .int i :: .ref a :: r => f v i a r
  | _ => bad
def pCpy {α : Type} (st : List Value) (bad : α) (f : Int32 → Int32 → Nat → Int32 → Nat → List Value → α) : α := match st with
  | .int n :: .int dp :: .ref a :: .int sp :: .ref a0 :: r => f n dp a sp a0 r
  | _ => bad
def pD {α : Type} (st : List Value) (bad : α) (fI : Int32 → List Value → α) (fR : Nat → List Value → α) : α := match st with
  | .int x :: r => fI x r
  | .ref x :: r => fR x r
  | _ => bad
def t4 {α : Type} (n : Nat) (a1 a2 a3 d : α) : α := match n with
  | 1 => a1
  | 2 => a2
  | 3 => a3
  | _ => d
def t3 {α : Type} (n : Nat) (a0 a1 a2 d : α) : α := match n with
  | 0 => a0
  | 1 => a1
  | 2 => a2
  | _ => d
def hdR {α : Type} (as : List Value) (bad : α) (f : Nat → α) : α := match as with
  | .ref b :: _ => f b
  | _ => bad
def r1I {α : Type} (st : List Value) (bad : α) (f : Int32 → α) : α := match st with
  | [.int x] => f x
  | _ => bad
def r1J {α : Type} (st : List Value) (bad : α) (f : Int64 → α) : α := match st with
  | [.long x] => f x
  | _ => bad
def r1O {α : Type} (st : List Value) (bad : α) (fn : α) (f : Nat → α) : α := match st with
  | [.null] => fn
  | [.ref x] => f x
  | _ => bad
def r0 {α : Type} (st : List Value) (bad : α) (f : α) : α := match st with
  | [] => f
  | _ => bad
def xk {α : Type} (l : List Nat) (a0 a1 a2 a3 d : α) : α := match l with
  | [] => a0
  | [1] => a1
  | [2] => a2
  | [3] => a3
  | _ => d
def nk {α : Type} (l : List Nat) (a0 d : α) : α := match l with
  | [] => a0
  | _ => d
def oel {α : Type} (o : Option Nat) (a : α) (f : Nat → α) : α := match o with
  | none => a
  | some x => f x
def glv {α : Type} (o : Option Value) (bad : α) (f : Value → α) : α := match o with
  | some v => f v
  | none => bad
def rI {α : Type} (o : Option Value) (bad : α) (f : Int32 → α) : α := match o with
  | some (.int x) => f x
  | _ => bad
def rJ {α : Type} (o : Option Value) (bad : α) (f : Int64 → α) : α := match o with
  | some (.long x) => f x
  | _ => bad
def rO {α : Type} (o : Option Value) (bad : α) (fn : α) (f : Nat → α) : α := match o with
  | some .null => fn
  | some (.ref x) => f x
  | _ => bad
def rV {α : Type} (o : Option Value) (bad : α) (f : α) : α := match o with
  | none => f
  | _ => bad
def swt {α : Type} (x : Int32) : List (Int32 × Nat) → (Nat → α) → α → α
  | [], _, d => d
  | (v, t) :: r, f, d => if x = v then f t else swt x r f d
def tk : Nat → List Value → List Value → Option (List Value × List Value)
  | 0, acc, st => some (acc, st)
  | _ + 1, _, [] => none
  | n + 1, acc, v :: st => tk n (v :: acc) st
def csum : List Value → Nat
  | [] => 0
  | v :: r => v.category + csum r
def tkm {α : Type} (mx : Nat) (o : Option (List Value × List Value)) (bad : α) (f : List Value → List Value → α) : α := match o with
  | some (a, r) => bif Nat.ble (csum r) 8 && Nat.ble (csum a) mx then f a r else bad
  | none => bad
def b01 (x : Int32) : Bool := decide (x = 0) || decide (x = 1)
def gp : List (Nat × Nat) → Nat → Nat × Nat
  | [], _ => (99, 0)
  | a :: _, 0 => a
  | _ :: t, n + 1 => gp t n
def lk : List (Nat × AI) → Nat → Option AI
  | [], _ => none
  | (q, a) :: t, pc => bif Nat.beq q pc then some a else lk t pc
/-- kind and length of each cell: 0 int[], 1 boolean[], 2 Line[], 3 int[][], 4 + c an object of class c -/
def shl : List (Nat × Nat) := [(0, 0), (0, 4), (0, 5), (0, 10), (0, 4), (15, 11), (11, 5), (3, 4), (0, 60), (0, 60), (0, 60), (0, 60), (0, 4), (0, 4), (0, 60), (10, 3), (0, 60), (4, 2), (2, 24), (14, 10), (0, 24), (0, 24), (0, 24), (0, 24), (0, 24), (0, 24), (1, 24), (0, 12), (0, 11), (12, 6), (0, 6), (0, 40), (0, 40), (0, 40), (8, 9), (3, 8), (0, 12), (0, 12), (0, 12), (0, 12), (0, 12), (0, 12), (0, 12), (0, 12), (0, 8), (3, 12), (0, 12), (0, 12), (0, 12), (0, 12), (0, 12), (0, 12), (0, 12), (0, 12), (0, 12), (0, 12), (0, 12), (0, 12), (0, 12), (0, 12), (0, 12), (0, 12), (5, 13), (0, 12), (0, 12), (0, 60), (0, 60), (0, 60), (0, 60), (0, 12), (0, 12), (9, 3), (0, 24), (1, 24), (6, 13), (0, 30), (0, 30), (0, 30), (0, 30), (0, 30), (13, 6), (0, 6), (0, 6), (0, 6), (0, 6), (0, 6), (16, 77), (0, 4), (0, 4), (0, 240), (0, 25), (0, 25), (0, 25), (0, 25), (0, 25), (0, 25), (0, 25), (0, 24), (0, 24), (0, 24), (0, 24), (0, 24), (0, 24), (0, 12), (0, 12), (0, 6), (0, 40), (0, 40), (0, 40), (0, 8), (0, 96), (0, 12), (0, 12), (0, 12), (0, 144), (0, 12), (0, 12), (0, 12), (0, 60), (0, 60), (1, 60), (0, 60), (0, 12), (0, 24), (1, 24), (0, 30), (0, 30), (0, 30), (0, 30), (0, 30), (0, 12), (0, 12), (0, 6), (0, 6), (0, 6), (0, 6), (0, 6)]
def shT (L a : Nat) : Nat × Nat := bif Nat.beq a 0 then (0, L) else bif Nat.blt a 137 then gp shl a else (7, 7)
def Rt : List (List Nat) := [[], [], [], [], [], [6, 15, 17, 19, 29, 34, 62, 71, 74, 80], [7, 12, 13, 14], [8, 9, 10, 11], [], [], [], [], [], [], [], [16], [], [18], [], [20, 21, 22, 23, 24, 25, 26, 27, 28], [], [], [], [], [], [], [], [], [], [30, 31, 32, 33], [], [], [], [], [35, 44, 45, 58, 59, 60, 61], [36, 37, 38, 39, 40, 41, 42, 43], [], [], [], [], [], [], [], [], [], [46, 47, 48, 49, 50, 51, 52, 53, 54, 55, 56, 57], [], [], [], [], [], [], [], [], [], [], [], [], [], [], [], [], [63, 64, 65, 66, 67, 68, 69, 70], [], [], [], [], [], [], [], [], [72, 73], [], [], [75, 76, 77, 78, 79], [], [], [], [], [], [81, 82, 83, 84, 85], [], [], [], [], [], [0, 0, 87, 88, 89, 0, 90, 91, 92, 93, 94, 95, 96, 0, 0, 0, 0, 97, 98, 99, 100, 101, 102, 103, 104, 0, 105, 0, 106, 107, 108, 0, 109, 110, 0, 111, 112, 113, 114, 115, 0, 116, 117, 0, 0, 118, 119, 120, 121, 122, 0, 0, 0, 0, 0, 0, 0, 123, 124, 0, 0, 0, 125, 126, 127, 128, 129, 0, 130, 131, 0, 0, 132, 133, 134, 135, 136], [], [], [], [], [], [], [], [], [], [], [], [], [], [], [], [], [], [], [], [], [], [], [], [], [], [], [], [], [], [], [], [], [], [], [], [], [], [], [], [], [], [], [], [], [], [], [], [], [], []]
def Rc (a i : Nat) : Option Nat := match gn (gll Rt a) i with
  | 0 => none
  | v + 1 => some (v + 1)
/-- the order in which references are laid by the constructors -/
def Rw : List (Nat × Nat × Nat) := [(7, 0, 8), (7, 1, 9), (7, 2, 10), (7, 3, 11), (6, 0, 7), (6, 1, 12), (6, 2, 13), (6, 3, 14), (5, 0, 6), (15, 0, 16), (5, 1, 15), (17, 0, 18), (5, 2, 17), (19, 0, 20), (19, 1, 21), (19, 2, 22), (19, 3, 23), (19, 4, 24), (19, 5, 25), (19, 6, 26), (19, 7, 27), (19, 8, 28), (5, 3, 19), (29, 0, 30), (29, 1, 31), (29, 2, 32), (29, 3, 33), (5, 4, 29), (35, 0, 36), (35, 1, 37), (35, 2, 38), (35, 3, 39), (35, 4, 40), (35, 5, 41), (35, 6, 42), (35, 7, 43), (34, 0, 35), (34, 1, 44), (45, 0, 46), (45, 1, 47), (45, 2, 48), (45, 3, 49), (45, 4, 50), (45, 5, 51), (45, 6, 52), (45, 7, 53), (45, 8, 54), (45, 9, 55), (45, 10, 56), (45, 11, 57), (34, 2, 45), (34, 3, 58), (34, 4, 59), (34, 5, 60), (34, 6, 61), (5, 5, 34), (62, 0, 63), (62, 1, 64), (62, 2, 65), (62, 3, 66), (62, 4, 67), (62, 5, 68), (62, 6, 69), (62, 7, 70), (5, 6, 62), (71, 0, 72), (71, 1, 73), (5, 7, 71), (74, 0, 75), (74, 1, 76), (74, 2, 77), (74, 3, 78), (74, 4, 79), (5, 8, 74), (80, 0, 81), (80, 1, 82), (80, 2, 83), (80, 3, 84), (80, 4, 85), (5, 9, 80), (86, 2, 87), (86, 3, 88), (86, 4, 89), (86, 6, 90), (86, 7, 91), (86, 8, 92), (86, 9, 93), (86, 10, 94), (86, 11, 95), (86, 12, 96), (86, 17, 97), (86, 18, 98), (86, 19, 99), (86, 20, 100), (86, 21, 101), (86, 22, 102), (86, 23, 103), (86, 24, 104), (86, 26, 105), (86, 28, 106), (86, 29, 107), (86, 30, 108), (86, 32, 109), (86, 33, 110), (86, 35, 111), (86, 36, 112), (86, 37, 113), (86, 38, 114), (86, 39, 115), (86, 41, 116), (86, 42, 117), (86, 45, 118), (86, 46, 119), (86, 47, 120), (86, 48, 121), (86, 49, 122), (86, 57, 123), (86, 58, 124), (86, 62, 125), (86, 63, 126), (86, 64, 127), (86, 65, 128), (86, 66, 129), (86, 68, 130), (86, 69, 131), (86, 72, 132), (86, 73, 133), (86, 74, 134), (86, 75, 135), (86, 76, 136)]
def okT (L θ n a tg : Nat) : Bool := Nat.beq (shT L a).1 tg && (Nat.blt a θ || Nat.blt a n)
def upR (I : Nat → Nat → Int32) (a : Nat) (f : Nat → Int32) : Nat → Nat → Int32 := fun b => if b = a then f else I b
def upJ (J : Nat → Nat → Int64) (a k : Nat) (x : Int64) : Nat → Nat → Int64 := fun b j => if b = a ∧ j = k then x else J b j
abbrev hI {S : Type} (h : Hp S) (a : Nat) (f : Nat → Int32) : Hp S := (h.1, upR h.2.1 a f, h.2.2.1, h.2.2.2)
abbrev hJ {S : Type} (h : Hp S) (a k : Nat) (x : Int64) : Hp S := (h.1, h.2.1, upJ h.2.2.1 a k x, h.2.2.2)
abbrev hR {S : Type} (h : Hp S) (r : S) : Hp S := (h.1, h.2.1, h.2.2.1, r)
abbrev hN {S : Type} (h : Hp S) (n : Nat) : Hp S := (h.1 + n, h.2)
def stv (xs : Nat → Int32) (a i : Nat) : Int32 := match a with
  | 0 => xs i
  | 1 => [109, 115, 99, 107].getD i 0
  | 2 => [48, 49, 50, 51, 42].getD i 0
  | 3 => [48, 49, 50, 51, 52, 53, 54, 55, 56, 57].getD i 0
  | _ => [100, 112, 101, 118].getD i 0
/-- an int of a row -/
def rdI (xs : Nat → Int32) (I : Nat → Nat → Int32) (a i : Nat) : Int32 := bif Nat.blt a 5 then stv xs a i else I a i
/-- references of new int[n][m] -/
def wrm {S : Type} (wr : S → Nat → Nat → Nat → Option S) (a : Nat) : Nat → S → Option S
  | 0, s => some s
  | n + 1, s => (wrm wr a n s).bind (fun t => wr t a n (a + 1 + n))
def shm (L a m : Nat) : Nat → Bool
  | 0 => true
  | n + 1 => shm L a m n && (Nat.beq (shT L (a + 1 + n)).1 0 && Nat.beq (shT L (a + 1 + n)).2 m)
def oS {α S : Type} (o : Option S) (bad : α) (f : S → α) : α := match o with
  | some x => f x
  | none => bad
/-- one step, into any type: no (stuck), k (goes on), c (a call), rt (the end) -/
def stp {α S : Type} (L : Nat) (xs : Nat → Int32) (θ : Nat) (rd : S → Nat → Nat → Option Nat) (wr : S → Nat → Nat → Nat → Option S) (no : α) (k : Nat → LV → List Value → Hp S → α) (c : Nat → List Value → Hp S → (Option Value → Hp S → α) → α) (rt : Option Value → Hp S → α)
    (ai : AI) (pc : Nat) (ls : LV) (st : List Value) (h : Hp S) : α := match ai.1 with
  | .iconst _ => k (pc + 1) ls (.int (kv ai.2.2.2) :: st) h
  | .bipush _ => k (pc + 2) ls (.int (kv ai.2.2.2) :: st) h
  | .sipush _ => k (pc + 3) ls (.int (kv ai.2.2.2) :: st) h
  | .ldc_w _ => k (pc + 3) ls (.int (kv ai.2.2.2) :: st) h
  | .lconst _ => k (pc + 1) ls (.long (bif Nat.beq (ax ai.2.2.1 0) 0 then 0 else 1) :: st) h
  | .ldc2_w _ => k (pc + 3) ls (.long vLOST :: st) h
  | .aconst_null => k (pc + 1) ls (.null :: st) h
  | .iload _ => rI (gl ls (ax ai.2.2.1 0)) no fun x => k (pc + 2) ls (.int x :: st) h
  | .iload_n _ => rI (gl ls (ax ai.2.2.1 0)) no fun x => k (pc + 1) ls (.int x :: st) h
  | .lload _ => rJ (gl ls (ax ai.2.2.1 0)) no fun x => k (pc + 2) ls (.long x :: st) h
  | .lload_n _ => rJ (gl ls (ax ai.2.2.1 0)) no fun x => k (pc + 1) ls (.long x :: st) h
  | .aload _ => rO (gl ls (ax ai.2.2.1 0)) no (k (pc + 2) ls (.null :: st) h) fun x => k (pc + 2) ls (.ref x :: st) h
  | .aload_n _ => rO (gl ls (ax ai.2.2.1 0)) no (k (pc + 1) ls (.null :: st) h) fun x => k (pc + 1) ls (.ref x :: st) h
  | .istore _ => pI st no fun x r => bif nl ls (ax ai.2.2.1 0) then k (pc + 2) (sl ls (ax ai.2.2.1 0) (some (.int x))) r h else no
  | .istore_n _ => pI st no fun x r => bif nl ls (ax ai.2.2.1 0) then k (pc + 1) (sl ls (ax ai.2.2.1 0) (some (.int x))) r h else no
  | .lstore _ => pJ st no fun x r => bif nl ls (ax ai.2.2.1 0) then k (pc + 2) (sl (sl ls (ax ai.2.2.1 0 + 1) none) (ax ai.2.2.1 0) (some (.long x))) r h else no
  | .lstore_n _ => pJ st no fun x r => bif nl ls (ax ai.2.2.1 0) then k (pc + 1) (sl (sl ls (ax ai.2.2.1 0 + 1) none) (ax ai.2.2.1 0) (some (.long x))) r h else no
  | .astore _ => pO st no (fun r => bif nl ls (ax ai.2.2.1 0) then k (pc + 2) (sl ls (ax ai.2.2.1 0) (some .null)) r h else no) fun x r => bif nl ls (ax ai.2.2.1 0) then k (pc + 2) (sl ls (ax ai.2.2.1 0) (some (.ref x))) r h else no
  | .astore_n _ => pO st no (fun r => bif nl ls (ax ai.2.2.1 0) then k (pc + 1) (sl ls (ax ai.2.2.1 0) (some .null)) r h else no) fun x r => bif nl ls (ax ai.2.2.1 0) then k (pc + 1) (sl ls (ax ai.2.2.1 0) (some (.ref x))) r h else no
  | .iinc _ _ => rI (gl ls (ax ai.2.2.1 0)) no fun x => bif nl ls (ax ai.2.2.1 0) then k (pc + 3) (sl ls (ax ai.2.2.1 0) (some (.int (x + kv ai.2.2.2)))) st h else no
  | .iadd => pII st no fun x y r => k (pc + 1) ls (.int (x + y) :: r) h
  | .isub => pII st no fun x y r => k (pc + 1) ls (.int (x - y) :: r) h
  | .imul => pII st no fun x y r => k (pc + 1) ls (.int (x * y) :: r) h
  | .iand => pII st no fun x y r => k (pc + 1) ls (.int (x &&& y) :: r) h
  | .ior => pII st no fun x y r => k (pc + 1) ls (.int (x ||| y) :: r) h
  | .ixor => pII st no fun x y r => k (pc + 1) ls (.int (x ^^^ y) :: r) h
  | .idiv => pII st no fun x y r => if y = 0 then no else k (pc + 1) ls (.int (x / y) :: r) h
  | .irem => pII st no fun x y r => if y = 0 then no else k (pc + 1) ls (.int (x - x / y * y) :: r) h
  | .ineg => pI st no fun x r => k (pc + 1) ls (.int (-x) :: r) h
  | .ishl => pII st no fun x y r => k (pc + 1) ls (.int (x <<< (y &&& 31)) :: r) h
  | .ishr => pII st no fun x y r => k (pc + 1) ls (.int (x >>> (y &&& 31)) :: r) h
  | .iushr => pII st no fun x y r => k (pc + 1) ls (.int (x.toUInt32 >>> (y.toUInt32 &&& Int32.toUInt32 31)).toInt32 :: r) h
  | .i2l => pI st no fun x r => k (pc + 1) ls (.long x.toInt64 :: r) h
  | .i2b => pI st no fun x r => k (pc + 1) ls (.int x.toInt8.toInt32 :: r) h
  | .i2s => pI st no fun x r => k (pc + 1) ls (.int x.toInt16.toInt32 :: r) h
  | .lmul => pJJ st no fun x y r => k (pc + 1) ls (.long (x * y) :: r) h
  | .lsub => pJJ st no fun x y r => k (pc + 1) ls (.long (x - y) :: r) h
  | .ldiv => pJJ st no fun x y r => if y = 0 then no else k (pc + 1) ls (.long (x / y) :: r) h
  | .lrem => pJJ st no fun x y r => if y = 0 then no else k (pc + 1) ls (.long (x - x / y * y) :: r) h
  | .lcmp => pJJ st no fun x y r => k (pc + 1) ls (.int (lg_cmp x y) :: r) h
  | .dup => pD st no (fun x r => k (pc + 1) ls (.int x :: .int x :: r) h) fun x r => k (pc + 1) ls (.ref x :: .ref x :: r) h
  | .dup2 => pIR st no fun x y r => k (pc + 1) ls (.int x :: .ref y :: .int x :: .ref y :: r) h
  | .ifCond .eq _ => pI st no fun x r => if x = 0 then k (ax ai.2.2.1 0) ls r h else k (pc + 3) ls r h
  | .ifCond .ne _ => pI st no fun x r => if ¬ x = 0 then k (ax ai.2.2.1 0) ls r h else k (pc + 3) ls r h
  | .ifCond .lt _ => pI st no fun x r => if x < 0 then k (ax ai.2.2.1 0) ls r h else k (pc + 3) ls r h
  | .ifCond .ge _ => pI st no fun x r => if 0 ≤ x then k (ax ai.2.2.1 0) ls r h else k (pc + 3) ls r h
  | .ifCond .gt _ => pI st no fun x r => if 0 < x then k (ax ai.2.2.1 0) ls r h else k (pc + 3) ls r h
  | .ifCond .le _ => pI st no fun x r => if x ≤ 0 then k (ax ai.2.2.1 0) ls r h else k (pc + 3) ls r h
  | .if_icmp .eq _ => pII st no fun x y r => if x = y then k (ax ai.2.2.1 0) ls r h else k (pc + 3) ls r h
  | .if_icmp .ne _ => pII st no fun x y r => if ¬ x = y then k (ax ai.2.2.1 0) ls r h else k (pc + 3) ls r h
  | .if_icmp .lt _ => pII st no fun x y r => if x < y then k (ax ai.2.2.1 0) ls r h else k (pc + 3) ls r h
  | .if_icmp .ge _ => pII st no fun x y r => if y ≤ x then k (ax ai.2.2.1 0) ls r h else k (pc + 3) ls r h
  | .if_icmp .gt _ => pII st no fun x y r => if y < x then k (ax ai.2.2.1 0) ls r h else k (pc + 3) ls r h
  | .if_icmp .le _ => pII st no fun x y r => if x ≤ y then k (ax ai.2.2.1 0) ls r h else k (pc + 3) ls r h
  | .ifnull _ => pO st no (fun r => k (ax ai.2.2.1 0) ls r h) fun _ r => k (pc + 3) ls r h
  | .ifnonnull _ => pO st no (fun r => k (pc + 3) ls r h) fun _ r => k (ax ai.2.2.1 0) ls r h
  | .goto _ => k (ax ai.2.2.1 0) ls st h
  | .tableswitch _ _ _ _ => pI st no fun x r => swt x ai.2.2.2 (fun t => k t ls r h) (k (ax ai.2.2.1 0) ls r h)
  | .lookupswitch _ _ => pI st no fun x r => swt x ai.2.2.2 (fun t => k t ls r h) (k (ax ai.2.2.1 0) ls r h)
  | .getstatic _ => k (pc + 3) ls (.ref (ax ai.2.2.1 0) :: st) h
  | .getfield _ => pR st no fun a r => bif okT L θ h.1 a (4 + ax ai.2.2.1 0) then
      t4 (ax ai.2.2.1 2) (k (pc + 3) ls (.long (h.2.2.1 a (ax ai.2.2.1 1)) :: r) h) (oel (rd h.2.2.2 a (ax ai.2.2.1 1)) (k (pc + 3) ls (.null :: r) h) fun v => k (pc + 3) ls (.ref v :: r) h) (k (pc + 3) ls (.int (h.2.1 a (ax ai.2.2.1 1)) :: r) h) (k (pc + 3) ls (.int (h.2.1 a (ax ai.2.2.1 1)) :: r) h) else no
  | .putfield _ => t4 (ax ai.2.2.1 2)
      (pJR st no fun x a r => bif okT L θ h.1 a (4 + ax ai.2.2.1 0) then k (pc + 3) ls r (hJ h a (ax ai.2.2.1 1) x) else no)
      (pRR st no fun v a r => bif okT L θ h.1 a (4 + ax ai.2.2.1 0) then oS (wr h.2.2.2 a (ax ai.2.2.1 1) v) no (fun s => k (pc + 3) ls r (hR h s)) else no)
      (pIR st no fun x a r => bif okT L θ h.1 a (4 + ax ai.2.2.1 0) && b01 x then k (pc + 3) ls r (hI h a (upd (h.2.1 a) (ax ai.2.2.1 1) x)) else no)
      (pIR st no fun x a r => bif okT L θ h.1 a (4 + ax ai.2.2.1 0) then k (pc + 3) ls r (hI h a (upd (h.2.1 a) (ax ai.2.2.1 1) x)) else no)
  | .arraylength => pR st no fun a r => bif (Nat.ble (shT L a).1 3) && (Nat.blt a θ || Nat.blt a h.1) then k (pc + 1) ls (.int (Int32.ofNat (shT L a).2) :: r) h else no
  | .iaload => pIR st no fun i a r => bif okT L θ h.1 a 0 then (if i < 0 ∨ (shT L a).2 ≤ i.toNatClampNeg then no else k (pc + 1) ls (.int (rdI xs h.2.1 a i.toNatClampNeg) :: r) h) else no
  | .baload => pIR st no fun i a r => bif okT L θ h.1 a 1 then (if i < 0 ∨ (shT L a).2 ≤ i.toNatClampNeg then no else k (pc + 1) ls (.int (h.2.1 a i.toNatClampNeg) :: r) h) else no
  | .aaload => pIR st no fun i a r => bif (okT L θ h.1 a 2 || okT L θ h.1 a 3) then (if i < 0 ∨ (shT L a).2 ≤ i.toNatClampNeg then no else oel (rd h.2.2.2 a i.toNatClampNeg) (k (pc + 1) ls (.null :: r) h) fun v => k (pc + 1) ls (.ref v :: r) h) else no
  | .iastore => pIIR st no fun x i a r => bif okT L θ h.1 a 0 && Nat.ble 5 a then (if i < 0 ∨ (shT L a).2 ≤ i.toNatClampNeg then no else k (pc + 1) ls r (hI h a (upd (h.2.1 a) i.toNatClampNeg x))) else no
  | .bastore => pIIR st no fun x i a r => bif okT L θ h.1 a 1 then (if i < 0 ∨ (shT L a).2 ≤ i.toNatClampNeg then no else k (pc + 1) ls r (hI h a (upd (h.2.1 a) i.toNatClampNeg (vp_nar .boolean x)))) else no
  | .aastore => pRIR st no fun v i a r => bif okT L θ h.1 a 2 && okT L θ h.1 v 7 then (if i < 0 ∨ (shT L a).2 ≤ i.toNatClampNeg then no else oS (wr h.2.2.2 a i.toNatClampNeg v) no (fun s => k (pc + 1) ls r (hR h s))) else no
  | .new _ => bif Nat.beq (shT L h.1).1 (4 + ax ai.2.2.1 0) then k (pc + 3) ls (.ref h.1 :: st) (hN h 1) else no
  | .newarray _ => pI st no fun n r => bif Nat.beq (shT L h.1).1 (ax ai.2.2.1 0) && (Nat.beq (shT L h.1).2 n.toNatClampNeg && decide (¬ n < 0)) then k (pc + 2) ls (.ref h.1 :: r) (hN h 1) else no
  | .anewarray _ => pI st no fun n r => bif Nat.beq (shT L h.1).1 2 && (Nat.beq (shT L h.1).2 n.toNatClampNeg && decide (¬ n < 0)) then k (pc + 3) ls (.ref h.1 :: r) (hN h 1) else no
  | .multianewarray _ _ => pII st no fun n m r => bif (Nat.beq (shT L h.1).1 3 && (Nat.beq (shT L h.1).2 n.toNatClampNeg && decide (¬ n < 0))) && (shm L h.1 m.toNatClampNeg n.toNatClampNeg && decide (¬ m < 0)) then
      oS (wrm wr h.1 n.toNatClampNeg h.2.2.2) no (fun s => k (pc + 4) ls (.ref h.1 :: r) (hR (hN h (1 + n.toNatClampNeg)) s)) else no
  | .invokevirtual _ => tkm (ax ai.2.2.1 4) (tk (ax ai.2.2.1 1) [] st) no fun as r => hdR as no fun b => bif okT L θ h.1 b (4 + ax ai.2.2.1 3) then t3 (ax ai.2.2.1 2)
        (c (ax ai.2.2.1 0) as h fun v h1 => rV v no (k (pc + 3) ls r h1))
        (c (ax ai.2.2.1 0) as h fun v h1 => rI v no fun x => k (pc + 3) ls (.int x :: r) h1)
        (c (ax ai.2.2.1 0) as h fun v h1 => rJ v no fun x => k (pc + 3) ls (.long x :: r) h1)
        (c (ax ai.2.2.1 0) as h fun v h1 => rO v no (k (pc + 3) ls (.null :: r) h1) fun x => k (pc + 3) ls (.ref x :: r) h1) else no
  | .invokestatic _ => xk ai.2.2.1
      (pCpy st no fun n dp a sp a0 r => bif okT L θ h.1 a 0 && (Nat.ble 5 a && (okT L θ h.1 a0 0 && (Nat.ble 5 a0 && Nat.ble (csum r) 8))) then (if (sp < 0 ∨ dp < 0 ∨ n < 0) ∨ (shT L a0).2 < sp.toNatClampNeg + n.toNatClampNeg ∨ (shT L a).2 < dp.toNatClampNeg + n.toNatClampNeg then no else
          k (pc + 3) ls r (hI h a (va_cpy (h.2.1 a0) (h.2.1 a) sp.toNatClampNeg dp.toNatClampNeg n.toNatClampNeg))) else no)
      (pII st no fun x y r => bif Nat.ble (csum r) 8 then k (pc + 3) ls (.int (if x < y then y else x) :: r) h else no)
      (pII st no fun x y r => bif Nat.ble (csum r) 8 then k (pc + 3) ls (.int (if y < x then y else x) :: r) h else no)
      (pI st no fun x r => bif Nat.ble (csum r) 8 then k (pc + 3) ls (.int (if 0 ≤ x then x else 0 - x) :: r) h else no)
      (tkm (ax ai.2.2.1 4) (tk (ax ai.2.2.1 1) [] st) no fun as r => t3 (ax ai.2.2.1 2)
        (c (ax ai.2.2.1 0) as h fun v h1 => rV v no (k (pc + 3) ls r h1))
        (c (ax ai.2.2.1 0) as h fun v h1 => rI v no fun x => k (pc + 3) ls (.int x :: r) h1)
        (c (ax ai.2.2.1 0) as h fun v h1 => rJ v no fun x => k (pc + 3) ls (.long x :: r) h1)
        (c (ax ai.2.2.1 0) as h fun v h1 => rO v no (k (pc + 3) ls (.null :: r) h1) fun x => k (pc + 3) ls (.ref x :: r) h1))
  | .invokespecial _ => nk ai.2.2.1
      (pR st no fun _ r => bif Nat.ble (csum r) 8 then k (pc + 3) ls r h else no)
      (tkm (ax ai.2.2.1 4) (tk (ax ai.2.2.1 1) [] st) no fun as r => hdR as no fun _ => c (ax ai.2.2.1 0) as h fun v h1 => rV v no (k (pc + 3) ls r h1))
  | .ireturn => r1I st no fun x => bif Nat.beq (ax ai.2.2.1 0) 0 || b01 x then rt (some (.int x)) h else no
  | .lreturn => r1J st no fun x => rt (some (.long x)) h
  | .areturn => r1O st no (rt (some .null) h) fun x => rt (some (.ref x)) h
  | .return_ => r0 st no (rt none h)
  | _ => no
end
section
/-! what one step gives in one type it gives, related, in another -/
theorem bf_rel {α β : Type} {ρ : α → β → Prop} {b : Bool} {x y : α} {x' y' : β} (h1 : ρ x x') (h2 : ρ y y') : ρ (bif b then x else y) (bif b then x' else y') := by
  cases b
  · exact h2
  · exact h1
theorem if_rel {α β : Type} {ρ : α → β → Prop} {c : Prop} [Decidable c] {x y : α} {x' y' : β} (h1 : ρ x x') (h2 : ρ y y') : ρ (if c then x else y) (if c then x' else y') := by
  by_cases h : c
  · rw [if_pos h, if_pos h]
    exact h1
  · rw [if_neg h, if_neg h]
    exact h2
theorem swt_rel {α β : Type} {ρ : α → β → Prop} {x : Int32} {f : Nat → α} {f' : Nat → β} {d : α} {d' : β} (hf : ∀ t, ρ (f t) (f' t)) (hd : ρ d d') : ∀ l : List (Int32 × Nat), ρ (swt x l f d) (swt x l f' d')
  | [] => hd
  | (v, t) :: r => by
    unfold swt
    exact if_rel (hf t) (swt_rel hf hd r)
set_option maxHeartbeats 4000000 in
set_option maxRecDepth 100000 in
theorem stp_rel {α β S : Type} (ρ : α → β → Prop) {L : Nat} {xs : Nat → Int32} {θ : Nat} {rd : S → Nat → Nat → Option Nat} {wr : S → Nat → Nat → Nat → Option S} {no : α} {no' : β} {k : Nat → LV → List Value → Hp S → α} {k' : Nat → LV → List Value → Hp S → β}
    {c : Nat → List Value → Hp S → (Option Value → Hp S → α) → α} {c' : Nat → List Value → Hp S → (Option Value → Hp S → β) → β} {rt : Option Value → Hp S → α} {rt' : Option Value → Hp S → β}
    (hno : ρ no no') (hk : ∀ pc ls st h, ρ (k pc ls st h) (k' pc ls st h)) (hc : ∀ M as h f f', (∀ v h1, ρ (f v h1) (f' v h1)) → ρ (c M as h f) (c' M as h f')) (hr : ∀ v h, ρ (rt v h) (rt' v h))
    (ai : AI) (pc : Nat) (ls : LV) (st : List Value) (h : Hp S) : ρ (stp L xs θ rd wr no k c rt ai pc ls st h) (stp L xs θ rd wr no' k' c' rt' ai pc ls st h) := by
  have qI : ∀ (v : Option Value) (f : Int32 → α) (f' : Int32 → β), (∀ x, ρ (f x) (f' x)) → ρ (rI v no f) (rI v no' f') := by
    intro v f f' hf
    unfold rI
    split
    · exact hf _
    · exact hno
  have qJ : ∀ (v : Option Value) (f : Int64 → α) (f' : Int64 → β), (∀ x, ρ (f x) (f' x)) → ρ (rJ v no f) (rJ v no' f') := by
    intro v f f' hf
    unfold rJ
    split
    · exact hf _
    · exact hno
  have qO : ∀ (v : Option Value) (n : α) (n' : β) (f : Nat → α) (f' : Nat → β), ρ n n' → (∀ x, ρ (f x) (f' x)) → ρ (rO v no n f) (rO v no' n' f') := by
    intro v n n' f f' hn hf
    unfold rO
    split
    · exact hn
    · exact hf _
    · exact hno
  have qV : ∀ (v : Option Value) (n : α) (n' : β), ρ n n' → ρ (rV v no n) (rV v no' n') := by
    intro v n n' hn
    unfold rV
    split
    · exact hn
    · exact hno
  have qS : ∀ (o : Option S) (f : S → α) (f' : S → β), (∀ x, ρ (f x) (f' x)) → ρ (oS o no f) (oS o no' f') := by
    intro v f f' hf
    unfold oS
    split
    · exact hf _
    · exact hno
  have qE : ∀ (o : Option Nat) (n : α) (n' : β) (f : Nat → α) (f' : Nat → β), ρ n n' → (∀ x, ρ (f x) (f' x)) → ρ (oel o n f) (oel o n' f') := by
    intro v n n' f f' hn hf
    unfold oel
    split
    · exact hn
    · exact hf _
  obtain ⟨i, len, a, sw⟩ := ai
  cases i
  case ifCond cd off => cases cd <;> (unfold stp; dsimp only; unfold pI; split; exact if_rel (hk _ _ _ _) (hk _ _ _ _); exact hno)
  case if_icmp cd off => cases cd <;> (unfold stp; dsimp only; unfold pII; split; exact if_rel (hk _ _ _ _) (hk _ _ _ _); exact hno)
  all_goals (unfold stp; dsimp only)
  all_goals first
    | exact hno
    | exact hk _ _ _ _
    | exact qI _ _ _ (fun _ => hk _ _ _ _)
    | exact qJ _ _ _ (fun _ => hk _ _ _ _)
    | exact qO _ _ _ _ _ (hk _ _ _ _) (fun _ => hk _ _ _ _)
    | exact qI _ _ _ (fun _ => bf_rel (hk _ _ _ _) hno)
    | (unfold pI; split; exact hk _ _ _ _; exact hno)
    | (unfold pII; split; exact hk _ _ _ _; exact hno)
    | (unfold pJJ; split; exact hk _ _ _ _; exact hno)
    | (unfold pII; split; exact if_rel hno (hk _ _ _ _); exact hno)
    | (unfold pJJ; split; exact if_rel hno (hk _ _ _ _); exact hno)
    | (unfold pI; split; exact bf_rel (hk _ _ _ _) hno; exact hno)
    | (unfold pJ; split; exact bf_rel (hk _ _ _ _) hno; exact hno)
    | (unfold pO; split; exact bf_rel (hk _ _ _ _) hno; exact bf_rel (hk _ _ _ _) hno; exact hno)
    | (unfold pO; split; exact hk _ _ _ _; exact hk _ _ _ _; exact hno)
    | (unfold pI; split; exact swt_rel (fun _ => hk _ _ _ _) (hk _ _ _ _) _; exact hno)
    | (unfold pIR; split; exact bf_rel (if_rel hno (hk _ _ _ _)) hno; exact hno)
    | (unfold pIR; split; exact bf_rel (if_rel hno (qE _ _ _ _ _ (hk _ _ _ _) (fun _ => hk _ _ _ _))) hno; exact hno)
    | (unfold pIIR; split; exact bf_rel (if_rel hno (hk _ _ _ _)) hno; exact hno)
    | (unfold pRIR; split; exact bf_rel (if_rel hno (qS _ _ _ (fun _ => hk _ _ _ _))) hno; exact hno)
    | (unfold pR; split; exact bf_rel (hk _ _ _ _) hno; exact hno)
    | exact bf_rel (hk _ _ _ _) hno
    | (unfold pII; split; exact bf_rel (qS _ _ _ (fun _ => hk _ _ _ _)) hno; exact hno)
    | (unfold pD; split; exact hk _ _ _ _; exact hk _ _ _ _; exact hno)
    | (unfold pIR; split; exact hk _ _ _ _; exact hno)
    | (unfold r1I; split; exact bf_rel (hr _ _) hno; exact hno)
    | (unfold r1J; split; exact hr _ _; exact hno)
    | (unfold r1O; split; exact hr _ _; exact hr _ _; exact hno)
    | (unfold r0; split; exact hr _ _; exact hno)
    | skip
  case getfield ix =>
    unfold pR
    split
    · refine bf_rel ?_ hno
      unfold t4
      split
      · exact hk _ _ _ _
      · exact qE _ _ _ _ _ (hk _ _ _ _) (fun _ => hk _ _ _ _)
      · exact hk _ _ _ _
      · exact hk _ _ _ _
    · exact hno
  case putfield ix =>
    unfold t4
    split
    · unfold pJR; split; exact bf_rel (hk _ _ _ _) hno; exact hno
    · unfold pRR; split; exact bf_rel (qS _ _ _ (fun _ => hk _ _ _ _)) hno; exact hno
    · unfold pIR; split; exact bf_rel (hk _ _ _ _) hno; exact hno
    · unfold pIR; split; exact bf_rel (hk _ _ _ _) hno; exact hno
  case invokevirtual ix =>
    unfold tkm
    split
    · refine bf_rel ?_ hno
      dsimp only
      unfold hdR
      split
      · refine bf_rel ?_ hno
        unfold t3
        split
        · exact hc _ _ _ _ _ (fun _ _ => qV _ _ _ (hk _ _ _ _))
        · exact hc _ _ _ _ _ (fun _ _ => qI _ _ _ (fun _ => hk _ _ _ _))
        · exact hc _ _ _ _ _ (fun _ _ => qJ _ _ _ (fun _ => hk _ _ _ _))
        · exact hc _ _ _ _ _ (fun _ _ => qO _ _ _ _ _ (hk _ _ _ _) (fun _ => hk _ _ _ _))
      · exact hno
    · exact hno
  case invokestatic ix =>
    unfold xk
    split
    · unfold pCpy; split; exact bf_rel (if_rel hno (hk _ _ _ _)) hno; exact hno
    · unfold pII; split; exact bf_rel (hk _ _ _ _) hno; exact hno
    · unfold pII; split; exact bf_rel (hk _ _ _ _) hno; exact hno
    · unfold pI; split; exact bf_rel (hk _ _ _ _) hno; exact hno
    · unfold tkm
      split
      · refine bf_rel ?_ hno
        dsimp only
        unfold t3
        split
        · exact hc _ _ _ _ _ (fun _ _ => qV _ _ _ (hk _ _ _ _))
        · exact hc _ _ _ _ _ (fun _ _ => qI _ _ _ (fun _ => hk _ _ _ _))
        · exact hc _ _ _ _ _ (fun _ _ => qJ _ _ _ (fun _ => hk _ _ _ _))
        · exact hc _ _ _ _ _ (fun _ _ => qO _ _ _ _ _ (hk _ _ _ _) (fun _ => hk _ _ _ _))
      · exact hno
  case invokespecial ix =>
    unfold nk
    split
    · unfold pR; split; exact bf_rel (hk _ _ _ _) hno; exact hno
    · unfold tkm
      split
      · refine bf_rel ?_ hno
        dsimp only
        unfold hdR
        split
        · exact hc _ _ _ _ _ (fun _ _ => qV _ _ _ (hk _ _ _ _))
        · exact hno
      · exact hno
end
section
/-! runs, and what comes of them -/
def run {S : Type} (cd : Nat → List (Nat × AI)) (L : Nat) (xs : Nat → Int32) (θ : Nat) (rd : S → Nat → Nat → Option Nat) (wr : S → Nat → Nat → Nat → Option S) : Nat → Nat → Nat → LV → List Value → Hp S → Option (Option Value × Hp S)
  | 0, _, _, _, _, _ => none
  | n + 1, M, pc, ls, st, h => match lk (cd M) pc with
    | none => none
    | some ai => stp L xs θ rd wr none (fun pc ls st h => run cd L xs θ rd wr n M pc ls st h) (fun M' as h f => (run cd L xs θ rd wr n M' 0 (entm M' as) [] h).bind (fun q => f q.1 q.2)) (fun v h => some (v, h)) ai pc ls st h
section EV
variable {S : Type} {cd : Nat → List (Nat × AI)} {L : Nat} {xs : Nat → Int32} {θ : Nat} {rd : S → Nat → Nat → Option Nat} {wr : S → Nat → Nat → Nat → Option S}
theorem run_succ : ∀ (n M pc : Nat) (ls : LV) (st : List Value) (h : Hp S) (q : Option Value × Hp S), run cd L xs θ rd wr n M pc ls st h = some q → run cd L xs θ rd wr (n + 1) M pc ls st h = some q := by
  intro n
  induction n with
  | zero => intro M pc ls st h q hq; cases hq
  | succ n ih =>
    intro M pc ls st h q hq
    rw [run] at hq ⊢
    cases hl : lk (cd M) pc with
    | none => rw [hl] at hq; cases hq
    | some ai =>
      rw [hl] at hq
      dsimp only at hq ⊢
      have := stp_rel (S := S) (fun (x y : Option (Option Value × Hp S)) => ∀ q, x = some q → y = some q) (L := L) (xs := xs) (θ := θ) (rd := rd) (wr := wr) (no := none) (no' := none) (k := fun pc ls st h => run cd L xs θ rd wr n M pc ls st h) (k' := fun pc ls st h => run cd L xs θ rd wr (n + 1) M pc ls st h)
        (c := fun M' as h f => (run cd L xs θ rd wr n M' 0 (entm M' as) [] h).bind (fun q => f q.1 q.2)) (c' := fun M' as h f => (run cd L xs θ rd wr (n + 1) M' 0 (entm M' as) [] h).bind (fun q => f q.1 q.2)) (rt := fun v h => some (v, h)) (rt' := fun v h => some (v, h))
        (fun q h => h) (fun pc ls st h q hq => ih M pc ls st h q hq) (fun M' as h f f' hf q hq => by
          obtain ⟨z, h1, h2⟩ := Option.bind_eq_some_iff.mp hq
          exact Option.bind_eq_some_iff.mpr ⟨z, ih _ _ _ _ _ _ h1, hf _ _ _ h2⟩) (fun v h q hq => hq) ai pc ls st h
      exact this q hq
theorem run_le {n n' M pc : Nat} {ls : LV} {st : List Value} {h : Hp S} {q : Option Value × Hp S} (hn : n ≤ n') (hq : run cd L xs θ rd wr n M pc ls st h = some q) : run cd L xs θ rd wr n' M pc ls st h = some q := by
  induction hn with
  | refl => exact hq
  | step _ ih => exact run_succ _ _ _ _ _ _ _ ih
def Ev {S : Type} (cd : Nat → List (Nat × AI)) (L : Nat) (xs : Nat → Int32) (θ : Nat) (rd : S → Nat → Nat → Option Nat) (wr : S → Nat → Nat → Nat → Option S) (M pc : Nat) (ls : LV) (st : List Value) (h : Hp S) (Q : Option Value → Hp S → Prop) : Prop :=
  ∃ (n : Nat) (v : Option Value) (h1 : Hp S), run cd L xs θ rd wr n M pc ls st h = some (v, h1) ∧ Q v h1
theorem Ev.mono {M pc : Nat} {ls : LV} {st : List Value} {h : Hp S} {Q Q' : Option Value → Hp S → Prop} (he : Ev cd L xs θ rd wr M pc ls st h Q) (hq : ∀ v h1, Q v h1 → Q' v h1) : Ev cd L xs θ rd wr M pc ls st h Q' := by
  obtain ⟨n, v, h1, a, b⟩ := he
  exact ⟨n, v, h1, a, hq v h1 b⟩
theorem Ev.both {M pc : Nat} {ls : LV} {st : List Value} {h : Hp S} {Q Q' : Option Value → Hp S → Prop} (he : Ev cd L xs θ rd wr M pc ls st h Q) (he' : Ev cd L xs θ rd wr M pc ls st h Q') : ∃ v h1, Q v h1 ∧ Q' v h1 := by
  obtain ⟨n, v, h1, a, b⟩ := he
  obtain ⟨n', v', h1', a', b'⟩ := he'
  have e1 := run_le (Nat.le_max_left n n') a
  have e2 := run_le (Nat.le_max_right n n') a'
  rw [e1] at e2
  cases e2
  exact ⟨v, h1, b, b'⟩
/-- what a run comes to is all that can be said of it -/
theorem Ev.is {M pc : Nat} {ls : LV} {st : List Value} {h : Hp S} {Q : Option Value → Hp S → Prop} {v : Option Value} {h1 : Hp S} (he : Ev cd L xs θ rd wr M pc ls st h (fun v' h' => v' = v ∧ h' = h1)) : Ev cd L xs θ rd wr M pc ls st h Q ↔ Q v h1 := by
  constructor
  · intro hq
    obtain ⟨v', h', ⟨rfl, rfl⟩, b⟩ := he.both hq
    exact b
  · intro hq
    exact he.mono (fun v' h' e => by rw [e.1, e.2]; exact hq)
theorem Ev_step {M pc : Nat} {ls : LV} {st : List Value} {h : Hp S} {Q : Option Value → Hp S → Prop} {ai : AI} (hl : lk (cd M) pc = some ai) :
    stp L xs θ rd wr False (fun pc ls st h => Ev cd L xs θ rd wr M pc ls st h Q) (fun M' as h f => Ev cd L xs θ rd wr M' 0 (entm M' as) [] h f) Q ai pc ls st h ↔ Ev cd L xs θ rd wr M pc ls st h Q := by
  constructor
  · intro hq
    have h1 := stp_rel (S := S) (fun (x : Nat → Option (Option Value × Hp S)) (P : Prop) => P → ∃ n0, ∀ n, n0 ≤ n → ∃ v h1, x n = some (v, h1) ∧ Q v h1) (L := L) (xs := xs) (θ := θ) (rd := rd) (wr := wr) (no := fun _ => none) (no' := False)
      (k := fun pc ls st h n => run cd L xs θ rd wr n M pc ls st h) (k' := fun pc ls st h => Ev cd L xs θ rd wr M pc ls st h Q) (c := fun M' as h f n => (run cd L xs θ rd wr n M' 0 (entm M' as) [] h).bind (fun q => f q.1 q.2 n)) (c' := fun M' as h f => Ev cd L xs θ rd wr M' 0 (entm M' as) [] h f)
      (rt := fun v h _ => some (v, h)) (rt' := Q) (fun hf => hf.elim) (fun pc ls st h he => by
        obtain ⟨n, v, h1, a, b⟩ := he
        exact ⟨n, fun n' hn => ⟨v, h1, run_le hn a, b⟩⟩) (fun M' as h f f' hf he => by
        obtain ⟨n, v, h1, a, b⟩ := he
        obtain ⟨n2, hn2⟩ := hf v h1 b
        refine ⟨max n n2, fun n' hn => ?_⟩
        obtain ⟨v2, h2, a2, b2⟩ := hn2 n' (Nat.le_trans (Nat.le_max_right _ _) hn)
        exact ⟨v2, h2, by rw [run_le (Nat.le_trans (Nat.le_max_left _ _) hn) a]; exact a2, b2⟩) (fun v h hq => ⟨0, fun n _ => ⟨v, h, rfl, hq⟩⟩) ai pc ls st h hq
    obtain ⟨n0, hn⟩ := h1
    obtain ⟨v, h1, a, b⟩ := hn n0 (Nat.le_refl _)
    refine ⟨n0 + 1, v, h1, ?_, b⟩
    rw [run, hl, ← a]
    dsimp only
    exact (stp_rel (S := S) (fun (x : Nat → Option (Option Value × Hp S)) (y : Option (Option Value × Hp S)) => y = x n0) (no := fun _ => none) (no' := none)
      (k := fun pc ls st h n => run cd L xs θ rd wr n M pc ls st h) (k' := fun pc ls st h => run cd L xs θ rd wr n0 M pc ls st h) (c := fun M' as h f n => (run cd L xs θ rd wr n M' 0 (entm M' as) [] h).bind (fun q => f q.1 q.2 n)) (c' := fun M' as h f => (run cd L xs θ rd wr n0 M' 0 (entm M' as) [] h).bind (fun q => f q.1 q.2))
      (rt := fun v h _ => some (v, h)) (rt' := fun v h => some (v, h)) rfl (fun _ _ _ _ => rfl) (fun M' as h f f' hf => by
      show (run cd L xs θ rd wr n0 M' 0 (entm M' as) [] h).bind (fun q => f' q.1 q.2) = (run cd L xs θ rd wr n0 M' 0 (entm M' as) [] h).bind (fun q => f q.1 q.2 n0)
      cases run cd L xs θ rd wr n0 M' 0 (entm M' as) [] h with
      | none => rfl
      | some q => exact hf _ _) (fun _ _ => rfl) ai pc ls st h)
  · rintro ⟨n, v, h1, a, b⟩
    cases n with
    | zero => cases a
    | succ n =>
      rw [run, hl] at a
      dsimp only at a
      exact stp_rel (S := S) (fun (x : Option (Option Value × Hp S)) (P : Prop) => ∀ v h1, x = some (v, h1) → Q v h1 → P) (fun v h1 e _ => by cases e) (fun pc ls st h v h1 e q => ⟨n, v, h1, e, q⟩) (fun M' as h f f' hf v h1 e q => by
        obtain ⟨z, e1, e2⟩ := Option.bind_eq_some_iff.mp e
        exact ⟨n, z.1, z.2, e1, hf _ _ _ _ e2 q⟩) (fun v h v' h' e q => by cases e; exact q) ai pc ls st h v h1 a b
def inn : List Nat → Nat → Bool
  | [], _ => false
  | a :: t, n => bif Nat.beq a n then true else inn t n
/-- steps, up to n of them, stopping at the places of 'stops' -/
def wp {S : Type} (cd : Nat → List (Nat × AI)) (L : Nat) (xs : Nat → Int32) (θ : Nat) (rd : S → Nat → Nat → Option Nat) (wr : S → Nat → Nat → Nat → Option S) (M : Nat) (cm : List (Nat × AI)) (stops : List Nat) (Q : Option Value → Hp S → Prop) : Nat → Nat → LV → List Value → Hp S → Prop
  | 0, pc, ls, st, h => Ev cd L xs θ rd wr M pc ls st h Q
  | n + 1, pc, ls, st, h => match lk cm pc with
    | none => Ev cd L xs θ rd wr M pc ls st h Q
    | some ai => stp L xs θ rd wr False (fun pc ls st h => bif inn stops pc then Ev cd L xs θ rd wr M pc ls st h Q else wp cd L xs θ rd wr M cm stops Q n pc ls st h) (fun M' as h f => Ev cd L xs θ rd wr M' 0 (entm M' as) [] h f) Q ai pc ls st h
theorem wp_iff {M : Nat} {cm : List (Nat × AI)} (hcm : cd M = cm) {stops : List Nat} {Q : Option Value → Hp S → Prop} : ∀ (n pc : Nat) (ls : LV) (st : List Value) (h : Hp S), Ev cd L xs θ rd wr M pc ls st h Q ↔ wp cd L xs θ rd wr M cm stops Q n pc ls st h := by
  intro n
  induction n with
  | zero => intro pc ls st h; exact Iff.rfl
  | succ n ih =>
    intro pc ls st h
    rw [wp]
    cases hl : lk cm pc with
    | none => exact Iff.rfl
    | some ai =>
      dsimp only
      rw [← Ev_step (ai := ai) (by rw [hcm]; exact hl)]
      refine stp_rel (S := S) (fun (x y : Prop) => x ↔ y) Iff.rfl (fun pc ls st h => ?_) (fun M' as h f f' hf => ?_) (fun _ _ => Iff.rfl) ai pc ls st h
      · cases inn stops pc
        · exact ih pc ls st h
        · exact Iff.rfl
      · exact ⟨fun e => e.mono (fun v h1 => (hf v h1).mp), fun e => e.mono (fun v h1 => (hf v h1).mpr)⟩
end EV
end
section
/-! the number of cells never falls -/
def leN {S : Type} (n : Nat) (x : Option (Option Value × Hp S)) : Prop := ∀ q, x = some q → n ≤ q.2.1
theorem leN_no {S : Type} {n : Nat} : leN (S := S) n none := fun _ h => by cases h
theorem leN_up {S : Type} {n m : Nat} {x : Option (Option Value × Hp S)} (h : n ≤ m) (hx : leN m x) : leN n x := fun q hq => Nat.le_trans h (hx q hq)
theorem bf_le {S : Type} {n : Nat} {b : Bool} {x y : Option (Option Value × Hp S)} (h1 : leN n x) (h2 : leN n y) : leN n (bif b then x else y) := by
  cases b
  · exact h2
  · exact h1
theorem if_le {S : Type} {n : Nat} {c : Prop} [Decidable c] {x y : Option (Option Value × Hp S)} (h1 : leN n x) (h2 : leN n y) : leN n (if c then x else y) := by
  by_cases h : c
  · rw [if_pos h]
    exact h1
  · rw [if_neg h]
    exact h2
theorem swt_le {S : Type} {n : Nat} {x : Int32} {f : Nat → Option (Option Value × Hp S)} {d : Option (Option Value × Hp S)} (hf : ∀ t, leN n (f t)) (hd : leN n d) : ∀ l : List (Int32 × Nat), leN n (swt x l f d)
  | [] => hd
  | (v, t) :: r => by
    unfold swt
    exact if_le (hf t) (swt_le hf hd r)
set_option maxHeartbeats 4000000 in
set_option maxRecDepth 100000 in
theorem stp_le {S : Type} {L : Nat} {xs : Nat → Int32} {θ : Nat} {rd : S → Nat → Nat → Option Nat} {wr : S → Nat → Nat → Nat → Option S} {k : Nat → LV → List Value → Hp S → Option (Option Value × Hp S)}
    {c : Nat → List Value → Hp S → (Option Value → Hp S → Option (Option Value × Hp S)) → Option (Option Value × Hp S)} {rt : Option Value → Hp S → Option (Option Value × Hp S)}
    (hk0 : ∀ pc ls st h, leN h.1 (k pc ls st h)) (hc : ∀ M as h f, (∀ v h1, leN h1.1 (f v h1)) → leN h.1 (c M as h f)) (hr : ∀ v h, leN h.1 (rt v h))
    (ai : AI) (pc : Nat) (ls : LV) (st : List Value) (h : Hp S) : leN h.1 (stp L xs θ rd wr none k c rt ai pc ls st h) := by
  have hno : leN (S := S) h.1 none := leN_no
  have hk : ∀ pc ls st h', h'.1 = h.1 → leN h.1 (k pc ls st h') := fun pc ls st h' e => by rw [← e]; exact hk0 pc ls st h'
  have qI : ∀ (n : Nat) (v : Option Value) (f : Int32 → Option (Option Value × Hp S)), (∀ x, leN n (f x)) → leN n (rI v none f) := by
    intro n v f hf
    unfold rI
    split
    · exact hf _
    · exact leN_no
  have qJ : ∀ (n : Nat) (v : Option Value) (f : Int64 → Option (Option Value × Hp S)), (∀ x, leN n (f x)) → leN n (rJ v none f) := by
    intro n v f hf
    unfold rJ
    split
    · exact hf _
    · exact leN_no
  have qO : ∀ (n : Nat) (v : Option Value) (m : Option (Option Value × Hp S)) (f : Nat → Option (Option Value × Hp S)), leN n m → (∀ x, leN n (f x)) → leN n (rO v none m f) := by
    intro n v m f hn hf
    unfold rO
    split
    · exact hn
    · exact hf _
    · exact leN_no
  have qV : ∀ (n : Nat) (v : Option Value) (m : Option (Option Value × Hp S)), leN n m → leN n (rV v none m) := by
    intro n v m hn
    unfold rV
    split
    · exact hn
    · exact leN_no
  have qS : ∀ (o : Option S) (f : S → Option (Option Value × Hp S)), (∀ x, leN h.1 (f x)) → leN h.1 (oS o none f) := by
    intro v f hf
    unfold oS
    split
    · exact hf _
    · exact hno
  have qE : ∀ (o : Option Nat) (m : Option (Option Value × Hp S)) (f : Nat → Option (Option Value × Hp S)), leN h.1 m → (∀ x, leN h.1 (f x)) → leN h.1 (oel o m f) := by
    intro v m f hn hf
    unfold oel
    split
    · exact hn
    · exact hf _
  obtain ⟨i, len, a, sw⟩ := ai
  cases i
  case ifCond cd off => cases cd <;> (unfold stp; dsimp only; unfold pI; split; exact if_le (hk _ _ _ _ rfl) (hk _ _ _ _ rfl); exact hno)
  case if_icmp cd off => cases cd <;> (unfold stp; dsimp only; unfold pII; split; exact if_le (hk _ _ _ _ rfl) (hk _ _ _ _ rfl); exact hno)
  all_goals (unfold stp; dsimp only)
  all_goals first
    | exact hno
    | exact hk _ _ _ _ rfl
    | exact qI _ _ _ (fun _ => hk _ _ _ _ rfl)
    | exact qJ _ _ _ (fun _ => hk _ _ _ _ rfl)
    | exact qO _ _ _ _ (hk _ _ _ _ rfl) (fun _ => hk _ _ _ _ rfl)
    | exact qI _ _ _ (fun _ => bf_le (hk _ _ _ _ rfl) hno)
    | (unfold pI; split; exact hk _ _ _ _ rfl; exact hno)
    | (unfold pII; split; exact hk _ _ _ _ rfl; exact hno)
    | (unfold pJJ; split; exact hk _ _ _ _ rfl; exact hno)
    | (unfold pII; split; exact if_le hno (hk _ _ _ _ rfl); exact hno)
    | (unfold pJJ; split; exact if_le hno (hk _ _ _ _ rfl); exact hno)
    | (unfold pI; split; exact bf_le (hk _ _ _ _ rfl) hno; exact hno)
    | (unfold pJ; split; exact bf_le (hk _ _ _ _ rfl) hno; exact hno)
    | (unfold pO; split; exact bf_le (hk _ _ _ _ rfl) hno; exact bf_le (hk _ _ _ _ rfl) hno; exact hno)
    | (unfold pO; split; exact hk _ _ _ _ rfl; exact hk _ _ _ _ rfl; exact hno)
    | (unfold pI; split; exact swt_le (fun _ => hk _ _ _ _ rfl) (hk _ _ _ _ rfl) _; exact hno)
    | (unfold pIR; split; exact bf_le (if_le hno (hk _ _ _ _ rfl)) hno; exact hno)
    | (unfold pIR; split; exact bf_le (if_le hno (qE _ _ _ (hk _ _ _ _ rfl) (fun _ => hk _ _ _ _ rfl))) hno; exact hno)
    | (unfold pIIR; split; exact bf_le (if_le hno (hk _ _ _ _ rfl)) hno; exact hno)
    | (unfold pRIR; split; exact bf_le (if_le hno (qS _ _ (fun _ => hk _ _ _ _ rfl))) hno; exact hno)
    | (unfold pR; split; exact bf_le (hk _ _ _ _ rfl) hno; exact hno)
    | exact bf_le (hk _ _ _ _ rfl) hno
    | exact bf_le (leN_up (Nat.le_succ _) (hk0 _ _ _ (hN h 1))) hno
    | (unfold pI; split; exact bf_le (leN_up (Nat.le_succ _) (hk0 _ _ _ (hN h 1))) hno; exact hno)
    | (unfold pII; split; exact bf_le (qS _ _ (fun _ => leN_up (Nat.le_add_right _ _) (hk0 _ _ _ _))) hno; exact hno)
    | (unfold pD; split; exact hk _ _ _ _ rfl; exact hk _ _ _ _ rfl; exact hno)
    | (unfold pIR; split; exact hk _ _ _ _ rfl; exact hno)
    | (unfold r1I; split; exact bf_le (hr _ _) hno; exact hno)
    | (unfold r1J; split; exact hr _ _; exact hno)
    | (unfold r1O; split; exact hr _ _; exact hr _ _; exact hno)
    | (unfold r0; split; exact hr _ _; exact hno)
    | skip
  case getfield ix =>
    unfold pR
    split
    · refine bf_le ?_ hno
      unfold t4
      split
      · exact hk _ _ _ _ rfl
      · exact qE _ _ _ (hk _ _ _ _ rfl) (fun _ => hk _ _ _ _ rfl)
      · exact hk _ _ _ _ rfl
      · exact hk _ _ _ _ rfl
    · exact hno
  case putfield ix =>
    unfold t4
    split
    · unfold pJR; split; exact bf_le (hk _ _ _ _ rfl) hno; exact hno
    · unfold pRR; split; exact bf_le (qS _ _ (fun _ => hk _ _ _ _ rfl)) hno; exact hno
    · unfold pIR; split; exact bf_le (hk _ _ _ _ rfl) hno; exact hno
    · unfold pIR; split; exact bf_le (hk _ _ _ _ rfl) hno; exact hno
  case invokevirtual ix =>
    unfold tkm
    split
    · refine bf_le ?_ hno
      dsimp only
      unfold hdR
      split
      · refine bf_le ?_ hno
        unfold t3
        split
        · exact hc _ _ _ _ (fun _ _ => qV _ _ _ (hk0 _ _ _ _))
        · exact hc _ _ _ _ (fun _ _ => qI _ _ _ (fun _ => hk0 _ _ _ _))
        · exact hc _ _ _ _ (fun _ _ => qJ _ _ _ (fun _ => hk0 _ _ _ _))
        · exact hc _ _ _ _ (fun _ _ => qO _ _ _ _ (hk0 _ _ _ _) (fun _ => hk0 _ _ _ _))
      · exact hno
    · exact hno
  case invokestatic ix =>
    unfold xk
    split
    · unfold pCpy; split; exact bf_le (if_le hno (hk _ _ _ _ rfl)) hno; exact hno
    · unfold pII; split; exact bf_le (hk _ _ _ _ rfl) hno; exact hno
    · unfold pII; split; exact bf_le (hk _ _ _ _ rfl) hno; exact hno
    · unfold pI; split; exact bf_le (hk _ _ _ _ rfl) hno; exact hno
    · unfold tkm
      split
      · refine bf_le ?_ hno
        dsimp only
        unfold t3
        split
        · exact hc _ _ _ _ (fun _ _ => qV _ _ _ (hk0 _ _ _ _))
        · exact hc _ _ _ _ (fun _ _ => qI _ _ _ (fun _ => hk0 _ _ _ _))
        · exact hc _ _ _ _ (fun _ _ => qJ _ _ _ (fun _ => hk0 _ _ _ _))
        · exact hc _ _ _ _ (fun _ _ => qO _ _ _ _ (hk0 _ _ _ _) (fun _ => hk0 _ _ _ _))
      · exact hno
  case invokespecial ix =>
    unfold nk
    split
    · unfold pR; split; exact bf_le (hk _ _ _ _ rfl) hno; exact hno
    · unfold tkm
      split
      · refine bf_le ?_ hno
        dsimp only
        unfold hdR
        split
        · exact hc _ _ _ _ (fun _ _ => qV _ _ _ (hk0 _ _ _ _))
        · exact hno
      · exact hno
theorem run_n {S : Type} {cd : Nat → List (Nat × AI)} {L : Nat} {xs : Nat → Int32} {θ : Nat} {rd : S → Nat → Nat → Option Nat} {wr : S → Nat → Nat → Nat → Option S} : ∀ (n M pc : Nat) (ls : LV) (st : List Value) (h : Hp S), leN h.1 (run cd L xs θ rd wr n M pc ls st h) := by
  intro n
  induction n with
  | zero => intro M pc ls st h; exact leN_no
  | succ n ih =>
    intro M pc ls st h
    rw [run]
    cases lk (cd M) pc with
    | none => exact leN_no
    | some ai =>
      refine stp_le (fun pc ls st h => ih M pc ls st h) (fun M' as h f hf => ?_) (fun v h q hq => by cases hq; exact Nat.le_refl _) ai pc ls st h
      intro q hq
      obtain ⟨z, e1, e2⟩ := Option.bind_eq_some_iff.mp hq
      exact Nat.le_trans (ih _ _ _ _ _ z e1) (hf _ _ q e2)
end
section
/-! cells of the machine and cells of the heap -/
abbrev Gx : Type := Nat × (Nat → Int32) × Nat × Nat × (Nat → Nat) × va_G × ClassId × ClassId × ClassId × ClassId
abbrev gL (G : Gx) : Nat := G.1
abbrev gX (G : Gx) : Nat → Int32 := G.2.1
abbrev gT (G : Gx) : Nat := G.2.2.1
abbrev gB (G : Gx) : Nat := G.2.2.2.1
abbrev gS (G : Gx) : Nat → Nat := G.2.2.2.2.1
abbrev gD (G : Gx) : va_G := G.2.2.2.2.2.1
abbrev gI (G : Gx) : ClassId := G.2.2.2.2.2.2.1
abbrev gZ (G : Gx) : ClassId := G.2.2.2.2.2.2.2.1
abbrev gN (G : Gx) : ClassId := G.2.2.2.2.2.2.2.2.1
abbrev gA (G : Gx) : ClassId := G.2.2.2.2.2.2.2.2.2
abbrev tyL (G : Gx) : List (ClassId × FieldType) := [(gI G, .int), (gZ G, .boolean), (gN G, .object "DryLand$Line"), (gA G, .array .int)]
def phi (G : Gx) (a : Nat) : Nat := if a < 5 then gS G a else gB G + (a - 5)
def phv (G : Gx) (v : Value) : Value := match v with
  | .ref a => .ref (phi G a)
  | v => v
def AA (G : Gx) : Nat → Prop := fun q => gB G ≤ q
def szs (L : Nat) : Nat → Nat
  | 0 => 0
  | n + 1 => szs L n + (shT L n).2
theorem szs_le (L : Nat) {a b : Nat} (h : a ≤ b) : szs L a ≤ szs L b := by
  induction h with
  | refl => exact Nat.le_refl _
  | step _ ih => exact Nat.le_trans ih (Nat.le_add_right _ _)
section CE
variable {S : Type} (rd : S → Nat → Nat → Option Nat)
def fld (G : Gx) (h : Hp S) (c a j : Nat) : Value := match gn (gll ftT c) j with
  | 1 => .long (h.2.2.1 a j)
  | 2 => va_rf ((rd h.2.2.2 a j).map (phi G))
  | _ => .int (h.2.1 a j)
def fds (G : Gx) (h : Hp S) (c a : Nat) : List Value := (List.range (clT c).2.2).map (fld rd G h c a)
def cellE (G : Gx) (h : Hp S) (a : Nat) : va_E := match (shT (gL G) a).1 with
  | 0 => .inl (gI G, (shT (gL G) a).2, .inl (h.2.1 a))
  | 1 => .inl (gZ G, (shT (gL G) a).2, .inl (h.2.1 a))
  | 2 => .inl (gN G, (shT (gL G) a).2, .inr (.inr (.inr (.inr (fun i => (rd h.2.2.2 a i).map (phi G))))))
  | 3 => .inl (gA G, (shT (gL G) a).2, .inr (.inr (.inr (.inr (fun i => (rd h.2.2.2 a i).map (phi G))))))
  | t + 4 => .inr (t, fds rd G h t a)
def wld (G : Gx) (h : Hp S) : va_W := (List.range (h.1 - 5)).map (fun j => (gB G + j, cellE rd G h (j + 5)))
variable {rd}
theorem wld_get {G : Gx} {h : Hp S} {a : Nat} (h5 : 5 ≤ a) (ha : a < h.1) : (wld rd G h)[a - 5]? = some (phi G a, cellE rd G h a) := by
  unfold wld
  rw [List.getElem?_map, List.getElem?_range (by omega)]
  simp only [Option.map_some]
  rw [show a - 5 + 5 = a by omega]
  unfold phi
  rw [if_neg (by omega)]
theorem wld_at {G : Gx} {h : Hp S} {k : Nat} {q : Nat × va_E} (hk : (wld rd G h)[k]? = some q) : k < h.1 - 5 ∧ q = (gB G + k, cellE rd G h (k + 5)) := by
  unfold wld at hk
  rw [List.getElem?_map] at hk
  cases hr : (List.range (h.1 - 5))[k]? with
  | none => rw [hr] at hk; cases hk
  | some j =>
    rw [hr] at hk
    obtain ⟨h1, h2⟩ := List.getElem?_eq_some_iff.mp hr
    simp at h1 h2
    subst h2
    simp only [Option.map_some, Option.some.injEq] at hk
    exact ⟨h1, hk.symm⟩
theorem wld_D (G : Gx) (h : Hp S) : va_D (AA G) (wld rd G h) := by
  refine ⟨fun i j p q hi hj e => ?_, fun k q hk => ?_⟩
  · obtain ⟨-, rfl⟩ := wld_at hi
    obtain ⟨-, rfl⟩ := wld_at hj
    simp only at e
    omega
  · obtain ⟨-, rfl⟩ := wld_at hk
    exact Nat.le_add_right _ _
theorem fld_eq {G : Gx} {h h' : Hp S} {a : Nat} (h1 : h'.2.1 a = h.2.1 a) (h2 : h'.2.2.1 a = h.2.2.1 a) (h3 : ∀ i, rd h'.2.2.2 a i = rd h.2.2.2 a i) (c : Nat) : fld rd G h' c a = fld rd G h c a := by
  funext j
  unfold fld
  rw [h1, h2, h3]
theorem cellE_eq {G : Gx} {h h' : Hp S} {a : Nat} (h1 : h'.2.1 a = h.2.1 a) (h2 : h'.2.2.1 a = h.2.2.1 a) (h3 : ∀ i, rd h'.2.2.2 a i = rd h.2.2.2 a i) : cellE rd G h' a = cellE rd G h a := by
  have e : (fun i => (rd h'.2.2.2 a i).map (phi G)) = (fun i => (rd h.2.2.2 a i).map (phi G)) := funext fun i => by rw [h3]
  unfold cellE fds
  rw [h1, e]
  split
  · rfl
  · rfl
  · rfl
  · rfl
  · rw [fld_eq h1 h2 h3]
theorem wld_set {G : Gx} {h h' : Hp S} {a : Nat} (h5 : 5 ≤ a) (ha : a < h.1) (hn : h'.1 = h.1) (ho : ∀ b, b ≠ a → cellE rd G h' b = cellE rd G h b) : (wld rd G h).set (a - 5) (phi G a, cellE rd G h' a) = wld rd G h' := by
  apply List.ext_getElem?
  intro k
  rw [List.getElem?_set]
  by_cases e : a - 5 = k
  · subst e
    rw [if_pos rfl]
    have hl : a - 5 < (wld rd G h).length := by unfold wld; simp; omega
    rw [if_pos hl, wld_get h5 (by rw [hn]; exact ha)]
  · rw [if_neg e]
    by_cases hk : k < h.1 - 5
    · have g1 := wld_get (rd := rd) (G := G) (h := h) (a := k + 5) (by omega) (by omega)
      have g2 := wld_get (rd := rd) (G := G) (h := h') (a := k + 5) (by omega) (by omega)
      rw [show k + 5 - 5 = k by omega] at g1 g2
      rw [g1, g2, ho (k + 5) (by omega)]
    · have z1 : (wld rd G h)[k]? = none := by unfold wld; rw [List.getElem?_map, List.getElem?_eq_none (by simp; omega)]; rfl
      have z2 : (wld rd G h')[k]? = none := by unfold wld; rw [List.getElem?_map, List.getElem?_eq_none (by simp; omega)]; rfl
      rw [z1, z2]
theorem wld_push {G : Gx} {h : Hp S} {h' : Hp S} (h5 : 5 ≤ h.1) (hn : h'.1 = h.1 + 1) (ho : ∀ b, b < h.1 → cellE rd G h' b = cellE rd G h b) : wld rd G h ++ [(gB G + (h.1 - 5), cellE rd G h' h.1)] = wld rd G h' := by
  unfold wld
  rw [hn, show h.1 + 1 - 5 = (h.1 - 5) + 1 by omega, List.range_succ, List.map_append]
  simp only [List.map_cons, List.map_nil]
  rw [show h.1 - 5 + 5 = h.1 by omega]
  congr 1
  apply List.map_congr_left
  intro j hj
  rw [ho (j + 5) (by have := List.mem_range.mp hj; omega)]
/-- no cell that isn't made yet bears anything -/
def zer (rd : S → Nat → Nat → Option Nat) (h : Hp S) : Prop := ∀ a, h.1 ≤ a → ∀ i, h.2.1 a i = 0 ∧ h.2.2.1 a i = 0 ∧ rd h.2.2.2 a i = none
def RelH (rd : S → Nat → Nat → Option Nat) (G : Gx) (h : Hp S) (H : Heap) : Prop := 5 ≤ h.1 ∧ gT G ≤ h.1 ∧ va_P (gD G) vwCl (wld rd G h) H ∧ zer rd h
end CE
def nestL : List (Nat × Nat × Nat × Nat) := ctab.filter (fun e => Nat.ble 3 e.2.2.2)
noncomputable def nestW (e : Nat × Nat × Nat × Nat) : Cond := .methodLinkNest (own e.1) e.2.1 (yM e.2.2.1) "DryLand"
def AOK (G : Gx) (U : State) : Prop := ∃ kA : Class, U.vm.classes[gA G]? = some kA ∧ kA.kind = .array (gI G) (.array .int)
/-- what is fixed: tables, nest mates, the script and Reader's rows -/
def KU (G : Gx) (U : State) : Prop := va_K (gD G) vwCl (tyL G) U ∧ (∀ e ∈ nestL, va_Nw (nestW e) U) ∧ va_AO "DryLand$Line" U ∧ AOK G U ∧
  (∀ k, k < 5 → va_T .int (gS G k) (shT (gL G) k).2 (fun i => .int (stv (gX G) k i)) (AA G) U U.heap) ∧ ∀ k, 0 < k → k < 5 → va_Z "DryLand$Reader" (statN k) "[I" (.ref (gS G k)) (AA G) U U.heap
theorem okT_at {L θ n a tg : Nat} (h : okT L θ n a tg = true) (hθ : θ ≤ n) : (shT L a).1 = tg ∧ a < n := by
  unfold okT at h
  simp only [Bool.and_eq_true, Bool.or_eq_true] at h
  refine ⟨nbeq h.1, ?_⟩
  rcases h.2 with q | q
  · have := Nat.blt_eq.mp q
    omega
  · exact Nat.blt_eq.mp q
theorem sh5 {L a : Nat} (h : (shT L a).1 ≠ 0) : 5 ≤ a := by
  match a with
  | 0 => exact absurd rfl h
  | 1 => exact absurd rfl h
  | 2 => exact absurd rfl h
  | 3 => exact absurd rfl h
  | 4 => exact absurd rfl h
  | a + 5 => omega
theorem phi5 {G : Gx} {a : Nat} (h : 5 ≤ a) : phi G a = gB G + (a - 5) := if_neg (by omega)
theorem phi_lt {G : Gx} {a : Nat} (h : a < 5) : phi G a = gS G a := if_pos h
end
section
/-! rows of instructions on the machine's states -/
theorem gl_sl : ∀ (ls : LV) (i j : Nat) (x : Option Value), gl (sl ls i x) j = if j = i then x else gl ls j
  | [], 0, 0, x => rfl
  | [], 0, j + 1, x => by rw [if_neg (by omega)]; rfl
  | [], i + 1, 0, x => by rw [if_neg (by omega)]; rfl
  | [], i + 1, j + 1, x => by
    show gl (sl [] i x) j = _
    rw [gl_sl [] i j x]
    by_cases h : j = i
    · rw [if_pos h, if_pos (by omega)]
    · rw [if_neg h, if_neg (by omega)]; rfl
  | _ :: t, 0, 0, x => rfl
  | _ :: t, 0, j + 1, x => by rw [if_neg (by omega)]; rfl
  | a :: t, i + 1, 0, x => by rw [if_neg (by omega)]; rfl
  | a :: t, i + 1, j + 1, x => by
    show gl (sl t i x) j = _
    rw [gl_sl t i j x]
    by_cases h : j = i
    · rw [if_pos h, if_pos (by omega)]
    · rw [if_neg h, if_neg (by omega)]; rfl
theorem phv_cat (G : Gx) (v : Value) : (phv G v).category = v.category := by cases v <;> rfl
def LRel (G : Gx) (cls : Array Slot) (nL : Nat) (ls : LV) : Prop := cls.size = nL ∧ lv_wf cls ∧ ∀ (i : Nat) (v : Value), gl ls i = some v → cls[i]? = some (.val (phv G v))
def lvA (G : Gx) (ls : LV) (nL : Nat) : List (Nat × Value) := (List.range nL).filterMap (fun j => (gl ls j).map (fun v => (j, phv G v)))
theorem lvA_in {G : Gx} {ls : LV} {nL j : Nat} {v : Value} (h : gl ls j = some v) (hj : j < nL) : (j, phv G v) ∈ lvA G ls nL := by
  unfold lvA
  exact List.mem_filterMap.mpr ⟨j, List.mem_range.mpr hj, by rw [h]; rfl⟩
theorem lvA_has {G : Gx} {cls : Array Slot} {nL : Nat} {ls : LV} (h : LRel G cls nL ls) : lv_has cls nL (lvA G ls nL) := by
  refine ⟨h.1, h.2.1, fun q hq => ?_⟩
  obtain ⟨j, -, hj⟩ := List.mem_filterMap.mp hq
  cases hg : gl ls j with
  | none => rw [hg] at hj; cases hj
  | some v =>
    rw [hg] at hj
    cases hj
    exact h.2.2 j v hg
theorem LRel.lt {G : Gx} {cls : Array Slot} {nL : Nat} {ls : LV} (h : LRel G cls nL ls) {j : Nat} {v : Value} (hj : gl ls j = some v) : j < nL := by
  have := lv_lt (h.2.2 j v hj)
  rw [h.1] at this
  exact this
theorem nl_cat {ls : LV} {i j : Nat} {v : Value} (h : nl ls i = true) (e : j + 1 = i) (hj : gl ls j = some v) : v.category = 1 := by
  subst e
  have h : (match gl ls j with
    | some v => Nat.beq v.category 1
    | none => true) = true := h
  rw [hj] at h
  exact nbeq h
theorem LRel.store1 {G : Gx} {cls cls' : Array Slot} {nL : Nat} {ls : LV} {i : Nat} {v : Value} (h : LRel G cls nL ls) (hn : nl ls i = true)
    (h' : lv_has cls' nL ((i, phv G v) :: (lvA G ls nL).filter (fun q => !(q.1 == i) && !(q.1 + 1 == i && q.2.category == 2)))) : LRel G cls' nL (sl ls i (some v)) := by
  refine ⟨h'.1, h'.2.1, fun j w hw => ?_⟩
  rw [gl_sl] at hw
  by_cases e : j = i
  · rw [if_pos e] at hw
    cases hw
    exact h'.2.2 (j, phv G v) (by rw [e]; exact List.mem_cons_self)
  · rw [if_neg e] at hw
    refine h'.2.2 (j, phv G w) (List.mem_cons_of_mem _ (List.mem_filter.mpr ⟨lvA_in hw (h.lt hw), ?_⟩))
    simp only [Bool.and_eq_true, Bool.not_eq_true', beq_eq_false_iff_ne, ne_eq]
    refine ⟨e, ?_⟩
    by_cases e2 : j + 1 = i
    · rw [phv_cat, nl_cat hn e2 hw]
      simp
    · simp [e2]
theorem LRel.store2 {G : Gx} {cls cls' : Array Slot} {nL : Nat} {ls : LV} {i : Nat} {v : Value} (h : LRel G cls nL ls) (hn : nl ls i = true)
    (h' : lv_has cls' nL ((i, phv G v) :: (lvA G ls nL).filter (fun q => !(q.1 == i) && (!(q.1 == i + 1) && !(q.1 + 1 == i && q.2.category == 2))))) : LRel G cls' nL (sl (sl ls (i + 1) none) i (some v)) := by
  refine ⟨h'.1, h'.2.1, fun j w hw => ?_⟩
  rw [gl_sl] at hw
  by_cases e : j = i
  · rw [if_pos e] at hw
    cases hw
    exact h'.2.2 (j, phv G v) (by rw [e]; exact List.mem_cons_self)
  · rw [if_neg e, gl_sl] at hw
    by_cases e1 : j = i + 1
    · rw [if_pos e1] at hw
      cases hw
    · rw [if_neg e1] at hw
      refine h'.2.2 (j, phv G w) (List.mem_cons_of_mem _ (List.mem_filter.mpr ⟨lvA_in hw (h.lt hw), ?_⟩))
      simp only [Bool.and_eq_true, Bool.not_eq_true', beq_eq_false_iff_ne, ne_eq]
      refine ⟨e, e1, ?_⟩
      by_cases e2 : j + 1 = i
      · rw [phv_cat, nl_cat hn e2 hw]
        simp
      · simp [e2]
/-- the machine stands at the state h, pc, ls, st of a method that began with n0 cells -/
def Wst {S : Type} (rd : S → Nat → Nat → Option Nat) (G : Gx) (p : Program) (l : Launch) (e : Env) (R : Room) (s : State) (m : MethodId) (args : Array Value) (below : List Frame) (meth : Method) (c : Code) (n0 nL : Nat) (Q : State → Prop) (h : Hp S) (pc : Nat) (ls : LV) (st : List Value) : Prop :=
  n0 ≤ h.1 → ∀ (H : Heap) (locs : List Loc) (cls : Array Slot), RelH rd G h H → va_S (AA G) s.heap H locs → LRel G cls nL ls → W p l e R s m args below meth c H locs (h.1 - n0) (szs (gL G) h.1 - szs (gL G) n0) Q (F0 m pc cls (st.map (phv G)))
section WST
variable {S : Type} {rd : S → Nat → Nat → Option Nat} {G : Gx} {p : Program} {l : Launch} {e : Env} {R : Room} {s : State} {m : MethodId} {args : Array Value} {below : List Frame} {meth : Method} {c : Code} {n0 nL : Nat} {Q : State → Prop}
variable {cc : ByteArray} {h : Hp S} {pc : Nat} {ls : LV} {r : List Value}
theorem w_iconst (hx : p.tables.exec = Jvm.exec) (hb : c.code = cc) {n : Int} {v : Int32} (hd : decode cc pc = .ok (.iconst n, 1)) (hv : Int32.ofInt n = v) (k : Wst rd G p l e R s m args below meth c n0 nL Q h (pc + 1) ls (.int v :: r)) : Wst rd G p l e R s m args below meth c n0 nL Q h pc ls r :=
  fun hn H locs cls hR hS hL => lv_iconst hx hb hd hv (k hn H locs cls hR hS hL)
theorem w_bipush (hx : p.tables.exec = Jvm.exec) (hb : c.code = cc) {n : Int} {v : Int32} (hd : decode cc pc = .ok (.bipush n, 2)) (hv : (Int8.ofInt n).toInt32 = v) (k : Wst rd G p l e R s m args below meth c n0 nL Q h (pc + 2) ls (.int v :: r)) : Wst rd G p l e R s m args below meth c n0 nL Q h pc ls r :=
  fun hn H locs cls hR hS hL => lv_bipush hx hb hd hv (k hn H locs cls hR hS hL)
theorem w_sipush (hx : p.tables.exec = Jvm.exec) (hb : c.code = cc) {n : Int} {v : Int32} (hd : decode cc pc = .ok (.sipush n, 3)) (hv : (Int16.ofInt n).toInt32 = v) (k : Wst rd G p l e R s m args below meth c n0 nL Q h (pc + 3) ls (.int v :: r)) : Wst rd G p l e R s m args below meth c n0 nL Q h pc ls r :=
  fun hn H locs cls hR hS hL => lv_sipush hx hb hd hv (k hn H locs cls hR hS hL)
theorem w_lconst (hx : p.tables.exec = Jvm.exec) (hb : c.code = cc) {n : Fin 2} {v : Int64} (hd : decode cc pc = .ok (.lconst n, 1)) (hv : Int64.ofNat (n : Nat) = v) (k : Wst rd G p l e R s m args below meth c n0 nL Q h (pc + 1) ls (.long v :: r)) : Wst rd G p l e R s m args below meth c n0 nL Q h pc ls r :=
  fun hn H locs cls hR hS hL => lv_lconst hx hb hd hv (k hn H locs cls hR hS hL)
theorem w_null (hx : p.tables.exec = Jvm.exec) (hb : c.code = cc) (hd : decode cc pc = .ok (.aconst_null, 1)) (k : Wst rd G p l e R s m args below meth c n0 nL Q h (pc + 1) ls (.null :: r)) : Wst rd G p l e R s m args below meth c n0 nL Q h pc ls r :=
  fun hn H locs cls hR hS hL => lv_null hx hb hd (k hn H locs cls hR hS hL)
theorem w_iload (hx : p.tables.exec = Jvm.exec) (hb : c.code = cc) {i : Nat} {x : Int32} (hd : decode cc pc = .ok (.iload i, 2)) (hg : gl ls i = some (.int x)) (k : Wst rd G p l e R s m args below meth c n0 nL Q h (pc + 2) ls (.int x :: r)) : Wst rd G p l e R s m args below meth c n0 nL Q h pc ls r :=
  fun hn H locs cls hR hS hL => lv_iload hx hb hd (hL.2.2 i _ hg) (k hn H locs cls hR hS hL)
theorem w_iload_n (hx : p.tables.exec = Jvm.exec) (hb : c.code = cc) {j : Fin 4} {x : Int32} (hd : decode cc pc = .ok (.iload_n j, 1)) (hg : gl ls j.val = some (.int x)) (k : Wst rd G p l e R s m args below meth c n0 nL Q h (pc + 1) ls (.int x :: r)) : Wst rd G p l e R s m args below meth c n0 nL Q h pc ls r :=
  fun hn H locs cls hR hS hL => lv_iload_n hx hb hd rfl (hL.2.2 j.val _ hg) (k hn H locs cls hR hS hL)
theorem w_lload (hx : p.tables.exec = Jvm.exec) (hb : c.code = cc) {i : Nat} {x : Int64} (hd : decode cc pc = .ok (.lload i, 2)) (hg : gl ls i = some (.long x)) (k : Wst rd G p l e R s m args below meth c n0 nL Q h (pc + 2) ls (.long x :: r)) : Wst rd G p l e R s m args below meth c n0 nL Q h pc ls r :=
  fun hn H locs cls hR hS hL => lv_lload hx hb hd (hL.2.2 i _ hg) (k hn H locs cls hR hS hL)
theorem w_lload_n (hx : p.tables.exec = Jvm.exec) (hb : c.code = cc) {j : Fin 4} {x : Int64} (hd : decode cc pc = .ok (.lload_n j, 1)) (hg : gl ls j.val = some (.long x)) (k : Wst rd G p l e R s m args below meth c n0 nL Q h (pc + 1) ls (.long x :: r)) : Wst rd G p l e R s m args below meth c n0 nL Q h pc ls r :=
  fun hn H locs cls hR hS hL => lv_lload_n hx hb hd rfl (hL.2.2 j.val _ hg) (k hn H locs cls hR hS hL)
theorem w_aload (hx : p.tables.exec = Jvm.exec) (hb : c.code = cc) {i : Nat} {x : Nat} (hd : decode cc pc = .ok (.aload i, 2)) (hg : gl ls i = some (.ref x)) (k : Wst rd G p l e R s m args below meth c n0 nL Q h (pc + 2) ls (.ref x :: r)) : Wst rd G p l e R s m args below meth c n0 nL Q h pc ls r :=
  fun hn H locs cls hR hS hL => lv_aload hx hb hd (hL.2.2 i _ hg) (k hn H locs cls hR hS hL)
theorem w_aload_n (hx : p.tables.exec = Jvm.exec) (hb : c.code = cc) {j : Fin 4} {x : Nat} (hd : decode cc pc = .ok (.aload_n j, 1)) (hg : gl ls j.val = some (.ref x)) (k : Wst rd G p l e R s m args below meth c n0 nL Q h (pc + 1) ls (.ref x :: r)) : Wst rd G p l e R s m args below meth c n0 nL Q h pc ls r :=
  fun hn H locs cls hR hS hL => lv_aload_n hx hb hd rfl (hL.2.2 j.val _ hg) (k hn H locs cls hR hS hL)
theorem w_aloadN (hx : p.tables.exec = Jvm.exec) (hb : c.code = cc) {i : Nat} (hd : decode cc pc = .ok (.aload i, 2)) (hg : gl ls i = some .null) (k : Wst rd G p l e R s m args below meth c n0 nL Q h (pc + 2) ls (.null :: r)) : Wst rd G p l e R s m args below meth c n0 nL Q h pc ls r :=
  fun hn H locs cls hR hS hL => lv_aloadN hx hb hd (hL.2.2 i _ hg) (k hn H locs cls hR hS hL)
theorem w_aload_nN (hx : p.tables.exec = Jvm.exec) (hb : c.code = cc) {j : Fin 4} (hd : decode cc pc = .ok (.aload_n j, 1)) (hg : gl ls j.val = some .null) (k : Wst rd G p l e R s m args below meth c n0 nL Q h (pc + 1) ls (.null :: r)) : Wst rd G p l e R s m args below meth c n0 nL Q h pc ls r :=
  fun hn H locs cls hR hS hL => lv_aload_nN hx hb hd rfl (hL.2.2 j.val _ hg) (k hn H locs cls hR hS hL)
theorem w_istore (hx : p.tables.exec = Jvm.exec) (hb : c.code = cc) {i : Nat} {x : Int32} (hd : decode cc pc = .ok (.istore i, 2)) (hi : i < nL) (hm : nl ls i = true) (k : Wst rd G p l e R s m args below meth c n0 nL Q h (pc + 2) (sl ls i (some (.int x))) r) : Wst rd G p l e R s m args below meth c n0 nL Q h pc ls (.int x :: r) :=
  fun hn H locs cls hR hS hL => lv_istore hx hb hd (lvA_has hL) hi rfl (fun cls' hl => k hn H locs cls' hR hS (LRel.store1 hL hm hl))
theorem w_istore_n (hx : p.tables.exec = Jvm.exec) (hb : c.code = cc) {j : Fin 4} {x : Int32} (hd : decode cc pc = .ok (.istore_n j, 1)) (hi : j.val < nL) (hm : nl ls j.val = true) (k : Wst rd G p l e R s m args below meth c n0 nL Q h (pc + 1) (sl ls j.val (some (.int x))) r) : Wst rd G p l e R s m args below meth c n0 nL Q h pc ls (.int x :: r) :=
  fun hn H locs cls hR hS hL => lv_istore_n hx hb hd rfl (lvA_has hL) hi rfl (fun cls' hl => k hn H locs cls' hR hS (LRel.store1 hL hm hl))
theorem w_lstore (hx : p.tables.exec = Jvm.exec) (hb : c.code = cc) {i : Nat} {x : Int64} (hd : decode cc pc = .ok (.lstore i, 2)) (hi : i + 1 < nL) (hm : nl ls i = true) (k : Wst rd G p l e R s m args below meth c n0 nL Q h (pc + 2) (sl (sl ls (i + 1) none) i (some (.long x))) r) : Wst rd G p l e R s m args below meth c n0 nL Q h pc ls (.long x :: r) :=
  fun hn H locs cls hR hS hL => lv_lstore hx hb hd (lvA_has hL) hi rfl (fun cls' hl => k hn H locs cls' hR hS (LRel.store2 hL hm hl))
theorem w_lstore_n (hx : p.tables.exec = Jvm.exec) (hb : c.code = cc) {j : Fin 4} {x : Int64} (hd : decode cc pc = .ok (.lstore_n j, 1)) (hi : j.val + 1 < nL) (hm : nl ls j.val = true) (k : Wst rd G p l e R s m args below meth c n0 nL Q h (pc + 1) (sl (sl ls (j.val + 1) none) j.val (some (.long x))) r) : Wst rd G p l e R s m args below meth c n0 nL Q h pc ls (.long x :: r) :=
  fun hn H locs cls hR hS hL => lv_lstore_n hx hb hd rfl (lvA_has hL) hi rfl (fun cls' hl => k hn H locs cls' hR hS (LRel.store2 hL hm hl))
theorem w_astore (hx : p.tables.exec = Jvm.exec) (hb : c.code = cc) {i : Nat} {x : Nat} (hd : decode cc pc = .ok (.astore i, 2)) (hi : i < nL) (hm : nl ls i = true) (k : Wst rd G p l e R s m args below meth c n0 nL Q h (pc + 2) (sl ls i (some (.ref x))) r) : Wst rd G p l e R s m args below meth c n0 nL Q h pc ls (.ref x :: r) :=
  fun hn H locs cls hR hS hL => lv_astore hx hb hd (lvA_has hL) hi rfl (fun cls' hl => k hn H locs cls' hR hS (LRel.store1 hL hm hl))
theorem w_astore_n (hx : p.tables.exec = Jvm.exec) (hb : c.code = cc) {j : Fin 4} {x : Nat} (hd : decode cc pc = .ok (.astore_n j, 1)) (hi : j.val < nL) (hm : nl ls j.val = true) (k : Wst rd G p l e R s m args below meth c n0 nL Q h (pc + 1) (sl ls j.val (some (.ref x))) r) : Wst rd G p l e R s m args below meth c n0 nL Q h pc ls (.ref x :: r) :=
  fun hn H locs cls hR hS hL => lv_astore_n hx hb hd rfl (lvA_has hL) hi rfl (fun cls' hl => k hn H locs cls' hR hS (LRel.store1 hL hm hl))
theorem w_astoreN (hx : p.tables.exec = Jvm.exec) (hb : c.code = cc) {i : Nat} (hd : decode cc pc = .ok (.astore i, 2)) (hi : i < nL) (hm : nl ls i = true) (k : Wst rd G p l e R s m args below meth c n0 nL Q h (pc + 2) (sl ls i (some .null)) r) : Wst rd G p l e R s m args below meth c n0 nL Q h pc ls (.null :: r) :=
  fun hn H locs cls hR hS hL => lv_astoreN hx hb hd (lvA_has hL) hi rfl (fun cls' hl => k hn H locs cls' hR hS (LRel.store1 (v := .null) hL hm hl))
theorem w_astore_nN (hx : p.tables.exec = Jvm.exec) (hb : c.code = cc) {j : Fin 4} (hd : decode cc pc = .ok (.astore_n j, 1)) (hi : j.val < nL) (hm : nl ls j.val = true) (k : Wst rd G p l e R s m args below meth c n0 nL Q h (pc + 1) (sl ls j.val (some .null)) r) : Wst rd G p l e R s m args below meth c n0 nL Q h pc ls (.null :: r) :=
  fun hn H locs cls hR hS hL => lv_astore_nN hx hb hd rfl (lvA_has hL) hi rfl (fun cls' hl => k hn H locs cls' hR hS (LRel.store1 (v := .null) hL hm hl))
theorem w_iinc (hx : p.tables.exec = Jvm.exec) (hb : c.code = cc) {i : Nat} {n : Int} {x v : Int32} (hd : decode cc pc = .ok (.iinc i n, 3)) (hi : i < nL) (hm : nl ls i = true) (hg : gl ls i = some (.int x)) (hv : x + Int32.ofInt n = v) (k : Wst rd G p l e R s m args below meth c n0 nL Q h (pc + 3) (sl ls i (some (.int v))) r) : Wst rd G p l e R s m args below meth c n0 nL Q h pc ls r := by
  intro hn H locs cls hR hS hL
  obtain ⟨j, hj⟩ := List.getElem?_of_mem (lvA_in (G := G) hg hi)
  exact lv_iinc hx hb hd (lvA_has hL) hj hv hi rfl (fun cls' hl => k hn H locs cls' hR hS (LRel.store1 (v := .int v) hL hm hl))
theorem w_iadd (hx : p.tables.exec = Jvm.exec) (hb : c.code = cc) {x y : Int32} (hd : decode cc pc = .ok (.iadd, 1)) (k : Wst rd G p l e R s m args below meth c n0 nL Q h (pc + 1) ls (.int (x + y) :: r)) : Wst rd G p l e R s m args below meth c n0 nL Q h pc ls (.int y :: .int x :: r) :=
  fun hn H locs cls hR hS hL => lv_iadd hx hb hd (k hn H locs cls hR hS hL)
theorem w_isub (hx : p.tables.exec = Jvm.exec) (hb : c.code = cc) {x y : Int32} (hd : decode cc pc = .ok (.isub, 1)) (k : Wst rd G p l e R s m args below meth c n0 nL Q h (pc + 1) ls (.int (x - y) :: r)) : Wst rd G p l e R s m args below meth c n0 nL Q h pc ls (.int y :: .int x :: r) :=
  fun hn H locs cls hR hS hL => lv_isub hx hb hd (k hn H locs cls hR hS hL)
theorem w_imul (hx : p.tables.exec = Jvm.exec) (hb : c.code = cc) {x y : Int32} (hd : decode cc pc = .ok (.imul, 1)) (k : Wst rd G p l e R s m args below meth c n0 nL Q h (pc + 1) ls (.int (x * y) :: r)) : Wst rd G p l e R s m args below meth c n0 nL Q h pc ls (.int y :: .int x :: r) :=
  fun hn H locs cls hR hS hL => lv_imul hx hb hd (k hn H locs cls hR hS hL)
theorem w_iand (hx : p.tables.exec = Jvm.exec) (hb : c.code = cc) {x y : Int32} (hd : decode cc pc = .ok (.iand, 1)) (k : Wst rd G p l e R s m args below meth c n0 nL Q h (pc + 1) ls (.int (x &&& y) :: r)) : Wst rd G p l e R s m args below meth c n0 nL Q h pc ls (.int y :: .int x :: r) :=
  fun hn H locs cls hR hS hL => lv_iand hx hb hd (k hn H locs cls hR hS hL)
theorem w_ior (hx : p.tables.exec = Jvm.exec) (hb : c.code = cc) {x y : Int32} (hd : decode cc pc = .ok (.ior, 1)) (k : Wst rd G p l e R s m args below meth c n0 nL Q h (pc + 1) ls (.int (x ||| y) :: r)) : Wst rd G p l e R s m args below meth c n0 nL Q h pc ls (.int y :: .int x :: r) :=
  fun hn H locs cls hR hS hL => lv_ior hx hb hd (k hn H locs cls hR hS hL)
theorem w_ixor (hx : p.tables.exec = Jvm.exec) (hb : c.code = cc) {x y : Int32} (hd : decode cc pc = .ok (.ixor, 1)) (k : Wst rd G p l e R s m args below meth c n0 nL Q h (pc + 1) ls (.int (x ^^^ y) :: r)) : Wst rd G p l e R s m args below meth c n0 nL Q h pc ls (.int y :: .int x :: r) :=
  fun hn H locs cls hR hS hL => lv_ixor hx hb hd (k hn H locs cls hR hS hL)
theorem w_ishl (hx : p.tables.exec = Jvm.exec) (hb : c.code = cc) {x y : Int32} (hd : decode cc pc = .ok (.ishl, 1)) (k : Wst rd G p l e R s m args below meth c n0 nL Q h (pc + 1) ls (.int (x <<< (y &&& 31)) :: r)) : Wst rd G p l e R s m args below meth c n0 nL Q h pc ls (.int y :: .int x :: r) :=
  fun hn H locs cls hR hS hL => lv_ishl hx hb hd (k hn H locs cls hR hS hL)
theorem w_ishr (hx : p.tables.exec = Jvm.exec) (hb : c.code = cc) {x y : Int32} (hd : decode cc pc = .ok (.ishr, 1)) (k : Wst rd G p l e R s m args below meth c n0 nL Q h (pc + 1) ls (.int (x >>> (y &&& 31)) :: r)) : Wst rd G p l e R s m args below meth c n0 nL Q h pc ls (.int y :: .int x :: r) :=
  fun hn H locs cls hR hS hL => lv_ishr hx hb hd (k hn H locs cls hR hS hL)
theorem w_idiv (hx : p.tables.exec = Jvm.exec) (hb : c.code = cc) {x y : Int32} (hd : decode cc pc = .ok (.idiv, 1)) (hne : ¬ y = 0) (k : Wst rd G p l e R s m args below meth c n0 nL Q h (pc + 1) ls (.int (x / y) :: r)) : Wst rd G p l e R s m args below meth c n0 nL Q h pc ls (.int y :: .int x :: r) :=
  fun hn H locs cls hR hS hL => lv_idiv hx hb hd hne (k hn H locs cls hR hS hL)
theorem w_irem (hx : p.tables.exec = Jvm.exec) (hb : c.code = cc) {x y : Int32} (hd : decode cc pc = .ok (.irem, 1)) (hne : ¬ y = 0) (k : Wst rd G p l e R s m args below meth c n0 nL Q h (pc + 1) ls (.int (x - x / y * y) :: r)) : Wst rd G p l e R s m args below meth c n0 nL Q h pc ls (.int y :: .int x :: r) :=
  fun hn H locs cls hR hS hL => lv_irem hx hb hd hne (k hn H locs cls hR hS hL)
theorem w_ineg (hx : p.tables.exec = Jvm.exec) (hb : c.code = cc) {x : Int32} (hd : decode cc pc = .ok (.ineg, 1)) (k : Wst rd G p l e R s m args below meth c n0 nL Q h (pc + 1) ls (.int (-x) :: r)) : Wst rd G p l e R s m args below meth c n0 nL Q h pc ls (.int x :: r) :=
  fun hn H locs cls hR hS hL => lv_ineg hx hb hd (k hn H locs cls hR hS hL)
theorem w_iushr (hx : p.tables.exec = Jvm.exec) (hb : c.code = cc) {x y : Int32} (hd : decode cc pc = .ok (.iushr, 1)) (k : Wst rd G p l e R s m args below meth c n0 nL Q h (pc + 1) ls (.int (x.toUInt32 >>> (y.toUInt32 &&& Int32.toUInt32 31)).toInt32 :: r)) : Wst rd G p l e R s m args below meth c n0 nL Q h pc ls (.int y :: .int x :: r) :=
  fun hn H locs cls hR hS hL => lv_iushr hx hb hd rfl (k hn H locs cls hR hS hL)
theorem w_i2l (hx : p.tables.exec = Jvm.exec) (hb : c.code = cc) {x : Int32} (hd : decode cc pc = .ok (.i2l, 1)) (k : Wst rd G p l e R s m args below meth c n0 nL Q h (pc + 1) ls (.long x.toInt64 :: r)) : Wst rd G p l e R s m args below meth c n0 nL Q h pc ls (.int x :: r) :=
  fun hn H locs cls hR hS hL => lv_i2l hx hb hd rfl (k hn H locs cls hR hS hL)
theorem w_i2b (hx : p.tables.exec = Jvm.exec) (hb : c.code = cc) {x : Int32} (hd : decode cc pc = .ok (.i2b, 1)) (k : Wst rd G p l e R s m args below meth c n0 nL Q h (pc + 1) ls (.int x.toInt8.toInt32 :: r)) : Wst rd G p l e R s m args below meth c n0 nL Q h pc ls (.int x :: r) :=
  fun hn H locs cls hR hS hL => lv_i2b hx hb hd rfl (k hn H locs cls hR hS hL)
theorem w_i2s (hx : p.tables.exec = Jvm.exec) (hb : c.code = cc) {x : Int32} (hd : decode cc pc = .ok (.i2s, 1)) (k : Wst rd G p l e R s m args below meth c n0 nL Q h (pc + 1) ls (.int x.toInt16.toInt32 :: r)) : Wst rd G p l e R s m args below meth c n0 nL Q h pc ls (.int x :: r) :=
  fun hn H locs cls hR hS hL => lv_i2s hx hb hd rfl (k hn H locs cls hR hS hL)
theorem w_lmul (hx : p.tables.exec = Jvm.exec) (hb : c.code = cc) {x y : Int64} (hd : decode cc pc = .ok (.lmul, 1)) (k : Wst rd G p l e R s m args below meth c n0 nL Q h (pc + 1) ls (.long (x * y) :: r)) : Wst rd G p l e R s m args below meth c n0 nL Q h pc ls (.long y :: .long x :: r) :=
  fun hn H locs cls hR hS hL => lv_lmul hx hb hd (k hn H locs cls hR hS hL)
theorem w_lsub (hx : p.tables.exec = Jvm.exec) (hb : c.code = cc) {x y : Int64} (hd : decode cc pc = .ok (.lsub, 1)) (k : Wst rd G p l e R s m args below meth c n0 nL Q h (pc + 1) ls (.long (x - y) :: r)) : Wst rd G p l e R s m args below meth c n0 nL Q h pc ls (.long y :: .long x :: r) :=
  fun hn H locs cls hR hS hL => lv_lsub hx hb hd (k hn H locs cls hR hS hL)
theorem w_ldiv (hx : p.tables.exec = Jvm.exec) (hb : c.code = cc) {x y : Int64} (hd : decode cc pc = .ok (.ldiv, 1)) (hne : ¬ y = 0) (k : Wst rd G p l e R s m args below meth c n0 nL Q h (pc + 1) ls (.long (x / y) :: r)) : Wst rd G p l e R s m args below meth c n0 nL Q h pc ls (.long y :: .long x :: r) :=
  fun hn H locs cls hR hS hL => lv_ldiv hx hb hd hne (k hn H locs cls hR hS hL)
theorem w_lrem (hx : p.tables.exec = Jvm.exec) (hb : c.code = cc) {x y : Int64} (hd : decode cc pc = .ok (.lrem, 1)) (hne : ¬ y = 0) (k : Wst rd G p l e R s m args below meth c n0 nL Q h (pc + 1) ls (.long (x - x / y * y) :: r)) : Wst rd G p l e R s m args below meth c n0 nL Q h pc ls (.long y :: .long x :: r) :=
  fun hn H locs cls hR hS hL => lv_lrem hx hb hd hne (k hn H locs cls hR hS hL)
theorem w_lcmp (hx : p.tables.exec = Jvm.exec) (hb : c.code = cc) {x y : Int64} (hd : decode cc pc = .ok (.lcmp, 1)) (k : Wst rd G p l e R s m args below meth c n0 nL Q h (pc + 1) ls (.int (lg_cmp x y) :: r)) : Wst rd G p l e R s m args below meth c n0 nL Q h pc ls (.long y :: .long x :: r) :=
  fun hn H locs cls hR hS hL => W.lcmp hx hb hd (k hn H locs cls hR hS hL)
theorem w_dupI (hx : p.tables.exec = Jvm.exec) (hb : c.code = cc) {x : Int32} (hd : decode cc pc = .ok (.dup, 1)) (k : Wst rd G p l e R s m args below meth c n0 nL Q h (pc + 1) ls (.int x :: .int x :: r)) : Wst rd G p l e R s m args below meth c n0 nL Q h pc ls (.int x :: r) :=
  fun hn H locs cls hR hS hL => lv_dup hx hb hd rfl (k hn H locs cls hR hS hL)
theorem w_dupR (hx : p.tables.exec = Jvm.exec) (hb : c.code = cc) {x : Nat} (hd : decode cc pc = .ok (.dup, 1)) (k : Wst rd G p l e R s m args below meth c n0 nL Q h (pc + 1) ls (.ref x :: .ref x :: r)) : Wst rd G p l e R s m args below meth c n0 nL Q h pc ls (.ref x :: r) :=
  fun hn H locs cls hR hS hL => lv_dup hx hb hd rfl (k hn H locs cls hR hS hL)
theorem w_dup2 (hx : p.tables.exec = Jvm.exec) (hb : c.code = cc) {x : Int32} {y : Nat} (hd : decode cc pc = .ok (.dup2, 1)) (k : Wst rd G p l e R s m args below meth c n0 nL Q h (pc + 1) ls (.int x :: .ref y :: .int x :: .ref y :: r)) : Wst rd G p l e R s m args below meth c n0 nL Q h pc ls (.int x :: .ref y :: r) :=
  fun hn H locs cls hR hS hL => lv_dup2_11 hx hb hd rfl rfl (k hn H locs cls hR hS hL)
theorem w_if_eq (hx : p.tables.exec = Jvm.exec) (hb : c.code = cc) {x : Int32} {off : Int} {tgt : Nat} (hd : decode cc pc = .ok (.ifCond .eq off, 3)) (ht : (pc : Int) + off = (tgt : Int)) (kt : x = 0 → Wst rd G p l e R s m args below meth c n0 nL Q h tgt ls r) (kf : ¬ (x = 0) → Wst rd G p l e R s m args below meth c n0 nL Q h (pc + 3) ls r) : Wst rd G p l e R s m args below meth c n0 nL Q h pc ls (.int x :: r) :=
  fun hn H locs cls hR hS hL => lv_if_eq hx hb hd ht (fun q => kt q hn H locs cls hR hS hL) (fun q => kf q hn H locs cls hR hS hL)
theorem w_if_ne (hx : p.tables.exec = Jvm.exec) (hb : c.code = cc) {x : Int32} {off : Int} {tgt : Nat} (hd : decode cc pc = .ok (.ifCond .ne off, 3)) (ht : (pc : Int) + off = (tgt : Int)) (kt : ¬ x = 0 → Wst rd G p l e R s m args below meth c n0 nL Q h tgt ls r) (kf : ¬ (¬ x = 0) → Wst rd G p l e R s m args below meth c n0 nL Q h (pc + 3) ls r) : Wst rd G p l e R s m args below meth c n0 nL Q h pc ls (.int x :: r) :=
  fun hn H locs cls hR hS hL => lv_if_ne hx hb hd ht (fun q => kt q hn H locs cls hR hS hL) (fun q => kf (fun z => z q) hn H locs cls hR hS hL)
theorem w_if_lt (hx : p.tables.exec = Jvm.exec) (hb : c.code = cc) {x : Int32} {off : Int} {tgt : Nat} (hd : decode cc pc = .ok (.ifCond .lt off, 3)) (ht : (pc : Int) + off = (tgt : Int)) (kt : x < 0 → Wst rd G p l e R s m args below meth c n0 nL Q h tgt ls r) (kf : ¬ (x < 0) → Wst rd G p l e R s m args below meth c n0 nL Q h (pc + 3) ls r) : Wst rd G p l e R s m args below meth c n0 nL Q h pc ls (.int x :: r) :=
  fun hn H locs cls hR hS hL => lv_if_lt hx hb hd ht (fun q => kt q hn H locs cls hR hS hL) (fun q => kf q hn H locs cls hR hS hL)
theorem w_if_ge (hx : p.tables.exec = Jvm.exec) (hb : c.code = cc) {x : Int32} {off : Int} {tgt : Nat} (hd : decode cc pc = .ok (.ifCond .ge off, 3)) (ht : (pc : Int) + off = (tgt : Int)) (kt : 0 ≤ x → Wst rd G p l e R s m args below meth c n0 nL Q h tgt ls r) (kf : ¬ (0 ≤ x) → Wst rd G p l e R s m args below meth c n0 nL Q h (pc + 3) ls r) : Wst rd G p l e R s m args below meth c n0 nL Q h pc ls (.int x :: r) :=
  fun hn H locs cls hR hS hL => lv_if_ge hx hb hd ht (fun q => kt q hn H locs cls hR hS hL) (fun q => kf q hn H locs cls hR hS hL)
theorem w_if_gt (hx : p.tables.exec = Jvm.exec) (hb : c.code = cc) {x : Int32} {off : Int} {tgt : Nat} (hd : decode cc pc = .ok (.ifCond .gt off, 3)) (ht : (pc : Int) + off = (tgt : Int)) (kt : 0 < x → Wst rd G p l e R s m args below meth c n0 nL Q h tgt ls r) (kf : ¬ (0 < x) → Wst rd G p l e R s m args below meth c n0 nL Q h (pc + 3) ls r) : Wst rd G p l e R s m args below meth c n0 nL Q h pc ls (.int x :: r) :=
  fun hn H locs cls hR hS hL => lv_if_gt hx hb hd ht (fun q => kt q hn H locs cls hR hS hL) (fun q => kf q hn H locs cls hR hS hL)
theorem w_if_le (hx : p.tables.exec = Jvm.exec) (hb : c.code = cc) {x : Int32} {off : Int} {tgt : Nat} (hd : decode cc pc = .ok (.ifCond .le off, 3)) (ht : (pc : Int) + off = (tgt : Int)) (kt : x ≤ 0 → Wst rd G p l e R s m args below meth c n0 nL Q h tgt ls r) (kf : ¬ (x ≤ 0) → Wst rd G p l e R s m args below meth c n0 nL Q h (pc + 3) ls r) : Wst rd G p l e R s m args below meth c n0 nL Q h pc ls (.int x :: r) :=
  fun hn H locs cls hR hS hL => lv_if_le hx hb hd ht (fun q => kt q hn H locs cls hR hS hL) (fun q => kf q hn H locs cls hR hS hL)
theorem w_icmp_eq (hx : p.tables.exec = Jvm.exec) (hb : c.code = cc) {x y : Int32} {off : Int} {tgt : Nat} (hd : decode cc pc = .ok (.if_icmp .eq off, 3)) (ht : (pc : Int) + off = (tgt : Int)) (kt : x = y → Wst rd G p l e R s m args below meth c n0 nL Q h tgt ls r) (kf : ¬ (x = y) → Wst rd G p l e R s m args below meth c n0 nL Q h (pc + 3) ls r) : Wst rd G p l e R s m args below meth c n0 nL Q h pc ls (.int y :: .int x :: r) :=
  fun hn H locs cls hR hS hL => lv_icmp_eq hx hb hd ht (fun q => kt q hn H locs cls hR hS hL) (fun q => kf q hn H locs cls hR hS hL)
theorem w_icmp_ne (hx : p.tables.exec = Jvm.exec) (hb : c.code = cc) {x y : Int32} {off : Int} {tgt : Nat} (hd : decode cc pc = .ok (.if_icmp .ne off, 3)) (ht : (pc : Int) + off = (tgt : Int)) (kt : ¬ x = y → Wst rd G p l e R s m args below meth c n0 nL Q h tgt ls r) (kf : ¬ (¬ x = y) → Wst rd G p l e R s m args below meth c n0 nL Q h (pc + 3) ls r) : Wst rd G p l e R s m args below meth c n0 nL Q h pc ls (.int y :: .int x :: r) :=
  fun hn H locs cls hR hS hL => lv_icmp_ne hx hb hd ht (fun q => kt q hn H locs cls hR hS hL) (fun q => kf (fun z => z q) hn H locs cls hR hS hL)
theorem w_icmp_lt (hx : p.tables.exec = Jvm.exec) (hb : c.code = cc) {x y : Int32} {off : Int} {tgt : Nat} (hd : decode cc pc = .ok (.if_icmp .lt off, 3)) (ht : (pc : Int) + off = (tgt : Int)) (kt : x < y → Wst rd G p l e R s m args below meth c n0 nL Q h tgt ls r) (kf : ¬ (x < y) → Wst rd G p l e R s m args below meth c n0 nL Q h (pc + 3) ls r) : Wst rd G p l e R s m args below meth c n0 nL Q h pc ls (.int y :: .int x :: r) :=
  fun hn H locs cls hR hS hL => lv_icmp_lt hx hb hd ht (fun q => kt q hn H locs cls hR hS hL) (fun q => kf q hn H locs cls hR hS hL)
theorem w_icmp_ge (hx : p.tables.exec = Jvm.exec) (hb : c.code = cc) {x y : Int32} {off : Int} {tgt : Nat} (hd : decode cc pc = .ok (.if_icmp .ge off, 3)) (ht : (pc : Int) + off = (tgt : Int)) (kt : y ≤ x → Wst rd G p l e R s m args below meth c n0 nL Q h tgt ls r) (kf : ¬ (y ≤ x) → Wst rd G p l e R s m args below meth c n0 nL Q h (pc + 3) ls r) : Wst rd G p l e R s m args below meth c n0 nL Q h pc ls (.int y :: .int x :: r) :=
  fun hn H locs cls hR hS hL => lv_icmp_ge hx hb hd ht (fun q => kt q hn H locs cls hR hS hL) (fun q => kf q hn H locs cls hR hS hL)
theorem w_icmp_gt (hx : p.tables.exec = Jvm.exec) (hb : c.code = cc) {x y : Int32} {off : Int} {tgt : Nat} (hd : decode cc pc = .ok (.if_icmp .gt off, 3)) (ht : (pc : Int) + off = (tgt : Int)) (kt : y < x → Wst rd G p l e R s m args below meth c n0 nL Q h tgt ls r) (kf : ¬ (y < x) → Wst rd G p l e R s m args below meth c n0 nL Q h (pc + 3) ls r) : Wst rd G p l e R s m args below meth c n0 nL Q h pc ls (.int y :: .int x :: r) :=
  fun hn H locs cls hR hS hL => lv_icmp_gt hx hb hd ht (fun q => kt q hn H locs cls hR hS hL) (fun q => kf q hn H locs cls hR hS hL)
theorem w_icmp_le (hx : p.tables.exec = Jvm.exec) (hb : c.code = cc) {x y : Int32} {off : Int} {tgt : Nat} (hd : decode cc pc = .ok (.if_icmp .le off, 3)) (ht : (pc : Int) + off = (tgt : Int)) (kt : x ≤ y → Wst rd G p l e R s m args below meth c n0 nL Q h tgt ls r) (kf : ¬ (x ≤ y) → Wst rd G p l e R s m args below meth c n0 nL Q h (pc + 3) ls r) : Wst rd G p l e R s m args below meth c n0 nL Q h pc ls (.int y :: .int x :: r) :=
  fun hn H locs cls hR hS hL => lv_icmp_le hx hb hd ht (fun q => kt q hn H locs cls hR hS hL) (fun q => kf q hn H locs cls hR hS hL)
theorem w_goto (hx : p.tables.exec = Jvm.exec) (hb : c.code = cc) {off : Int} {tgt : Nat} (hd : decode cc pc = .ok (.goto off, 3)) (ht : (pc : Int) + off = (tgt : Int)) (k : Wst rd G p l e R s m args below meth c n0 nL Q h tgt ls r) : Wst rd G p l e R s m args below meth c n0 nL Q h pc ls r :=
  fun hn H locs cls hR hS hL => lv_goto hx hb hd ht (k hn H locs cls hR hS hL)
theorem w_ifnull (hx : p.tables.exec = Jvm.exec) (hb : c.code = cc) {x : Nat} {off : Int} (hd : decode cc pc = .ok (.ifnull off, 3)) (k : Wst rd G p l e R s m args below meth c n0 nL Q h (pc + 3) ls r) : Wst rd G p l e R s m args below meth c n0 nL Q h pc ls (.ref x :: r) :=
  fun hn H locs cls hR hS hL => lv_ifnull hx hb hd (k hn H locs cls hR hS hL)
theorem w_ifnullN (hx : p.tables.exec = Jvm.exec) (hb : c.code = cc) {off : Int} {tgt : Nat} (hd : decode cc pc = .ok (.ifnull off, 3)) (ht : (pc : Int) + off = (tgt : Int)) (k : Wst rd G p l e R s m args below meth c n0 nL Q h tgt ls r) : Wst rd G p l e R s m args below meth c n0 nL Q h pc ls (.null :: r) :=
  fun hn H locs cls hR hS hL => lv_ifnullN hx hb hd ht (k hn H locs cls hR hS hL)
theorem w_ifnonnull (hx : p.tables.exec = Jvm.exec) (hb : c.code = cc) {x : Nat} {off : Int} {tgt : Nat} (hd : decode cc pc = .ok (.ifnonnull off, 3)) (ht : (pc : Int) + off = (tgt : Int)) (k : Wst rd G p l e R s m args below meth c n0 nL Q h tgt ls r) : Wst rd G p l e R s m args below meth c n0 nL Q h pc ls (.ref x :: r) :=
  fun hn H locs cls hR hS hL => lv_ifnonnull hx hb hd ht (k hn H locs cls hR hS hL)
theorem w_ifnonnullN (hx : p.tables.exec = Jvm.exec) (hb : c.code = cc) {off : Int} (hd : decode cc pc = .ok (.ifnonnull off, 3)) (k : Wst rd G p l e R s m args below meth c n0 nL Q h (pc + 3) ls r) : Wst rd G p l e R s m args below meth c n0 nL Q h pc ls (.null :: r) :=
  fun hn H locs cls hR hS hL => lv_ifnonnullN hx hb hd (k hn H locs cls hR hS hL)
theorem w_lookup (hx : p.tables.exec = Jvm.exec) (hb : c.code = cc) {dflt : Int} {ps : Array (Int × Int)} {len : Nat} {x : Int32} {off : Int} {tgt : Nat} (hd : decode cc pc = .ok (.lookupswitch dflt ps, len)) (hp : (ps.toList.zip (ps.toList.drop 1)).all (fun (a, next) => a.1 < next.1) = true) (ho : Op.lookupswitch.offset ps.toList dflt x.toInt = off) (ht : (pc : Int) + off = (tgt : Int)) (k : Wst rd G p l e R s m args below meth c n0 nL Q h tgt ls r) : Wst rd G p l e R s m args below meth c n0 nL Q h pc ls (.int x :: r) :=
  fun hn H locs cls hR hS hL => lv_lookup hx hb hd hp ho ht (k hn H locs cls hR hS hL)
theorem w_tableOut (hx : p.tables.exec = Jvm.exec) (hb : c.code = cc) {dflt lo hi : Int} {offs : Array Int} {len : Nat} {x : Int32} {tgt : Nat} (hd : decode cc pc = .ok (.tableswitch dflt lo hi offs, len)) (hq : x.toInt < lo ∨ hi < x.toInt) (ht : (pc : Int) + dflt = (tgt : Int)) (k : Wst rd G p l e R s m args below meth c n0 nL Q h tgt ls r) : Wst rd G p l e R s m args below meth c n0 nL Q h pc ls (.int x :: r) :=
  fun hn H locs cls hR hS hL => lv_tableOut hx hb hd hq ht (k hn H locs cls hR hS hL)
theorem w_tableIn (hx : p.tables.exec = Jvm.exec) (hb : c.code = cc) {dflt lo hi : Int} {offs : Array Int} {len : Nat} {x : Int32} {off : Int} {tgt : Nat} (hd : decode cc pc = .ok (.tableswitch dflt lo hi offs, len)) (h1 : ¬ x.toInt < lo) (h2 : ¬ hi < x.toInt) (ho : offs[(x.toInt - lo).toNat]? = some off) (ht : (pc : Int) + off = (tgt : Int)) (k : Wst rd G p l e R s m args below meth c n0 nL Q h tgt ls r) : Wst rd G p l e R s m args below meth c n0 nL Q h pc ls (.int x :: r) :=
  fun hn H locs cls hR hS hL => lv_tableIn hx hb hd h1 h2 ho ht (k hn H locs cls hR hS hL)
theorem w_ldcw (hx : p.tables.exec = Jvm.exec) (hb : c.code = cc) {own : String} {index : Nat} {v : Int32} (hown : s.vm.findClass own = some m.cls) (hconst : (Jvm.Cond.constant own index v).before args s = true) (hd : decode cc pc = .ok (.ldc_w index, 3)) (k : Wst rd G p l e R s m args below meth c n0 nL Q h (pc + 3) ls (.int v :: r)) : Wst rd G p l e R s m args below meth c n0 nL Q h pc ls r :=
  fun hn H locs cls hR hS hL => lv_ldcw hx hb hown hconst hd (k hn H locs cls hR hS hL)
theorem w_ldc2 (hx : p.tables.exec = Jvm.exec) (hb : c.code = cc) {own : String} {index : Nat} {v : Int64} (hown : s.vm.findClass own = some m.cls) (hconst : (Jvm.Cond.constantLong own index v).before args s = true) (hd : decode cc pc = .ok (.ldc2_w index, 3)) (k : Wst rd G p l e R s m args below meth c n0 nL Q h (pc + 3) ls (.long v :: r)) : Wst rd G p l e R s m args below meth c n0 nL Q h pc ls r :=
  fun hn H locs cls hR hS hL => lv_ldc2 hx hb hown hconst hd (k hn H locs cls hR hS hL)
end WST
end
section
/-! rows of the heap on the machine's states -/
theorem in_WLa0 {w : Cond} (h : w ∈ WLa0) : w ∈ WL := by
  unfold WL
  simp only [List.mem_append, h, true_or, or_true]
theorem in_WLa1 {w : Cond} (h : w ∈ WLa1) : w ∈ WL := by
  unfold WL
  simp only [List.mem_append, h, true_or, or_true]
theorem in_WLa2 {w : Cond} (h : w ∈ WLa2) : w ∈ WL := by
  unfold WL
  simp only [List.mem_append, h, true_or, or_true]
theorem in_WLa3 {w : Cond} (h : w ∈ WLa3) : w ∈ WL := by
  unfold WL
  simp only [List.mem_append, h, true_or, or_true]
theorem in_WLa4 {w : Cond} (h : w ∈ WLa4) : w ∈ WL := by
  unfold WL
  simp only [List.mem_append, h, true_or, or_true]
theorem in_WLa5 {w : Cond} (h : w ∈ WLa5) : w ∈ WL := by
  unfold WL
  simp only [List.mem_append, h, true_or, or_true]
theorem in_WLa6 {w : Cond} (h : w ∈ WLa6) : w ∈ WL := by
  unfold WL
  simp only [List.mem_append, h, true_or, or_true]
theorem in_WLb {w : Cond} (h : w ∈ WLb) : w ∈ WL := by
  unfold WL
  simp only [List.mem_append, h, true_or, or_true]
theorem in_WLc {w : Cond} (h : w ∈ WLc) : w ∈ WL := by
  unfold WL
  simp only [List.mem_append, h, true_or, or_true]
theorem in_WLd {w : Cond} (h : w ∈ WLd) : w ∈ WL := by
  unfold WL
  simp only [List.mem_append, h, true_or, or_true]
theorem in_WLe {w : Cond} (h : w ∈ WLe) : w ∈ WL := by
  unfold WL
  simp only [List.mem_append, h, true_or, or_true]
theorem in_WLf {w : Cond} (h : w ∈ WLf) : w ∈ WL := by
  unfold WL
  simp only [List.mem_append, h, true_or, or_true]
theorem in_WLg {w : Cond} (h : w ∈ WLg) : w ∈ WL := by
  unfold WL
  simp only [List.mem_append, h, true_or, or_true]
theorem in_WLh {w : Cond} (h : w ∈ WLh) : w ∈ WL := by
  unfold WL
  simp only [List.mem_append, h, true_or, or_true]
theorem in_WLi {w : Cond} (h : w ∈ WLi) : w ∈ WL := by
  unfold WL
  simp only [List.mem_append, h, true_or, or_true]
theorem in_WLj {w : Cond} (h : w ∈ WLj) : w ∈ WL := by
  unfold WL
  simp only [List.mem_append, h, true_or, or_true]
theorem in_WLk {w : Cond} (h : w ∈ WLk) : w ∈ WL := by
  unfold WL
  simp only [List.mem_append, h, true_or, or_true]
theorem in_WLx {w : Cond} (h : w ∈ WLx) : w ∈ WL := by
  unfold WL
  simp only [List.mem_append, h, true_or, or_true]
theorem in_WLl {w : Cond} (h : w ∈ WLl) : w ∈ WL := by
  unfold WL
  simp only [List.mem_append, h, true_or, or_true]
theorem in_WLm {w : Cond} (h : w ∈ WLm) : w ∈ WL := by
  unfold WL
  simp only [List.mem_append, h, true_or, or_true]
theorem clT_at {ci : Nat} (h : ci < 13) : vwCl[ci]? = some (clT ci) := by
  match ci, h with
  | 0, _ => rfl
  | 1, _ => rfl
  | 2, _ => rfl
  | 3, _ => rfl
  | 4, _ => rfl
  | 5, _ => rfl
  | 6, _ => rfl
  | 7, _ => rfl
  | 8, _ => rfl
  | 9, _ => rfl
  | 10, _ => rfl
  | 11, _ => rfl
  | 12, _ => rfl
  | n + 13, h => exact absurd h (by omega)
theorem clI {ci : Nat} (h : ci < 13) : ∀ w ∈ u_ws (clT ci).1 (clT ci).2.1 (clT ci).2.2, w ∈ WL := fun _ hw => in_WLi (List.mem_flatMap.mpr ⟨ci, List.mem_range.mpr h, hw⟩)
def tgO (t : FieldType) : Nat := match t with
  | .int => 0
  | .long => 1
  | .boolean => 3
  | .object _ => 2
  | .array _ => 2
  | _ => 9
set_option maxRecDepth 100000 in
theorem clF {ci : Nat} (h : ci < 13) : ∃ ty0 : Nat → FieldType, (∀ k, k < (clT ci).2.2 → parseFieldDescriptor ((clT ci).2.1 k).2.2.1 = some (ty0 k)) ∧ (∀ a, a < (clT ci).2.2 → ∀ b, b < (clT ci).2.2 → a ≠ b → ((clT ci).2.1 a).2.1 ≠ ((clT ci).2.1 b).2.1) ∧ (∀ k, k < (clT ci).2.2 → gn (gll ftT ci) k = tgO (ty0 k)) ∧ ∀ k, k < (clT ci).2.2 → ((clT ci).2.1 k).1 = own ci := by
  match ci, h with
  | 0, _ => exact ⟨tyX0, tyX0_ok, nmX0, by decide +kernel, by decide +kernel⟩
  | 1, _ => exact ⟨tyX1, tyX1_ok, nmX1, by decide +kernel, by decide +kernel⟩
  | 2, _ => exact ⟨tyX2, tyX2_ok, nmX2, by decide +kernel, by decide +kernel⟩
  | 3, _ => exact ⟨tyX3, tyX3_ok, nmX3, by decide +kernel, by decide +kernel⟩
  | 4, _ => exact ⟨tyX4, tyX4_ok, nmX4, by decide +kernel, by decide +kernel⟩
  | 5, _ => exact ⟨tyX5, tyX5_ok, nmX5, by decide +kernel, by decide +kernel⟩
  | 6, _ => exact ⟨tyX6, tyX6_ok, nmX6, by decide +kernel, by decide +kernel⟩
  | 7, _ => exact ⟨tyX7, tyX7_ok, nmX7, by decide +kernel, by decide +kernel⟩
  | 8, _ => exact ⟨tyX8, tyX8_ok, nmX8, by decide +kernel, by decide +kernel⟩
  | 9, _ => exact ⟨tyX9, tyX9_ok, nmX9, by decide +kernel, by decide +kernel⟩
  | 10, _ => exact ⟨tyX10, tyX10_ok, nmX10, by decide +kernel, by decide +kernel⟩
  | 11, _ => exact ⟨tyX11, tyX11_ok, nmX11, by decide +kernel, by decide +kernel⟩
  | 12, _ => exact ⟨tyX12, tyX12_ok, nmX12, by decide +kernel, by decide +kernel⟩
  | n + 13, h => exact absurd h (by omega)
theorem upR_self (I : Nat → Nat → Int32) (a : Nat) (f : Nat → Int32) : upR I a f a = f := if_pos rfl
theorem upR_ne (I : Nat → Nat → Int32) {a b : Nat} (f : Nat → Int32) (h : b ≠ a) : upR I a f b = I b := if_neg h
theorem W_size {p : Program} {l : Launch} {e : Env} {R : Room} {s : State} {m : MethodId} {args : Array Value} {below : List Frame} {meth : Method} {c : Code} {H : Heap} {locs : List Loc} {cells slots : Nat} {Q : State → Prop} {g : JFrame}
    (k : H.size ≤ s.heap.size + cells → W p l e R s m args below meth c H locs cells slots Q g) : W p l e R s m args below meth c H locs cells slots Q g := fun T hT X => k (by rw [← hT]; exact X.same.2.2.1) T hT X
theorem csum_eq (G : Gx) : ∀ r : List Value, ((r.map (phv G)).map fun v => v.category).sum = csum r
  | [] => rfl
  | v :: r => by
    simp only [List.map_cons, List.sum_cons]
    rw [csum_eq G r, phv_cat]
    rfl
section WH
variable {S : Type} {rd : S → Nat → Nat → Option Nat} {G : Gx} {p : Program} {l : Launch} {e : Env} {R : Room} {s : State} {m : MethodId} {args : Array Value} {below : List Frame} {meth : Method} {c : Code} {n0 nL : Nat} {Q : State → Prop}
variable {cc : ByteArray} {h : Hp S} {pc : Nat} {ls : LV} {r : List Value} {oc : Nat} {H : Heap} {locs : List Loc}
theorem size_of (hs : s.heap.size + 5 = gB G + n0) (h5 : 5 ≤ n0) (hn : n0 ≤ h.1) (hR : RelH rd G h H) (hS : va_S (AA G) s.heap H locs) (hle : H.size ≤ s.heap.size + (h.1 - n0)) : H.size + 5 = gB G + h.1 := by
  have h1 := hS.1
  by_cases e : h.1 = n0
  · omega
  · have hg := wld_get (rd := rd) (G := G) (h := h) (a := h.1 - 1) (by omega) (by omega)
    have hl := (hR.2.2.1 _ _ hg).lt
    rw [phi5 (by omega)] at hl
    omega
theorem cellE_0 {a : Nat} (ht : (shT (gL G) a).1 = 0) : cellE rd G h a = .inl (gI G, (shT (gL G) a).2, .inl (h.2.1 a)) := by unfold cellE; rw [ht]
theorem cellE_1 {a : Nat} (ht : (shT (gL G) a).1 = 1) : cellE rd G h a = .inl (gZ G, (shT (gL G) a).2, .inl (h.2.1 a)) := by unfold cellE; rw [ht]
theorem cellE_2 {a : Nat} (ht : (shT (gL G) a).1 = 2) : cellE rd G h a = .inl (gN G, (shT (gL G) a).2, .inr (.inr (.inr (.inr (fun i => (rd h.2.2.2 a i).map (phi G)))))) := by unfold cellE; rw [ht]
theorem cellE_3 {a : Nat} (ht : (shT (gL G) a).1 = 3) : cellE rd G h a = .inl (gA G, (shT (gL G) a).2, .inr (.inr (.inr (.inr (fun i => (rd h.2.2.2 a i).map (phi G)))))) := by unfold cellE; rw [ht]
theorem cellE_4 {a t : Nat} (ht : (shT (gL G) a).1 = 4 + t) : cellE rd G h a = .inr (t, fds rd G h t a) := by unfold cellE; rw [ht, Nat.add_comm 4 t]
theorem fds_len {t a : Nat} : (fds rd G h t a).length = (clT t).2.2 := by unfold fds; simp
theorem fds_get {t a k : Nat} (hk : k < (clT t).2.2) : (fds rd G h t a)[k]? = some (fld rd G h t a k) := by
  unfold fds
  rw [List.getElem?_map, List.getElem?_range hk]
  rfl
theorem fds_set {h' : Hp S} {t a k : Nat} {v : Value} (hk : k < (clT t).2.2) (h1 : fld rd G h' t a k = v) (h2 : ∀ j, j ≠ k → fld rd G h' t a j = fld rd G h t a j) : fds rd G h' t a = (fds rd G h t a).set k v := by
  apply List.ext_getElem?
  intro j
  rw [List.getElem?_set]
  by_cases hj : j < (clT t).2.2
  · rw [fds_get hj]
    by_cases e : k = j
    · subst e
      rw [if_pos rfl, if_pos (by rw [fds_len]; exact hj), h1]
    · rw [if_neg e, fds_get hj, h2 j (fun q => e q.symm)]
  · have z1 : (fds rd G h' t a)[j]? = none := List.getElem?_eq_none (by rw [fds_len]; omega)
    have z2 : (fds rd G h t a)[j]? = none := List.getElem?_eq_none (by rw [fds_len]; omega)
    rw [z1, z2, if_neg (by omega)]
theorem w_get (hx : p.tables.exec = Jvm.exec) (hb : c.code = cc) (hts : ∀ w ∈ WL, w.before args s = true) (hown : s.vm.findClass (own oc) = some m.cls) (hK : KU G s) {ix ci k a : Nat} (hf : (oc, ix, ci, k) ∈ ftab) (hci : ci < 13) (hk : k < (clT ci).2.2) (ha : (shT (gL G) a).1 = 4 + ci) (hal : a < h.1)
    (hd : decode cc pc = .ok (.getfield ix, 3)) {v : Value} (hv : fld rd G h ci a k = phv G v) (kk : Wst rd G p l e R s m args below meth c n0 nL Q h (pc + 3) ls (v :: r)) : Wst rd G p l e R s m args below meth c n0 nL Q h pc ls (.ref a :: r) := by
  intro hn H locs cls hR hS hL
  have h5 := sh5 (L := gL G) (a := a) (by rw [ha]; omega)
  have he : (wld rd G h)[a - 5]? = some (phi G a, .inr (ci, fds rd G h ci a)) := by rw [wld_get h5 hal, cellE_4 ha]
  exact va_get (D := gD G) (cl := vwCl) (C := (clT ci).1) (T := (clT ci).2.1) (N := (clT ci).2.2) (own := own oc) (ref := ((clT ci).2.1 k).1) hx hb hts (clI hci) hown hK.1 hR.2.2.1 (a - 5) he (clT_at hci) k hk (hts _ (in_WLb (List.mem_map.mpr ⟨_, hf, rfl⟩))) (fun _ q => q) (fds_get hk) hd
    (by rw [hv]; exact kk hn H locs cls hR hS hL)
theorem w_put (hx : p.tables.exec = Jvm.exec) (hb : c.code = cc) (hts : ∀ w ∈ WL, w.before args s = true) (hown : s.vm.findClass (own oc) = some m.cls) (hK : KU G s) {ix ci k a : Nat} (hf : (oc, ix, ci, k) ∈ ftab) (hci : ci < 13) (hk : k < (clT ci).2.2) (ha : (shT (gL G) a).1 = 4 + ci) (hal : a < h.1)
    (hfin : ((clT ci).2.1 k).2.2.2 = false ∨ (meth.name = "<init>" ∧ ci = oc)) (hd : decode cc pc = .ok (.putfield ix, 3)) {v : Value} (hv : ∀ ty : FieldType, gn (gll ftT ci) k = tgO ty → narrow ty (phv G v) = phv G v ∧ fits ty (phv G v) = true) {h' : Hp S} (hn' : h'.1 = h.1) (ho : ∀ b, b ≠ a → cellE rd G h' b = cellE rd G h b) (hw : fds rd G h' ci a = (fds rd G h ci a).set k (phv G v)) (hz : zer rd h → zer rd h')
    (kk : Wst rd G p l e R s m args below meth c n0 nL Q h' (pc + 3) ls r) : Wst rd G p l e R s m args below meth c n0 nL Q h pc ls (v :: .ref a :: r) := by
  intro hn H locs cls hR hS hL
  have h5 := sh5 (L := gL G) (a := a) (by rw [ha]; omega)
  have he : (wld rd G h)[a - 5]? = some (phi G a, .inr (ci, fds rd G h ci a)) := by rw [wld_get h5 hal, cellE_4 ha]
  obtain ⟨ty0, q1, q2, q3, q4⟩ := clF hci
  obtain ⟨v1, v2⟩ := hv (ty0 k) (q3 k hk)
  have hs : (wld rd G h).set (a - 5) (phi G a, .inr (ci, (fds rd G h ci a).set k (phv G v))) = wld rd G h' := by
    rw [← wld_set h5 hal hn' ho, cellE_4 ha, hw]
  have fin : ∀ (H1 : Heap) (locs1 : List Loc), va_P (gD G) vwCl ((wld rd G h).set (a - 5) (phi G a, .inr (ci, (fds rd G h ci a).set k (phv G v)))) H1 → va_D (AA G) ((wld rd G h).set (a - 5) (phi G a, .inr (ci, (fds rd G h ci a).set k (phv G v)))) → va_S (AA G) s.heap H1 locs1 →
      W p l e R s m args below meth c H1 locs1 (h.1 - n0) (szs (gL G) h.1 - szs (gL G) n0) Q (F0 m (pc + 3) cls (r.map (phv G))) := by
    intro H1 locs1 hP1 _ hS1
    rw [hs] at hP1
    have := kk (by rw [hn']; exact hn) H1 locs1 cls ⟨by rw [hn']; exact hR.1, by rw [hn']; exact hR.2.1, hP1, hz hR.2.2.2⟩ hS1 hL
    rw [hn'] at this
    exact this
  rcases hfin with hf0 | ⟨hf1, hf2⟩
  · exact va_put (D := gD G) (cl := vwCl) (C := (clT ci).1) (T := (clT ci).2.1) (N := (clT ci).2.2) (own := own oc) (ref := ((clT ci).2.1 k).1) hx hb hts (clI hci) ty0 q1 q2 hown hK.1 hR.2.2.1 (wld_D G h) hS (a - 5) he (clT_at hci) k hk (hts _ (in_WLb (List.mem_map.mpr ⟨_, hf, rfl⟩))) (fun _ q => q) hf0 (q1 k hk) v1 v2 (by rw [fds_len]; exact hk) hd fin
  · by_cases hf0 : ((clT ci).2.1 k).2.2.2 = false
    · exact va_put (D := gD G) (cl := vwCl) (C := (clT ci).1) (T := (clT ci).2.1) (N := (clT ci).2.2) (own := own oc) (ref := ((clT ci).2.1 k).1) hx hb hts (clI hci) ty0 q1 q2 hown hK.1 hR.2.2.1 (wld_D G h) hS (a - 5) he (clT_at hci) k hk (hts _ (in_WLb (List.mem_map.mpr ⟨_, hf, rfl⟩))) (fun _ q => q) hf0 (q1 k hk) v1 v2 (by rw [fds_len]; exact hk) hd fin
    · exact va_putF (D := gD G) (cl := vwCl) (C := (clT ci).1) (T := (clT ci).2.1) (N := (clT ci).2.2) (own := own oc) (ref := ((clT ci).2.1 k).1) hx hb hts (clI hci) ty0 q1 q2 hown hK.1 hR.2.2.1 (wld_D G h) hS (a - 5) he (clT_at hci) k hk (hts _ (in_WLb (List.mem_map.mpr ⟨_, hf, rfl⟩))) (fun _ q => q) (by simpa using hf0) hf1 (by rw [q4 k hk, hf2]) (q1 k hk) v1 v2 (by rw [fds_len]; exact hk) hd fin
theorem cell_I {a : Nat} {f : Nat → Int32} {b : Nat} (hb : b ≠ a) : cellE rd G (hI h a f) b = cellE rd G h b := cellE_eq (upR_ne _ _ hb) rfl (fun _ => rfl)
theorem zer_I {a : Nat} {f : Nat → Int32} (ha : a < h.1) (hz : zer rd h) : zer rd (hI h a f) := by
  intro b hb i
  have hne : b ≠ a := by have : h.1 ≤ b := hb; omega
  have := hz b hb i
  exact ⟨by show upR h.2.1 a f b i = 0; rw [upR_ne _ _ hne]; exact this.1, this.2⟩
theorem w_putI (hx : p.tables.exec = Jvm.exec) (hb : c.code = cc) (hts : ∀ w ∈ WL, w.before args s = true) (hown : s.vm.findClass (own oc) = some m.cls) (hK : KU G s) {ix ci k a : Nat} (hf : (oc, ix, ci, k) ∈ ftab) (hci : ci < 13) (hk : k < (clT ci).2.2) (ha : (shT (gL G) a).1 = 4 + ci) (hal : a < h.1)
    (hfin : ((clT ci).2.1 k).2.2.2 = false ∨ (meth.name = "<init>" ∧ ci = oc)) (hd : decode cc pc = .ok (.putfield ix, 3)) {x : Int32} (htg : gn (gll ftT ci) k = 0 ∨ (gn (gll ftT ci) k = 3 ∧ b01 x = true))
    (kk : Wst rd G p l e R s m args below meth c n0 nL Q (hI h a (upd (h.2.1 a) k x)) (pc + 3) ls r) : Wst rd G p l e R s m args below meth c n0 nL Q h pc ls (.int x :: .ref a :: r) := by
  refine w_put (h' := hI h a (upd (h.2.1 a) k x)) hx hb hts hown hK hf hci hk ha hal hfin hd (v := .int x) (fun ty hty => ?_) rfl (fun b hb => cell_I hb) (fds_set hk ?_ (fun j hj => ?_)) (zer_I hal) kk
  · show narrow ty (.int x) = .int x ∧ fits ty (.int x) = true
    rcases htg with q | ⟨q, q2⟩
    · rw [q] at hty
      cases ty <;> first | (exact ⟨rfl, rfl⟩) | (simp [tgO] at hty)
    · rw [q] at hty
      have hb : x = 0 ∨ x = 1 := by
        unfold b01 at q2
        simpa using q2
      cases ty <;> first | (rcases hb with rfl | rfl <;> decide) | (simp [tgO] at hty)
  · unfold fld
    have e : (hI h a (upd (h.2.1 a) k x)).2.1 a k = x := by
      show upR h.2.1 a (upd (h.2.1 a) k x) a k = x
      rw [upR_self]
      exact if_pos rfl
    rcases htg with q | ⟨q, -⟩
    · rw [q, e]; rfl
    · rw [q, e]; rfl
  · unfold fld
    have e : (hI h a (upd (h.2.1 a) k x)).2.1 a j = h.2.1 a j := by
      show upR h.2.1 a (upd (h.2.1 a) k x) a j = h.2.1 a j
      rw [upR_self]
      exact if_neg hj
    rw [e]
theorem w_putJ (hx : p.tables.exec = Jvm.exec) (hb : c.code = cc) (hts : ∀ w ∈ WL, w.before args s = true) (hown : s.vm.findClass (own oc) = some m.cls) (hK : KU G s) {ix ci k a : Nat} (hf : (oc, ix, ci, k) ∈ ftab) (hci : ci < 13) (hk : k < (clT ci).2.2) (ha : (shT (gL G) a).1 = 4 + ci) (hal : a < h.1)
    (hfin : ((clT ci).2.1 k).2.2.2 = false ∨ (meth.name = "<init>" ∧ ci = oc)) (hd : decode cc pc = .ok (.putfield ix, 3)) {x : Int64} (htg : gn (gll ftT ci) k = 1)
    (kk : Wst rd G p l e R s m args below meth c n0 nL Q (hJ h a k x) (pc + 3) ls r) : Wst rd G p l e R s m args below meth c n0 nL Q h pc ls (.long x :: .ref a :: r) := by
  have ej : ∀ b, b ≠ a → (hJ h a k x).2.2.1 b = h.2.2.1 b := fun b hb => funext fun j => if_neg (fun q => hb q.1)
  refine w_put (h' := hJ h a k x) hx hb hts hown hK hf hci hk ha hal hfin hd (v := .long x) (fun ty hty => ?_) rfl (fun b hb => cellE_eq rfl (ej b hb) (fun _ => rfl)) (fds_set hk ?_ (fun j hj => ?_)) (fun hz b hb i => ?_) kk
  · show narrow ty (.long x) = .long x ∧ fits ty (.long x) = true
    rw [htg] at hty
    cases ty <;> first | (exact ⟨rfl, rfl⟩) | (simp [tgO] at hty)
  · unfold fld
    have e : (hJ h a k x).2.2.1 a k = x := if_pos ⟨rfl, rfl⟩
    rw [htg, e]; rfl
  · unfold fld
    have e : (hJ h a k x).2.2.1 a j = h.2.2.1 a j := if_neg (fun q => hj q.2)
    rw [e]
  · have hne : b ≠ a := by have : h.1 ≤ b := hb; omega
    have := hz b hb i
    exact ⟨this.1, by rw [ej b hne]; exact this.2.1, this.2.2⟩
theorem w_putR (hx : p.tables.exec = Jvm.exec) (hb : c.code = cc) (hts : ∀ w ∈ WL, w.before args s = true) (hown : s.vm.findClass (own oc) = some m.cls) (hK : KU G s) {ix ci k a : Nat} (hf : (oc, ix, ci, k) ∈ ftab) (hci : ci < 13) (hk : k < (clT ci).2.2) (ha : (shT (gL G) a).1 = 4 + ci) (hal : a < h.1)
    (hfin : ((clT ci).2.1 k).2.2.2 = false ∨ (meth.name = "<init>" ∧ ci = oc)) (hd : decode cc pc = .ok (.putfield ix, 3)) {x : Nat} (htg : gn (gll ftT ci) k = 2) {s' : S} (hw : ∀ b j, rd s' b j = if b = a ∧ j = k then some x else rd h.2.2.2 b j)
    (kk : Wst rd G p l e R s m args below meth c n0 nL Q (hR h s') (pc + 3) ls r) : Wst rd G p l e R s m args below meth c n0 nL Q h pc ls (.ref x :: .ref a :: r) := by
  refine w_put (h' := hR h s') hx hb hts hown hK hf hci hk ha hal hfin hd (v := .ref x) (fun ty hty => ?_) rfl (fun b hb => cellE_eq rfl rfl (fun i => ?_)) (fds_set hk ?_ (fun j hj => ?_)) (fun hz b hb i => ?_) kk
  · show narrow ty (.ref (phi G x)) = .ref (phi G x) ∧ fits ty (.ref (phi G x)) = true
    rw [htg] at hty
    cases ty <;> first | (exact ⟨rfl, rfl⟩) | (simp [tgO] at hty)
  · show rd s' b i = _
    rw [hw, if_neg (fun q => hb q.1)]
  · unfold fld
    have e : rd (hR h s').2.2.2 a k = some x := by
      show rd s' a k = _
      rw [hw, if_pos ⟨rfl, rfl⟩]
    rw [htg, e]; rfl
  · unfold fld
    have e : rd (hR h s').2.2.2 a j = rd h.2.2.2 a j := by
      show rd s' a j = _
      rw [hw, if_neg (fun q => hj q.2)]
    rw [e]
  · have hne : b ≠ a := by have : h.1 ≤ b := hb; omega
    have := hz b hb i
    exact ⟨this.1, this.2.1, by show rd s' b i = none; rw [hw, if_neg (fun q => hne q.1)]; exact this.2.2⟩
/-- storing into a row of ints -/
theorem fin_I {a : Nat} {f : Nat → Int32} {va : va_E} (h5 : 5 ≤ a) (hal : a < h.1) (hva : cellE rd G (hI h a f) a = va) {cls : Array Slot} {pc' : Nat} (hn : n0 ≤ h.1) (hR : RelH rd G h H) (hL : LRel G cls nL ls) (kk : Wst rd G p l e R s m args below meth c n0 nL Q (hI h a f) pc' ls r) :
    ∀ (H1 : Heap) (locs1 : List Loc), va_P (gD G) vwCl ((wld rd G h).set (a - 5) (phi G a, va)) H1 → va_D (AA G) ((wld rd G h).set (a - 5) (phi G a, va)) → va_S (AA G) s.heap H1 locs1 → W p l e R s m args below meth c H1 locs1 (h.1 - n0) (szs (gL G) h.1 - szs (gL G) n0) Q (F0 m pc' cls (r.map (phv G))) := by
  intro H1 locs1 hP1 _ hS1
  rw [← hva, wld_set (h' := hI h a f) h5 hal rfl (fun b hb => cell_I hb)] at hP1
  exact kk hn H1 locs1 cls ⟨hR.1, hR.2.1, hP1, zer_I hal hR.2.2.2⟩ hS1 hL
theorem w_iald (hx : p.tables.exec = Jvm.exec) (hb : c.code = cc) (hK : KU G s) {a : Nat} {i : Int32} (ha : (shT (gL G) a).1 = 0) (hal : a < h.1) (hin : ¬ (i < 0 ∨ (shT (gL G) a).2 ≤ i.toNatClampNeg)) (hd : decode cc pc = .ok (.iaload, 1)) (kk : Wst rd G p l e R s m args below meth c n0 nL Q h (pc + 1) ls (.int (rdI (gX G) h.2.1 a i.toNatClampNeg) :: r)) : Wst rd G p l e R s m args below meth c n0 nL Q h pc ls (.int i :: .ref a :: r) := by
  intro hn H locs cls hR hS hL
  by_cases h5 : a < 5
  · have e : rdI (gX G) h.2.1 a i.toNatClampNeg = stv (gX G) a i.toNatClampNeg := by
      unfold rdI
      rw [Nat.blt_eq.mpr h5]
      rfl
    have := va_ti (f := fun i => .int (stv (gX G) a i)) hx hb (hK.2.2.2.2.1 a h5) hS hin rfl hd (kk hn H locs cls hR hS hL |> fun q => by rw [e] at q; exact q)
    rw [← phi_lt h5] at this
    exact this
  · have e : rdI (gX G) h.2.1 a i.toNatClampNeg = h.2.1 a i.toNatClampNeg := by
      unfold rdI
      rw [show Nat.blt a 5 = false from by
        cases hq : Nat.blt a 5
        · rfl
        · exact absurd (Nat.blt_eq.mp hq) h5]
      rfl
    rw [e] at kk
    exact va_iald (D := gD G) (cl := vwCl) hx hb hK.1 hR.2.2.1 (a - 5) 0 (by rw [wld_get (by omega) hal, cellE_0 ha]) rfl hin hd (kk hn H locs cls hR hS hL)
theorem w_bald (hx : p.tables.exec = Jvm.exec) (hb : c.code = cc) (hK : KU G s) {a : Nat} {i : Int32} (ha : (shT (gL G) a).1 = 1) (hal : a < h.1) (hin : ¬ (i < 0 ∨ (shT (gL G) a).2 ≤ i.toNatClampNeg)) (hd : decode cc pc = .ok (.baload, 1)) (kk : Wst rd G p l e R s m args below meth c n0 nL Q h (pc + 1) ls (.int (h.2.1 a i.toNatClampNeg) :: r)) : Wst rd G p l e R s m args below meth c n0 nL Q h pc ls (.int i :: .ref a :: r) := by
  intro hn H locs cls hR hS hL
  have h5 := sh5 (L := gL G) (a := a) (by rw [ha]; omega)
  exact va_zald (D := gD G) (cl := vwCl) hx hb hK.1 hR.2.2.1 (a - 5) 1 (by rw [wld_get h5 hal, cellE_1 ha]) rfl hin hd (kk hn H locs cls hR hS hL)
theorem va_rf_phv {o : Option Nat} {v : Value} (h : (o = none ∧ v = .null) ∨ ∃ x, o = some x ∧ v = .ref x) : va_rf (o.map (phi G)) = phv G v := by
  rcases h with ⟨rfl, rfl⟩ | ⟨x, rfl, rfl⟩ <;> rfl
theorem w_aald (hx : p.tables.exec = Jvm.exec) (hb : c.code = cc) (hK : KU G s) {a : Nat} {i : Int32} (ha : (shT (gL G) a).1 = 2 ∨ (shT (gL G) a).1 = 3) (hal : a < h.1) (hin : ¬ (i < 0 ∨ (shT (gL G) a).2 ≤ i.toNatClampNeg)) (hd : decode cc pc = .ok (.aaload, 1)) {v : Value}
    (hv : (rd h.2.2.2 a i.toNatClampNeg = none ∧ v = .null) ∨ ∃ x, rd h.2.2.2 a i.toNatClampNeg = some x ∧ v = .ref x) (kk : Wst rd G p l e R s m args below meth c n0 nL Q h (pc + 1) ls (v :: r)) : Wst rd G p l e R s m args below meth c n0 nL Q h pc ls (.int i :: .ref a :: r) := by
  intro hn H locs cls hR hS hL
  have h5 := sh5 (L := gL G) (a := a) (by rcases ha with q | q <;> rw [q] <;> omega)
  have kv := kk hn H locs cls hR hS hL
  have ev := va_rf_phv (G := G) hv
  rcases ha with q | q
  · refine va_aldq (D := gD G) (cl := vwCl) (C := "DryLand$Line") (f := fun i => (rd h.2.2.2 a i).map (phi G)) hx hb hK.1 hR.2.2.1 (a - 5) 2 (by rw [wld_get h5 hal, cellE_2 q]) rfl hin hd ?_
    rw [ev]
    exact kv
  · have hc : H[phi G a]? = some (vp_cell (gA G) ((shT (gL G) a).2, .inr (.inr (.inr (.inr (fun i => (rd h.2.2.2 a i).map (phi G))))))) := by
      have := hR.2.2.1 (a - 5) _ (wld_get h5 hal)
      rw [cellE_3 q] at this
      exact this
    have hlt : i.toNatClampNeg < (shT (gL G) a).2 := Nat.not_le.mp fun q => hin (Or.inr q)
    refine W.aald (v := phv G v) (ty := .array .int) hx hb hc ((hK.1.2 3 _ rfl).1 _ (fun j => va_rf ((rd h.2.2.2 a j).map (phi G)))) rfl (fun q => by cases q) (by show ¬ (i < 0 ∨ (arrV _ _ _).slots.size ≤ _); rw [arrV_size]; exact hin) (by show (arrV _ _ _).slots[_]? = _; rw [arrV_read _ _ hlt, ev]) rfl rfl hd kv
theorem w_iast (hx : p.tables.exec = Jvm.exec) (hb : c.code = cc) (hK : KU G s) {a : Nat} {i x : Int32} (ha : (shT (gL G) a).1 = 0) (h5 : 5 ≤ a) (hal : a < h.1) (hin : ¬ (i < 0 ∨ (shT (gL G) a).2 ≤ i.toNatClampNeg)) (hd : decode cc pc = .ok (.iastore, 1)) (kk : Wst rd G p l e R s m args below meth c n0 nL Q (hI h a (upd (h.2.1 a) i.toNatClampNeg x)) (pc + 1) ls r) : Wst rd G p l e R s m args below meth c n0 nL Q h pc ls (.int x :: .int i :: .ref a :: r) := by
  intro hn H locs cls hR hS hL
  exact va_iast (D := gD G) (cl := vwCl) hx hb hK.1 hR.2.2.1 (wld_D G h) hS (a - 5) 0 (by rw [wld_get h5 hal, cellE_0 ha]) rfl hin hd (fin_I h5 hal (by rw [cellE_0 ha]; show Sum.inl (gI G, (shT (gL G) a).2, Sum.inl (upR h.2.1 a _ a)) = _; rw [upR_self]) hn hR hL kk)
theorem w_bast (hx : p.tables.exec = Jvm.exec) (hb : c.code = cc) (hK : KU G s) {a : Nat} {i x : Int32} (ha : (shT (gL G) a).1 = 1) (hal : a < h.1) (hin : ¬ (i < 0 ∨ (shT (gL G) a).2 ≤ i.toNatClampNeg)) (hd : decode cc pc = .ok (.bastore, 1)) (kk : Wst rd G p l e R s m args below meth c n0 nL Q (hI h a (upd (h.2.1 a) i.toNatClampNeg (vp_nar .boolean x))) (pc + 1) ls r) : Wst rd G p l e R s m args below meth c n0 nL Q h pc ls (.int x :: .int i :: .ref a :: r) := by
  intro hn H locs cls hR hS hL
  have h5 := sh5 (L := gL G) (a := a) (by rw [ha]; omega)
  exact va_zast (D := gD G) (cl := vwCl) hx hb hK.1 hR.2.2.1 (wld_D G h) hS (a - 5) 1 (by rw [wld_get h5 hal, cellE_1 ha]) rfl hin hd (fin_I h5 hal (by rw [cellE_1 ha]; show Sum.inl (gZ G, (shT (gL G) a).2, Sum.inl (upR h.2.1 a _ a)) = _; rw [upR_self]) hn hR hL kk)
theorem w_aast (hx : p.tables.exec = Jvm.exec) (hb : c.code = cc) (hK : KU G s) {a v : Nat} {i : Int32} (ha : (shT (gL G) a).1 = 2) (hal : a < h.1) (hv : (shT (gL G) v).1 = 7) (hvl : v < h.1) (hin : ¬ (i < 0 ∨ (shT (gL G) a).2 ≤ i.toNatClampNeg)) (hd : decode cc pc = .ok (.aastore, 1)) {s' : S} (hw : ∀ b j, rd s' b j = if b = a ∧ j = i.toNatClampNeg then some v else rd h.2.2.2 b j)
    (kk : Wst rd G p l e R s m args below meth c n0 nL Q (hR h s') (pc + 1) ls r) : Wst rd G p l e R s m args below meth c n0 nL Q h pc ls (.ref v :: .int i :: .ref a :: r) := by
  intro hn H locs cls hR' hS hL
  have h5 := sh5 (L := gL G) (a := a) (by rw [ha]; omega)
  have h5v := sh5 (L := gL G) (a := v) (by rw [hv]; omega)
  have ho : ∀ b, b ≠ a → cellE rd G (hR h s') b = cellE rd G h b := fun b hb => cellE_eq rfl rfl (fun i => by show rd s' b i = _; rw [hw, if_neg (fun q => hb q.1)])
  refine va_astq (D := gD G) (cl := vwCl) (r := clT 3) hx hb hK.1 hR'.2.2.1 (wld_D G h) hS (a - 5) 2 (v - 5) 3 (f := fun i => (rd h.2.2.2 a i).map (phi G)) (vs := fds rd G h 3 v) (by rw [wld_get h5 hal, cellE_2 ha]) rfl (by rw [wld_get h5v hvl, cellE_4 (t := 3) hv]) (clT_at (by omega)) hin hd (fun H1 locs1 hP1 _ hS1 => ?_)
  have e : cellE rd G (hR h s') a = .inl (gN G, (shT (gL G) a).2, .inr (.inr (.inr (.inr (va_up (fun i => (rd h.2.2.2 a i).map (phi G)) i.toNatClampNeg (some (phi G v))))))) := by
    rw [cellE_2 ha]
    congr 7
    funext j
    show (rd s' a j).map (phi G) = va_up _ _ _ j
    rw [hw]
    unfold va_up
    by_cases q : j = i.toNatClampNeg
    · rw [if_pos ⟨rfl, q⟩, if_pos q]; rfl
    · rw [if_neg (fun z => q z.2), if_neg q]
  rw [← e, wld_set h5 hal (h' := hR h s') rfl ho] at hP1
  refine kk hn H1 locs1 cls ⟨hR'.1, hR'.2.1, hP1, fun b hb i => ?_⟩ hS1 hL
  have hne : b ≠ a := by have : h.1 ≤ b := hb; omega
  have := hR'.2.2.2 b hb i
  exact ⟨this.1, this.2.1, by show rd s' b i = none; rw [hw, if_neg (fun q => hne q.1)]; exact this.2.2⟩
theorem w_alen (hx : p.tables.exec = Jvm.exec) (hb : c.code = cc) (hK : KU G s) {a : Nat} (ha : (shT (gL G) a).1 ≤ 3) (hal : a < h.1) (hd : decode cc pc = .ok (.arraylength, 1)) (kk : Wst rd G p l e R s m args below meth c n0 nL Q h (pc + 1) ls (.int (Int32.ofNat (shT (gL G) a).2) :: r)) : Wst rd G p l e R s m args below meth c n0 nL Q h pc ls (.ref a :: r) := by
  intro hn H locs cls hR hS hL
  have kv := kk hn H locs cls hR hS hL
  by_cases h5 : a < 5
  · have := va_tlen (f := fun i => .int (stv (gX G) a i)) hx hb (hK.2.2.2.2.1 a h5) hS rfl hd kv
    rw [← phi_lt h5] at this
    exact this
  · have hg := wld_get (rd := rd) (G := G) (h := h) (a := a) (by omega) hal
    have hq : (shT (gL G) a).1 = 0 ∨ (shT (gL G) a).1 = 1 ∨ (shT (gL G) a).1 = 2 ∨ (shT (gL G) a).1 = 3 := by omega
    rcases hq with q | q | q | q
    · exact va_alen (D := gD G) (cl := vwCl) (x := ((shT (gL G) a).2, .inl (h.2.1 a))) hx hb hK.1 hR.2.2.1 (a - 5) 0 (hg.trans (by rw [cellE_0 q])) rfl rfl hd kv
    · exact va_alen (D := gD G) (cl := vwCl) (x := ((shT (gL G) a).2, .inl (h.2.1 a))) hx hb hK.1 hR.2.2.1 (a - 5) 1 (hg.trans (by rw [cellE_1 q])) rfl rfl hd kv
    · exact va_alen (D := gD G) (cl := vwCl) (x := ((shT (gL G) a).2, .inr (.inr (.inr (.inr (fun i => (rd h.2.2.2 a i).map (phi G))))))) hx hb hK.1 hR.2.2.1 (a - 5) 2 (hg.trans (by rw [cellE_2 q])) rfl rfl hd kv
    · exact va_alen (D := gD G) (cl := vwCl) (x := ((shT (gL G) a).2, .inr (.inr (.inr (.inr (fun i => (rd h.2.2.2 a i).map (phi G))))))) hx hb hK.1 hR.2.2.1 (a - 5) 3 (hg.trans (by rw [cellE_3 q])) rfl rfl hd kv
theorem w_gets (hx : p.tables.exec = Jvm.exec) (hb : c.code = cc) (hts : ∀ w ∈ WL, w.before args s = true) (hown : s.vm.findClass (own oc) = some m.cls) (hK : KU G s) {ix k : Nat} (hf : (oc, ix, k) ∈ stab) (h0 : 0 < k) (h5 : k < 5) (hd : decode cc pc = .ok (.getstatic ix, 3)) (kk : Wst rd G p l e R s m args below meth c n0 nL Q h (pc + 3) ls (.ref k :: r)) : Wst rd G p l e R s m args below meth c n0 nL Q h pc ls r := by
  intro hn H locs cls hR hS hL
  have kv := kk hn H locs cls hR hS hL
  refine va_gets hx hb (hK.2.2.2.2.2 k h0 h5) hS hown (hts (.fieldLink (own oc) ix "DryLand$Reader" (statN k) "[I") (in_WLm ?_)) (fun _ q => q) hd ?_
  · unfold WLm
    exact List.mem_append_right _ (List.mem_append_right _ (List.mem_append_right _ (List.mem_map.mpr ⟨_, hf, rfl⟩)))
  · rw [← phi_lt h5]
    exact kv
theorem w_copy (hx : p.tables.exec = Jvm.exec) (hb : c.code = cc) (hml : c.maxLocals = nL) (hts : ∀ w ∈ WL, w.before args s = true) (hown : s.vm.findClass (own oc) = some m.cls) (hK : KU G s) (hF : 1 ≤ R.frames) (hLc : 26 ≤ R.locals) {ix a a0 : Nat} {n dp sp : Int32} (hf : (oc, ix) ∈ ytab) (ha : (shT (gL G) a).1 = 0) (h5 : 5 ≤ a) (hal : a < h.1) (ha0 : (shT (gL G) a0).1 = 0) (h50 : 5 ≤ a0) (hal0 : a0 < h.1) (hcs : csum r ≤ 8)
    (hq : ¬ ((sp < 0 ∨ dp < 0 ∨ n < 0) ∨ (shT (gL G) a0).2 < sp.toNatClampNeg + n.toNatClampNeg ∨ (shT (gL G) a).2 < dp.toNatClampNeg + n.toNatClampNeg)) (hd : decode cc pc = .ok (.invokestatic ix, 3)) (kk : Wst rd G p l e R s m args below meth c n0 nL Q (hI h a (va_cpy (h.2.1 a0) (h.2.1 a) sp.toNatClampNeg dp.toNatClampNeg n.toNatClampNeg)) (pc + 3) ls r) : Wst rd G p l e R s m args below meth c n0 nL Q h pc ls (.int n :: .int dp :: .ref a :: .int sp :: .ref a0 :: r) := by
  intro hn H locs cls hR hS hL
  have q1 : ¬ sp < 0 := fun z => hq (Or.inl (Or.inl z))
  have q2 : ¬ dp < 0 := fun z => hq (Or.inl (Or.inr (Or.inl z)))
  have q3 : ¬ n < 0 := fun z => hq (Or.inl (Or.inr (Or.inr z)))
  have q4 : sp.toNatClampNeg + n.toNatClampNeg ≤ (shT (gL G) a0).2 := Nat.not_lt.mp fun z => hq (Or.inr (Or.inl z))
  have q5 : dp.toNatClampNeg + n.toNatClampNeg ≤ (shT (gL G) a).2 := Nat.not_lt.mp fun z => hq (Or.inr (Or.inr z))
  have w1 : Cond.methodLink (own oc) ix arraycopyName ∈ WL := in_WLk (List.mem_append_left _ (List.mem_map.mpr ⟨_, hf, rfl⟩))
  have w2 : Cond.native arraycopyName ∈ WL := in_WLk (List.mem_append_right _ List.mem_cons_self)
  have w3 : Cond.static arraycopyName ∈ WL := in_WLk (List.mem_append_right _ (List.mem_cons_of_mem _ List.mem_cons_self))
  have w4 : Cond.initialized "java/lang/System" ∈ WL := in_WLg (List.mem_map.mpr ⟨_, by decide, rfl⟩)
  exact va_copyi (D := gD G) (cl := vwCl) (ty := .int) hx hb (by rw [hL.1, hml]) hown (hts _ w1) (hts _ w2) (hts _ w3) (hts _ w4) hK.1 hR.2.2.1 (wld_D G h) hS (a0 - 5) (a - 5) 0 0 (by rw [wld_get h50 hal0, cellE_0 ha0]) (by rw [wld_get h5 hal, cellE_0 ha]) rfl rfl rfl q1 q2 q3 q4 q5 (fun _ _ => rfl) hF
    (by rw [csum_eq]; have : nativeFrameWords "java/lang/System" "arraycopy" 5 = 7 := by decide +kernel
        omega) hd (fin_I h5 hal (by rw [cellE_0 ha]; show Sum.inl (gI G, (shT (gL G) a).2, Sum.inl (upR h.2.1 a _ a)) = _; rw [upR_self]) hn hR hL kk)
theorem w_objInit (hx : p.tables.exec = Jvm.exec) (hb : c.code = cc) (hml : c.maxLocals = nL) (hts : ∀ w ∈ WL, w.before args s = true) (hown : s.vm.findClass (own oc) = some m.cls) (hF : 1 ≤ R.frames) (hLc : 20 ≤ R.locals) {ix a : Nat} (hf : (oc, ix) ∈ otab) (hcs : csum r ≤ 8) (hd : decode cc pc = .ok (.invokespecial ix, 3)) (kk : Wst rd G p l e R s m args below meth c n0 nL Q h (pc + 3) ls r) : Wst rd G p l e R s m args below meth c n0 nL Q h pc ls (.ref a :: r) := by
  intro hn H locs cls hR hS hL
  have w1 : Cond.methodLink (own oc) ix objectInit ∈ WL := in_WLj (List.mem_append_left _ (List.mem_map.mpr ⟨_, hf, rfl⟩))
  have w2 : Cond.instanceMethod objectInit ∈ WL := in_WLj (List.mem_append_right _ List.mem_cons_self)
  have w3 : Cond.code objectInit ⟨#[0xb1]⟩ 1 none ∈ WL := in_WLj (List.mem_append_right _ (List.mem_cons_of_mem _ List.mem_cons_self))
  exact W.objInit hx hb hown (hts _ w1) (hts _ w2) (hts _ w3) rfl (by rw [hml]; exact hL.1) rfl hd hF (by show 2 * 0 + _ + 12 ≤ _; rw [csum_eq]; omega) (kk hn H locs cls hR hS hL)
theorem mcode_max : Cond.code Lib.Math.max.name Lib.Math.max.code 2 (some .int) ∈ WL := by
  have h : Cond.code Lib.Math.max.name Lib.Math.max.code 2 (some .int) = codeW (mi 268) := by rfl
  rw [h]
  exact in_WLa6 (List.mem_map.mpr ⟨mi 268, List.mem_of_getElem? (i := 28) rfl, rfl⟩)
theorem w_max (hx : p.tables.exec = Jvm.exec) (hb : c.code = cc) (hml : c.maxLocals = nL) (hts : ∀ w ∈ WL, w.before args s = true) (hown : s.vm.findClass (own oc) = some m.cls) (hF : 1 ≤ R.frames) (hLc : 21 ≤ R.locals) {ix : Nat} {x y : Int32} (hf : (oc, ix, 1) ∈ xtab) (hcs : csum r ≤ 8) (hcl : h.1 - n0 ≤ R.cells) (hsl : szs (gL G) h.1 - szs (gL G) n0 ≤ R.slots) (hd : decode cc pc = .ok (.invokestatic ix, 3)) (kk : Wst rd G p l e R s m args below meth c n0 nL Q h (pc + 3) ls (.int (if x < y then y else x) :: r)) : Wst rd G p l e R s m args below meth c n0 nL Q h pc ls (.int y :: .int x :: r) := by
  intro hn H locs cls hR hS hL
  have w1 : Cond.methodLink (own oc) ix Lib.Math.max.name ∈ WL := in_WLx (List.mem_append_left _ (List.mem_map.mpr ⟨_, hf, rfl⟩))
  have w2 : Cond.static Lib.Math.max.name ∈ WL := in_WLx (List.mem_append_right _ (List.mem_of_getElem? (i := 1) rfl))
  have w3 : Cond.initialized "java/lang/Math" ∈ WL := in_WLg (List.mem_map.mpr ⟨_, by decide, rfl⟩)
  exact va_mmax hx hb (by rw [hL.1, hml]) hown (hts _ w1) (hts _ w2) (hts _ w3) (hts _ mcode_max) hF (by rw [csum_eq]; omega) hcl hsl hd (kk hn H locs cls hR hS hL)
theorem mcode_min : Cond.code Lib.Math.min.name Lib.Math.min.code 2 (some .int) ∈ WL := by
  have h : Cond.code Lib.Math.min.name Lib.Math.min.code 2 (some .int) = codeW (mi 269) := by rfl
  rw [h]
  exact in_WLa6 (List.mem_map.mpr ⟨mi 269, List.mem_of_getElem? (i := 29) rfl, rfl⟩)
theorem w_min (hx : p.tables.exec = Jvm.exec) (hb : c.code = cc) (hml : c.maxLocals = nL) (hts : ∀ w ∈ WL, w.before args s = true) (hown : s.vm.findClass (own oc) = some m.cls) (hF : 1 ≤ R.frames) (hLc : 21 ≤ R.locals) {ix : Nat} {x y : Int32} (hf : (oc, ix, 2) ∈ xtab) (hcs : csum r ≤ 8) (hcl : h.1 - n0 ≤ R.cells) (hsl : szs (gL G) h.1 - szs (gL G) n0 ≤ R.slots) (hd : decode cc pc = .ok (.invokestatic ix, 3)) (kk : Wst rd G p l e R s m args below meth c n0 nL Q h (pc + 3) ls (.int (if y < x then y else x) :: r)) : Wst rd G p l e R s m args below meth c n0 nL Q h pc ls (.int y :: .int x :: r) := by
  intro hn H locs cls hR hS hL
  have w1 : Cond.methodLink (own oc) ix Lib.Math.min.name ∈ WL := in_WLx (List.mem_append_left _ (List.mem_map.mpr ⟨_, hf, rfl⟩))
  have w2 : Cond.static Lib.Math.min.name ∈ WL := in_WLx (List.mem_append_right _ (List.mem_of_getElem? (i := 2) rfl))
  have w3 : Cond.initialized "java/lang/Math" ∈ WL := in_WLg (List.mem_map.mpr ⟨_, by decide, rfl⟩)
  exact va_mmin hx hb (by rw [hL.1, hml]) hown (hts _ w1) (hts _ w2) (hts _ w3) (hts _ mcode_min) hF (by rw [csum_eq]; omega) hcl hsl hd (kk hn H locs cls hR hS hL)
theorem mcode_abs : Cond.code Lib.Math.abs.name Lib.Math.abs.code 1 (some .int) ∈ WL := by
  have h : Cond.code Lib.Math.abs.name Lib.Math.abs.code 1 (some .int) = codeW (mi 267) := by rfl
  rw [h]
  exact in_WLa6 (List.mem_map.mpr ⟨mi 267, List.mem_of_getElem? (i := 27) rfl, rfl⟩)
theorem w_abs (hx : p.tables.exec = Jvm.exec) (hb : c.code = cc) (hml : c.maxLocals = nL) (hts : ∀ w ∈ WL, w.before args s = true) (hown : s.vm.findClass (own oc) = some m.cls) (hF : 1 ≤ R.frames) (hLc : 21 ≤ R.locals) {ix : Nat} {x : Int32} (hf : (oc, ix, 3) ∈ xtab) (hcs : csum r ≤ 8) (hcl : h.1 - n0 ≤ R.cells) (hsl : szs (gL G) h.1 - szs (gL G) n0 ≤ R.slots) (hd : decode cc pc = .ok (.invokestatic ix, 3)) (kk : Wst rd G p l e R s m args below meth c n0 nL Q h (pc + 3) ls (.int (if 0 ≤ x then x else 0 - x) :: r)) : Wst rd G p l e R s m args below meth c n0 nL Q h pc ls (.int x :: r) := by
  intro hn H locs cls hR hS hL
  have w1 : Cond.methodLink (own oc) ix Lib.Math.abs.name ∈ WL := in_WLx (List.mem_append_left _ (List.mem_map.mpr ⟨_, hf, rfl⟩))
  have w2 : Cond.static Lib.Math.abs.name ∈ WL := in_WLx (List.mem_append_right _ (List.mem_of_getElem? (i := 0) rfl))
  have w3 : Cond.initialized "java/lang/Math" ∈ WL := in_WLg (List.mem_map.mpr ⟨_, by decide, rfl⟩)
  exact va_mabs hx hb (by rw [hL.1, hml]) hown (hts _ w1) (hts _ w2) (hts _ w3) (hts _ mcode_abs) hF (by rw [csum_eq]; omega) hcl hsl hd (kk hn H locs cls hR hS hL)
end WH
end
section
/-! rows that make cells -/
set_option maxRecDepth 100000 in
theorem shl_size : ∀ a, a < 137 → ∀ c, c < 13 → (gp shl a).1 = 4 + c → (gp shl a).2 = (clT c).2.2 := by decide +kernel
set_option maxRecDepth 100000 in
theorem shl_le : ∀ a, a < 137 → (gp shl a).2 ≤ 240 := by decide +kernel
set_option maxRecDepth 100000 in
theorem ftT_le : ∀ c, c < 13 → ∀ j, j < (clT c).2.2 → gn (gll ftT c) j ≤ 3 := by decide +kernel
theorem shT_of {L a : Nat} (h : 0 < a) : shT L a = if a < 137 then gp shl a else (7, 7) := by
  unfold shT
  rw [show Nat.beq a 0 = false from by
    cases a
    · omega
    · rfl]
  by_cases q : a < 137
  · rw [if_pos q, Nat.blt_eq.mpr q]; rfl
  · rw [if_neg q, show Nat.blt a 137 = false from by
      cases hq : Nat.blt a 137
      · rfl
      · exact absurd (Nat.blt_eq.mp hq) q]; rfl
theorem shT_size {L a c : Nat} (h0 : 0 < a) (hc : c < 13) (h : (shT L a).1 = 4 + c) : (shT L a).2 = (clT c).2.2 := by
  rw [shT_of h0] at h ⊢
  by_cases q : a < 137
  · rw [if_pos q] at h ⊢
    exact shl_size a q c hc h
  · rw [if_neg q] at h ⊢
    have : c = 3 := by simp at h; omega
    subst this
    rfl
theorem shT_le {L a : Nat} (h0 : 0 < a) : (shT L a).2 ≤ 240 := by
  rw [shT_of h0]
  by_cases q : a < 137
  · rw [if_pos q]
    exact shl_le a q
  · rw [if_neg q]
    decide
section WN
variable {S : Type} {rd : S → Nat → Nat → Option Nat} {G : Gx} {p : Program} {l : Launch} {e : Env} {R : Room} {s : State} {m : MethodId} {args : Array Value} {below : List Frame} {meth : Method} {c : Code} {n0 nL : Nat} {Q : State → Prop}
variable {cc : ByteArray} {h : Hp S} {pc : Nat} {ls : LV} {r : List Value} {oc : Nat} {H : Heap} {locs : List Loc}
theorem zer_N {k : Nat} (hz : zer rd h) : zer rd (hN h k) := fun b hb i => hz b (by have : h.1 + k ≤ b := hb; omega) i
/-- a cell behind the last -/
theorem fin_new {H1 : Heap} {va : va_E} {k : Nat} (hs : s.heap.size + 5 = gB G + n0) (h5 : 5 ≤ n0) (hn : n0 ≤ h.1) (hR : RelH rd G h H) (hS : va_S (AA G) s.heap H locs) {cls : Array Slot} (hL : LRel G cls nL ls) (hsz : H.size + 5 = gB G + h.1) (z1 : H1.size = H.size + 1) (o1 : ∀ q, q < H.size → H1[q]? = H[q]?) (hva : va_at (gD G) vwCl (H.size, cellE rd G (hN h 1) h.1) H1) {pc' : Nat}
    (kk : Wst rd G p l e R s m args below meth c n0 nL Q (hN h 1) pc' ls (.ref h.1 :: r)) : W p l e R s m args below meth c H1 locs (h.1 - n0 + 1) (szs (gL G) h.1 - szs (gL G) n0 + (shT (gL G) h.1).2) Q (F0 m pc' cls (.ref H.size :: r.map (phv G))) := by
  have e0 : gB G + (h.1 - 5) = H.size := by have := hR.1; omega
  have hP1 : va_P (gD G) vwCl (wld rd G (hN h 1)) H1 := by
    rw [← wld_push hR.1 (h' := hN h 1) rfl (fun b _ => cellE_eq rfl rfl (fun _ => rfl)), e0]
    refine (hR.2.2.1.kept (fun k x hx => o1 x.1 ((hR.2.2.1 k x hx).lt))).app (fun k x hx => ?_)
    have hk : k < 1 := (List.getElem?_eq_some_iff.mp hx).1
    rw [show k = 0 by omega] at hx
    cases hx
    exact hva
  have hS1 : va_S (AA G) s.heap H1 locs := ⟨by rw [z1]; exact Nat.le_trans hS.1 (Nat.le_succ _), fun x g1 g2 => (o1 x (Nat.lt_of_lt_of_le g1 hS.1)).trans (hS.2.1 x g1 g2), hS.2.2⟩
  have k1 := kk (show n0 ≤ h.1 + 1 by omega) H1 locs cls ⟨show 5 ≤ h.1 + 1 by omega, Nat.le_trans hR.2.1 (Nat.le_succ _), hP1, zer_N hR.2.2.2⟩ hS1 hL
  have k2 : W p l e R s m args below meth c H1 locs (h.1 + 1 - n0) (szs (gL G) (h.1 + 1) - szs (gL G) n0) Q (F0 m pc' cls (.ref (phi G h.1) :: r.map (phv G))) := k1
  rw [phi5 hR.1, e0] at k2
  have hm := szs_le (gL G) hn
  have e2 : szs (gL G) (h.1 + 1) = szs (gL G) h.1 + (shT (gL G) h.1).2 := rfl
  exact W.cs (by omega) (by omega) k2
theorem w_new (hx : p.tables.exec = Jvm.exec) (hb : c.code = cc) (hts : ∀ w ∈ WL, w.before args s = true) (hown : s.vm.findClass (own oc) = some m.cls) (hK : KU G s) (hs : s.heap.size + 5 = gB G + n0) (h5 : 5 ≤ n0) {ix ci : Nat} (hf : (oc, ix, ci) ∈ ntab) (hci : ci < 13) (hsh : (shT (gL G) h.1).1 = 4 + ci) (hcl : h.1 + 1 - n0 ≤ R.cells) (hsl : szs (gL G) (h.1 + 1) - szs (gL G) n0 ≤ R.slots)
    (hd : decode cc pc = .ok (.new ix, 3)) (kk : Wst rd G p l e R s m args below meth c n0 nL Q (hN h 1) (pc + 3) ls (.ref h.1 :: r)) : Wst rd G p l e R s m args below meth c n0 nL Q h pc ls r := by
  intro hn H locs cls hR hS hL
  refine W_size (fun hle => ?_)
  have hsz := size_of hs h5 hn hR hS hle
  obtain ⟨ty0, q1, q2, q3, q4⟩ := clF hci
  have hKn := hK.1.1 ci _ (clT_at hci)
  have h0 : 0 < h.1 := by have := hR.1; omega
  have hN' := shT_size (L := gL G) h0 hci hsh
  have hm := szs_le (gL G) hn
  have e2 : szs (gL G) (h.1 + 1) = szs (gL G) h.1 + (shT (gL G) h.1).2 := rfl
  have w1 : Cond.classLink (own oc) ix (clT ci).1 ∈ WL := in_WLh (List.mem_flatMap.mpr ⟨_, hf, List.mem_cons_self⟩)
  have w2 : Cond.instantiable (clT ci).1 (clT ci).2.2 ∈ WL := in_WLh (List.mem_flatMap.mpr ⟨_, hf, List.mem_cons_of_mem _ List.mem_cons_self⟩)
  have w3 : Cond.initialized (clT ci).1 ∈ WL := in_WLg (List.mem_map.mpr ⟨(clT ci).1, by
    have : ∀ c, c < 13 → (clT c).1 ∈ iniL := by decide +kernel
    exact this ci hci, rfl⟩)
  refine W.newcK hx hb hown (hts _ w1) (hts _ w2) (hts _ w3) rfl hd (by omega) (by omega) hKn.2.1 rfl (fun H1 kC hkC e1 z1 o1 => ?_)
  rw [← hN']
  refine fin_new (k := 1) (va := cellE rd G (hN h 1) h.1) hs h5 hn hR hS hL hsz z1 o1 ?_ kk
  rw [cellE_4 hsh]
  refine ⟨_, clT_at hci, (u_born ty0 hts (clI hci) hKn hkC e1 q1).to (fun j hj => ?_)⟩
  show defaultValue (ty0 j) = (fds rd G (hN h 1) ci h.1).getD j .null
  rw [List.getD_eq_getElem?_getD, fds_get hj]
  simp only [Option.getD_some]
  obtain ⟨z1, z2, z3⟩ := hR.2.2.2 h.1 (Nat.le_refl _) j
  unfold fld
  show _ = (match gn (gll ftT ci) j with | 1 => Value.long (h.2.2.1 h.1 j) | 2 => va_rf ((rd h.2.2.2 h.1 j).map (phi G)) | _ => Value.int (h.2.1 h.1 j))
  rw [z1, z2, z3]
  have hle := ftT_le ci hci j hj
  have hq := q3 j hj
  rw [hq] at hle ⊢
  cases hty : ty0 j <;> rw [hty] at hle <;> first | rfl | (exfalso; revert hle; simp [tgO])
theorem w_newarr (hx : p.tables.exec = Jvm.exec) (hb : c.code = cc) (hts : ∀ w ∈ WL, w.before args s = true) (hK : KU G s) (hs : s.heap.size + 5 = gB G + n0) (h5 : 5 ≤ n0) {t : ArrayType} {n : Int32} (ht : ((shT (gL G) h.1).1 = 0 ∧ t = .int) ∨ ((shT (gL G) h.1).1 = 1 ∧ t = .boolean)) (hlen : (shT (gL G) h.1).2 = n.toNatClampNeg) (hneg : ¬ n < 0) (hcl : h.1 + 1 - n0 ≤ R.cells) (hsl : szs (gL G) (h.1 + 1) - szs (gL G) n0 ≤ R.slots)
    (hd : decode cc pc = .ok (.newarray t, 2)) (kk : Wst rd G p l e R s m args below meth c n0 nL Q (hN h 1) (pc + 2) ls (.ref h.1 :: r)) : Wst rd G p l e R s m args below meth c n0 nL Q h pc ls (.int n :: r) := by
  intro hn H locs cls hR hS hL
  refine W_size (fun hle => ?_)
  have hsz := size_of hs h5 hn hR hS hle
  have h0 : 0 < h.1 := by have := hR.1; omega
  have hm := szs_le (gL G) hn
  have e2 : szs (gL G) (h.1 + 1) = szs (gL G) h.1 + (shT (gL G) h.1).2 := rfl
  have hb240 := shT_le (L := gL G) h0
  have hzf : (hN h 1).2.1 h.1 = fun _ => (0 : Int32) := funext fun j => (hR.2.2.2 h.1 (Nat.le_refl _) j).1
  rcases ht with ⟨q, rfl⟩ | ⟨q, rfl⟩
  · refine va_newaK hx hb (atype := .int) (hts _ (in_WLm (List.mem_append_left _ List.mem_cons_self))) rfl hd rfl hneg hlen.symm (by show _ * 4 ≤ _; omega) (by omega) (by omega) rfl (fun H1 cA e1 z1 o1 hAr hNm => ?_)
    have hc : cA = gI G := Option.some.inj (hNm.symm.trans (hK.1.2 0 _ rfl).2)
    subst hc
    refine fin_new (k := 1) (va := cellE rd G (hN h 1) h.1) hs h5 hn hR hS hL hsz z1 o1 ?_ kk
    rw [cellE_0 q, hzf]
    exact e1
  · refine va_newaK hx hb (atype := .boolean) (hts _ (in_WLm (List.mem_append_left _ (List.mem_cons_of_mem _ List.mem_cons_self)))) rfl hd rfl hneg hlen.symm (by show _ * 1 ≤ _; omega) (by omega) (by omega) rfl (fun H1 cA e1 z1 o1 hAr hNm => ?_)
    have hc : cA = gZ G := Option.some.inj (hNm.symm.trans (hK.1.2 1 _ rfl).2)
    subst hc
    refine fin_new (k := 1) (va := cellE rd G (hN h 1) h.1) hs h5 hn hR hS hL hsz z1 o1 ?_ kk
    rw [cellE_1 q, hzf]
    exact e1
theorem w_anewarr (hx : p.tables.exec = Jvm.exec) (hb : c.code = cc) (hts : ∀ w ∈ WL, w.before args s = true) (hown : s.vm.findClass (own oc) = some m.cls) (hK : KU G s) (hs : s.heap.size + 5 = gB G + n0) (h5 : 5 ≤ n0) {ix : Nat} {n : Int32} (hf : (oc, ix) ∈ atab) (ht : (shT (gL G) h.1).1 = 2) (hlen : (shT (gL G) h.1).2 = n.toNatClampNeg) (hneg : ¬ n < 0) (hcl : h.1 + 1 - n0 ≤ R.cells) (hsl : szs (gL G) (h.1 + 1) - szs (gL G) n0 ≤ R.slots)
    (hd : decode cc pc = .ok (.anewarray ix, 3)) (kk : Wst rd G p l e R s m args below meth c n0 nL Q (hN h 1) (pc + 3) ls (.ref h.1 :: r)) : Wst rd G p l e R s m args below meth c n0 nL Q h pc ls (.int n :: r) := by
  intro hn H locs cls hR hS hL
  refine W_size (fun hle => ?_)
  have hsz := size_of hs h5 hn hR hS hle
  have h0 : 0 < h.1 := by have := hR.1; omega
  have hm := szs_le (gL G) hn
  have e2 : szs (gL G) (h.1 + 1) = szs (gL G) h.1 + (shT (gL G) h.1).2 := rfl
  have hb240 := shT_le (L := gL G) h0
  have w1 : Cond.classLink (own oc) ix "DryLand$Line" ∈ WL := in_WLm (List.mem_append_right _ (List.mem_append_left _ (List.mem_map.mpr ⟨_, hf, rfl⟩)))
  refine W.anew hx hb hown (hts _ w1) (va_AO.use hK.2.2.1) rfl hd rfl hneg (by omega) (by omega) (by omega) (fun cA kA comp f1 f2 f3 f4 => ?_)
  have hc : cA = gN G := by
    obtain ⟨_, _, _, _, _, hq⟩ := (hK.1.2 2 _ rfl).2
    exact Option.some.inj (f1.symm.trans hq)
  subst hc
  rw [← hlen]
  refine fin_new (k := 1) (va := cellE rd G (hN h 1) h.1) hs h5 hn hR hS hL hsz (by simp) (fun q hq => by rw [Array.getElem?_push, if_neg (Nat.ne_of_lt hq)]) ?_ kk
  rw [cellE_2 ht]
  show (H.push _)[H.size]? = some (vp_cell _ _)
  rw [vp_cell_q, Array.getElem?_push, if_pos rfl]
  have e : (fun j => va_rf ((rd (hN h 1).2.2.2 h.1 j).map (phi G))) = fun _ => Value.null := funext fun j => by
    have : rd (hN h 1).2.2.2 h.1 j = none := (hR.2.2.2 h.1 (Nat.le_refl _) j).2.2
    rw [this]
    rfl
  rw [e, ← arrV_new]
end WN
end
section
/-! new int[n][m], out of the machine's own words -/
def outC (cA : ClassId) (N h0 j : Nat) : Cell := arrV cA N (fun i => if i < j then .ref (h0 + 1 + i) else .null)
def innC (cy : ClassId) (K : Nat) : Cell := { cls := cy, slots := Array.replicate K (.int 0), vm := .none }
def mnaS (s : State) (cA cy : ClassId) (N K : Nat) : Nat → State
  | 0 => s.pushCell { cls := cA, slots := Array.replicate N .null, vm := .none }
  | j + 1 => ((mnaS s cA cy N K j).pushCell (innC cy K)).setCell s.heap.size ((outC cA N s.heap.size j).setSlot j (.ref (s.heap.size + 1 + j)))
theorem outC_0 (cA : ClassId) (N h0 : Nat) : ({ cls := cA, slots := Array.replicate N .null, vm := .none } : Cell) = outC cA N h0 0 := by
  rw [arrV_new]
  unfold outC
  congr 1
theorem outC_s (cA : ClassId) (N h0 j : Nat) : (outC cA N h0 j).setSlot j (.ref (h0 + 1 + j)) = outC cA N h0 (j + 1) := by
  unfold outC
  rw [arrV_store]
  congr 1
  funext i
  unfold updV
  by_cases e : i = j
  · rw [if_pos e, if_pos (by omega), e]
  · by_cases h : i < j
    · rw [if_neg e]
      show (if i < j then Value.ref (h0 + 1 + i) else Value.null) = _
      rw [if_pos h, if_pos (by omega)]
    · rw [if_neg e]
      show (if i < j then Value.ref (h0 + 1 + i) else Value.null) = _
      rw [if_neg h, if_neg (by omega)]
theorem mnaS_facts (s : State) (cA cy : ClassId) (N K : Nat) : ∀ j : Nat, (mnaS s cA cy N K j).heap.size = s.heap.size + 1 + j ∧ (mnaS s cA cy N K j).heap[s.heap.size]? = some (outC cA N s.heap.size j) ∧ (∀ q, q < s.heap.size → (mnaS s cA cy N K j).heap[q]? = s.heap[q]?) ∧
    (∀ i, i < j → (mnaS s cA cy N K j).heap[s.heap.size + 1 + i]? = some (innC cy K)) ∧ (mnaS s cA cy N K j).vm = s.vm ∧ (mnaS s cA cy N K j).slotsUsed = s.slotsUsed + N + j * K ∧ (mnaS s cA cy N K j).topJava? = s.topJava?
  | 0 => by
    refine ⟨?_, ?_, fun q hq => ?_, fun i hi => absurd hi (by omega), rfl, ?_, rfl⟩
    · show (s.heap.push _).size = _
      simp
    · show (s.heap.push _)[s.heap.size]? = _
      rw [Array.getElem?_push, if_pos rfl, outC_0 cA N s.heap.size]
    · show (s.heap.push _)[q]? = _
      rw [Array.getElem?_push, if_neg (Nat.ne_of_lt hq)]
    · show s.slotsUsed + (Array.replicate N Value.null).size = _
      simp
  | j + 1 => by
    obtain ⟨h1, h2, h3, h4, h5, h6, h7⟩ := mnaS_facts s cA cy N K j
    have hh : (mnaS s cA cy N K (j + 1)).heap = ((mnaS s cA cy N K j).heap.push (innC cy K)).setIfInBounds s.heap.size ((outC cA N s.heap.size j).setSlot j (.ref (s.heap.size + 1 + j))) := rfl
    have hsz : s.heap.size < ((mnaS s cA cy N K j).heap.push (innC cy K)).size := by simp; omega
    refine ⟨?_, ?_, fun q hq => ?_, fun i hi => ?_, h5, ?_, h7⟩
    · rw [hh]; simp; omega
    · rw [hh, Array.getElem?_setIfInBounds, if_pos rfl, if_pos hsz, outC_s]
    · rw [hh, Array.getElem?_setIfInBounds, if_neg (Nat.ne_of_gt hq), Array.getElem?_push, if_neg (by omega)]
      exact h3 q hq
    · rw [hh, Array.getElem?_setIfInBounds, if_neg (by omega), Array.getElem?_push]
      by_cases e : i = j
      · rw [if_pos (by omega)]
      · rw [if_neg (by omega)]
        exact h4 i (by omega)
    · show (mnaS s cA cy N K j).slotsUsed + (innC cy K).slots.size = _
      rw [h6]
      show _ + (Array.replicate K (Value.int 0)).size = _
      simp
      rw [Nat.succ_mul]
      omega
section MNA
variable {E : CtlPost} {e : Env} {d : Bool} {acts : List Action}
set_option maxHeartbeats 4000000 in
theorem mna_wp {s : State} {f : JFrame} {index : Nat} {cA cy ci : ClassId} {kA ky : Class} {n k : Int32} {rest : List Value} (hs : s.topJava?.isSome) (hr : s.vm.classReady f.method.cls index cA) (hkA : s.vm.classes[cA]? = some kA) (hkindA : kA.kind = .array cy (.array .int)) (hky : s.vm.classes[cy]? = some ky) (hkindy : ky.kind = .array ci .int)
    (hstack : f.stack = .int k :: .int n :: rest) (hn : ¬ n < 0) (hk : ¬ k < 0) (hlN : ¬ n.toNatClampNeg > e.platform.arrayLengthLimit) (hlK : ¬ k.toNatClampNeg > e.platform.arrayLengthLimit) (hhN : ¬ n.toNatClampNeg * componentBytes (.array .int) > e.platform.maxHeapBytes) (hhK : ¬ k.toNatClampNeg * componentBytes .int > e.platform.maxHeapBytes)
    (hcells : s.heap.size + (1 + n.toNatClampNeg) ≤ e.platform.maxCells) (hslots : s.slotsUsed + (n.toNatClampNeg + n.toNatClampNeg * k.toNatClampNeg) ≤ e.platform.maxSlots) {Q : Unit → Pre}
    (hq : ∀ d' acts', Q () d' acts' ((mnaS s cA cy n.toNatClampNeg k.toNatClampNeg n.toNatClampNeg).setTop { f with stack := .ref s.heap.size :: rest })) :
    Jvm.Sem.wp (Op.multianewarray.sem index 2) Q E e d acts (s.setTop f) := by
  simp only [Op.multianewarray.sem, wp_bind', W.resolveClassAt_ready (State.method?_setTop f hs) hr]
  have e2 : (2 : Nat) = ([.int n, .int k] : List Value).length := rfl
  rw [e2, Op.popN_top (args := [.int n, .int k]) (rest := rest) hs (by rw [hstack]; rfl)]
  simp only [List.mapM_cons, List.mapM_nil, wp_bind', wp_pure']
  unfold Op.multianewarray.make
  simp only [wp_bind', W.ite, hn, if_false, wp_pure', W.theClass, State.vm_setTop, hkA, Option.some.injEq, exists_eq_left', hkindA]
  generalize hf2 : ({ f with stack := rest } : JFrame) = f2
  have hfin : ∀ d' acts', Q () d' acts' ((mnaS s cA cy n.toNatClampNeg k.toNatClampNeg n.toNatClampNeg).setTop { f2 with stack := .ref s.heap.size :: f2.stack }) := by
    intro d' acts'
    rw [← hf2]
    exact hq d' acts'
  refine W.newArray_of (s := s.setTop f2) (k := kA) hkA hkindA hlN hhN (by show s.heap.size < _; omega) (by show s.slotsUsed + _ ≤ _; omega) rfl (fun acts1 => ?_)
  have mk : ∀ (s1 : State) (d' : Bool) (acts' : List Action) (Q' : Addr → Pre), s1.vm = s.vm → s1.heap.size < e.platform.maxCells → s1.slotsUsed + k.toNatClampNeg ≤ e.platform.maxSlots → (∀ acts'', Q' s1.heap.size d' acts'' (s1.pushCell (innC cy k.toNatClampNeg))) → Jvm.Sem.wp (Op.multianewarray.make cy [k]) Q' E e d' acts' s1 := by
    intro s1 d' acts' Q' hv hc hsl hq'
    unfold Op.multianewarray.make
    simp only [wp_bind', W.ite, hk, if_false, wp_pure', W.theClass, hv, hky, Option.some.injEq, exists_eq_left', hkindy]
    exact W.newArray_of (k := ky) (by rw [hv]; exact hky) hkindy hlK hhK hc hsl rfl hq'
  have loop : ∀ (m j : Nat), j + m = n.toNatClampNeg → ∀ (d' : Bool) (acts' : List Action), Jvm.Sem.wp (forIn (List.range' j m) PUnit.unit (fun i (_ : PUnit) => do
      let x ← Op.multianewarray.make cy [k]
      writeLoc s.heap.size i (Value.ref x)
      Pure.pure (ForInStep.yield PUnit.unit))) (fun _ => Jvm.Sem.wp (do
        mark "op.multianewarray"
        pushRef s.heap.size) Q E e) E e d' acts' ((mnaS s cA cy n.toNatClampNeg k.toNatClampNeg j).setTop f2) := by
    intro m
    induction m with
    | zero =>
      intro j hj d' acts'
      obtain rfl : j = n.toNatClampNeg := by omega
      have h7 := (mnaS_facts s cA cy n.toNatClampNeg k.toNatClampNeg n.toNatClampNeg).2.2.2.2.2.2
      simp only [List.range'_zero, List.forIn_nil, wp_pure', wp_bind', W.mark]
      have ht : ((mnaS s cA cy n.toNatClampNeg k.toNatClampNeg n.toNatClampNeg).setTop f2).topJava? = some f2 := State.topJava?_setTop' _ (by rw [h7]; exact hs)
      simp only [W.pushRef, ht, Option.some.injEq, exists_eq_left', State.setTop_setTop]
      exact hfin _ _
    | succ m ih =>
      intro j hj d' acts'
      obtain ⟨h1, h2, h3, h4, h5, h6, h7⟩ := mnaS_facts s cA cy n.toNatClampNeg k.toNatClampNeg j
      rw [List.range'_succ]
      simp only [List.forIn_cons, wp_bind']
      have hjN : j < n.toNatClampNeg := by omega
      have hmul : j * k.toNatClampNeg + k.toNatClampNeg ≤ n.toNatClampNeg * k.toNatClampNeg := by
        have := Nat.mul_le_mul_right k.toNatClampNeg (show j + 1 ≤ n.toNatClampNeg by omega)
        rw [Nat.succ_mul] at this
        exact this
      refine mk _ _ _ _ h5 (by show (mnaS s cA cy n.toNatClampNeg k.toNatClampNeg j).heap.size < _; omega) (by show (mnaS s cA cy n.toNatClampNeg k.toNatClampNeg j).slotsUsed + _ ≤ _; omega) (fun acts2 => ?_)
      simp only [wp_bind', W.writeLoc, wp_pure']
      refine ⟨outC cA n.toNatClampNeg s.heap.size j, ?_, ?_, ?_, ?_, ?_⟩
      · show ((mnaS s cA cy n.toNatClampNeg k.toNatClampNeg j).heap.push _)[s.heap.size]? = _
        rw [Array.getElem?_push, if_neg (by omega)]
        exact h2
      · intro q
        cases q
      · unfold outC
        rw [arrV_size]
        exact hjN
      · have hv : ((mnaS s cA cy n.toNatClampNeg k.toNatClampNeg j).setTop f2).vm.classes[cA]? = some kA := by
          show (mnaS s cA cy n.toNatClampNeg k.toNatClampNeg j).vm.classes[cA]? = some kA
          rw [h5]
          exact hkA
        have hv3 : (mnaS s cA cy n.toNatClampNeg k.toNatClampNeg j).vm.classes[cA]? = some kA := hv
        show State.fitsSlot _ cA .none j (.ref _) = true
        simp [State.fitsSlot, State.slotType?, hv3, hkindA, fits]
      · have e1 : ((mnaS s cA cy n.toNatClampNeg k.toNatClampNeg j).setTop f2).heap.size = s.heap.size + 1 + j := h1
        rw [e1]
        exact ih (j + 1) (by omega) _ _
  have fl : List.find? (fun x => decide (x < 0)) [k] = none := by simp [hk]
  rw [fl]
  dsimp only
  rw [ite_self]
  simp only [wp_bind', wp_pure']
  have hl := loop n.toNatClampNeg 0 (by omega) (if [Value.int n, Value.int k].length = 0 then d else true) acts1
  rw [Std.Legacy.Range.forIn_eq_forIn_range']
  have hz : (Std.Legacy.Range.size [:n.toNatClampNeg]) = n.toNatClampNeg := by simp [Std.Legacy.Range.size]
  rw [hz]
  simp only [wp_pure']
  exact hl
end MNA
end
section
theorem wrm_rd {S : Type} {rd : S → Nat → Nat → Option Nat} {wr : S → Nat → Nat → Nat → Option S} (hwr : ∀ (r : S) (a i v : Nat) (r' : S), wr r a i v = some r' → ∀ b j, rd r' b j = if b = a ∧ j = i then some v else rd r b j) {a : Nat} : ∀ {n : Nat} {r r' : S}, wrm wr a n r = some r' → ∀ b j, rd r' b j = if b = a ∧ j < n then some (a + 1 + j) else rd r b j
  | 0, r, r', h, b, j => by
    cases h
    rw [if_neg (fun z => absurd z.2 (by omega))]
  | n + 1, r, r', h, b, j => by
    obtain ⟨z, h1, h2⟩ := Option.bind_eq_some_iff.mp (show (wrm wr a n r).bind (fun t => wr t a n (a + 1 + n)) = some r' from h)
    rw [hwr _ _ _ _ _ h2 b j, wrm_rd hwr h1 b j]
    by_cases hb : b = a
    · by_cases hj : j = n
      · rw [if_pos ⟨hb, hj⟩, if_pos ⟨hb, by omega⟩, hj]
      · rw [if_neg (fun q => hj q.2)]
        by_cases hl : j < n
        · rw [if_pos ⟨hb, hl⟩, if_pos ⟨hb, by omega⟩]
        · rw [if_neg (fun q => hl q.2), if_neg (fun q => by omega)]
    · rw [if_neg (fun q => hb q.1), if_neg (fun q => hb q.1), if_neg (fun q => hb q.1)]
theorem shm_at {L a m : Nat} : ∀ {n : Nat}, shm L a m n = true → ∀ j, j < n → (shT L (a + 1 + j)).1 = 0 ∧ (shT L (a + 1 + j)).2 = m
  | 0, _, j, hj => absurd hj (by omega)
  | n + 1, h, j, hj => by
    have h : (shm L a m n && (Nat.beq (shT L (a + 1 + n)).1 0 && Nat.beq (shT L (a + 1 + n)).2 m)) = true := h
    simp only [Bool.and_eq_true] at h
    by_cases e : j = n
    · rw [e]
      exact ⟨nbeq h.2.1, nbeq h.2.2⟩
    · exact shm_at h.1 j (by omega)
theorem szs_mna {L a m N : Nat} (h0 : (shT L a).2 = N) (h : ∀ j, j < N → (shT L (a + 1 + j)).2 = m) : ∀ n, n ≤ N → szs L (a + 1 + n) = szs L a + N + n * m
  | 0, _ => by
    show szs L a + (shT L a).2 = _
    rw [h0]; omega
  | n + 1, hn => by
    show szs L (a + 1 + n) + (shT L (a + 1 + n)).2 = _
    rw [szs_mna h0 h n (by omega), h n (by omega), Nat.succ_mul]
    omega
set_option maxRecDepth 100000 in
theorem shl_3 : ∀ a, a < 137 → (gp shl a).1 = 3 → 1 ≤ (gp shl a).2 := by decide +kernel
theorem mna_cold {E : CtlPost} {e : Env} {d : Bool} {acts : List Action} {s : State} {f : JFrame} {Q : Unit → Pre} {index c dm : Nat} {vm' : Vm} (hs : s.topJava?.isSome) (hg : (Jvm.resolveClass f.method.cls index).Gives e.toSetting s.vm (.ok c) vm') (hr : vm'.classReady f.method.cls index c) (hsz : vm'.classes.size ≤ s.vm.classes.size := by no_record) :
    Jvm.Sem.wp (Op.multianewarray.sem index dm) Q E e d acts (s.setTop f) ↔ Jvm.Sem.wp (Op.multianewarray.sem index dm) Q E e d acts ((s.setVm vm').setTop f) := by
  simp only [Op.multianewarray.sem, wp_bind']
  exact W.resolveClassAt_transfer (s := s.setTop f) (State.method?_setTop f hs) hg hr hsz
section WMNA
variable {S : Type} {rd : S → Nat → Nat → Option Nat} {wr : S → Nat → Nat → Nat → Option S} {G : Gx} {p : Program} {l : Launch} {e : Env} {R : Room} {s : State} {m : MethodId} {args : Array Value} {below : List Frame} {meth : Method} {c : Code} {n0 nL : Nat} {Q : State → Prop}
variable {cc : ByteArray} {h : Hp S} {pc : Nat} {ls : LV} {r : List Value} {oc : Nat}
theorem mna_stand {T : State} {locs : List Loc} {cells slots : Nat} (cA cy : ClassId) (N K : Nat) (X : Stand p l e R s m args below meth c T locs cells slots) : ∀ j : Nat, ∃ Ls : List Loc, Stand p l e R s m args below meth c (mnaS T cA cy N K j) (locs ++ Ls) (cells + 1 + j) (slots + N + j * K) ∧ ∀ q ∈ Ls, q.base = T.heap.size
  | 0 => by
    refine ⟨[], ?_, fun q hq => absurd hq List.not_mem_nil⟩
    have := X.pushed { cls := cA, slots := Array.replicate N .null, vm := .none }
    simpa [mnaS] using this
  | j + 1 => by
    obtain ⟨Ls, X1, h1⟩ := mna_stand cA cy N K X j
    have f := mnaS_facts T cA cy N K j
    have X2 := X1.pushed (innC cy K)
    have X3 := X2.stored (a := T.heap.size) (cell := outC cA N T.heap.size j) (by
      show ((mnaS T cA cy N K j).heap.push _)[T.heap.size]? = _
      rw [Array.getElem?_push, if_neg (by omega)]
      exact f.2.1) j (.ref (T.heap.size + 1 + j))
    refine ⟨Ls ++ [⟨T.heap.size, j⟩], ?_, fun q hq => ?_⟩
    · rw [← List.append_assoc]
      have e1 : slots + N + (j + 1) * K = slots + N + j * K + (innC cy K).slots.size := by
        show _ = slots + N + j * K + (Array.replicate K (Value.int 0)).size
        rw [Nat.succ_mul]
        simp
        omega
      rw [e1]
      exact X3
    · rcases List.mem_append.mp hq with z | z
      · exact h1 q z
      · simp at z
        rw [z]
set_option maxHeartbeats 4000000 in
theorem w_mna (hwr : ∀ (r : S) (a i v : Nat) (r' : S), wr r a i v = some r' → ∀ b j, rd r' b j = if b = a ∧ j = i then some v else rd r b j) (hx : p.tables.exec = Jvm.exec) (hb : c.code = cc) (hts : ∀ w ∈ WL, w.before args s = true) (hown : s.vm.findClass (own oc) = some m.cls) (hK : KU G s) (hs : s.heap.size + 5 = gB G + n0) (h5 : 5 ≤ n0) {ix : Nat} {x y : Int32} (hf : (oc, ix) ∈ utab) (h3 : (shT (gL G) h.1).1 = 3) (hlen : (shT (gL G) h.1).2 = x.toNatClampNeg) (hnx : ¬ x < 0) (hsm : shm (gL G) h.1 y.toNatClampNeg x.toNatClampNeg = true) (hny : ¬ y < 0) {s2 : S} (hw : wrm wr h.1 x.toNatClampNeg h.2.2.2 = some s2)
    (hcl : h.1 + (1 + x.toNatClampNeg) - n0 ≤ R.cells) (hsl : szs (gL G) (h.1 + (1 + x.toNatClampNeg)) - szs (gL G) n0 ≤ R.slots) (hd : decode cc pc = .ok (.multianewarray ix 2, 4)) (kk : Wst rd G p l e R s m args below meth c n0 nL Q (hR (hN h (1 + x.toNatClampNeg)) s2) (pc + 4) ls (.ref h.1 :: r)) : Wst rd G p l e R s m args below meth c n0 nL Q h pc ls (.int y :: .int x :: r) := by
  intro hn H locs cls hR0 hS hL
  refine W_size (fun hle => ?_)
  have hsz := size_of hs h5 hn hR0 hS hle
  have hm5 := hR0.1
  have h0 : 0 < h.1 := by omega
  have hsh := shm_at hsm
  have hb1 := shT_le (L := gL G) h0
  have hN1 : 1 ≤ x.toNatClampNeg := by
    rw [← hlen]
    rw [shT_of h0] at h3 ⊢
    by_cases q : h.1 < 137
    · rw [if_pos q] at h3 ⊢
      exact shl_3 _ q h3
    · rw [if_neg q] at h3
      simp at h3
  have hb2 : y.toNatClampNeg ≤ 240 := by
    have := shT_le (L := gL G) (a := h.1 + 1 + 0) (by omega)
    rw [(hsh 0 (by omega)).2] at this
    exact this
  have hszs := szs_mna hlen (fun j hj => (hsh j hj).2) x.toNatClampNeg (Nat.le_refl _)
  rw [show h.1 + 1 + x.toNatClampNeg = h.1 + (1 + x.toNatClampNeg) by omega] at hszs
  have hm1 := szs_le (gL G) hn
  intro T hT X
  have hpl : e.platform.magicAccessors = ({} : Platform).magicAccessors := by rw [X.admits.platform]
  have w1 : Cond.classLink (own oc) ix "[[I" ∈ WL := in_WLm (List.mem_append_right _ (List.mem_append_right _ (List.mem_append_left _ (List.mem_map.mpr ⟨_, hf, rfl⟩))))
  obtain ⟨cA, hfA, hcl1⟩ := Cond.classLink_spec hown (hts _ w1) e.platform hpl
  obtain rfl : cA = gA G := Option.some.inj (hfA.symm.trans (hK.1.2 3 _ rfl).2)
  obtain ⟨hg₁, hwarm₁, hready₁⟩ := State.classEntry (e := e) X.warmed hcl1
  generalize T.vm.noted m.cls ix (.cls (gA G)) = vm₁ at hg₁ hwarm₁ hready₁
  have hal : s.vm.Alike vm₁ := hwarm₁.alike
  obtain ⟨kA, hkA, hkindA⟩ := hK.2.2.2.1
  obtain ⟨kA₁, hkA₁, heA⟩ := hal.2.2 _ _ hkA
  have hkindA₁ : kA₁.kind = .array (gI G) (.array .int) := by rw [heA]; exact hkindA
  obtain ⟨-, ky, hky, ci, hkindy⟩ := (hK.1.2 0 _ rfl).1 0 (fun _ => .null)
  obtain ⟨ky₁, hky₁, hey⟩ := hal.2.2 _ _ hky
  have hkindy₁ : ky₁.kind = .array ci .int := by rw [hey]; exact hkindy
  obtain ⟨r1, r2⟩ := X.roomAbove (a := 1 + x.toNatClampNeg) (b := x.toNatClampNeg + x.toNatClampNeg * y.toNatClampNeg) (by omega) (by omega)
  have X₁ := X.noted hwarm₁
  obtain ⟨Ls, X2, hLs⟩ := mna_stand (gA G) (gI G) x.toNatClampNeg y.toNatClampNeg X₁ x.toNatClampNeg
  obtain ⟨f1, f2, f3, f4, -, -, -⟩ := mnaS_facts (T.setVm vm₁) (gA G) (gI G) x.toNatClampNeg y.toNatClampNeg x.toNatClampNeg
  have hTh : (T.setVm vm₁).heap = H := hT
  rw [hTh] at f1 f2 f3 f4 hLs
  generalize hF : mnaS (T.setVm vm₁) (gA G) (gI G) x.toNatClampNeg y.toNatClampNeg x.toNatClampNeg = F at X2 f1 f2 f3 f4
  have hrd := wrm_rd hwr hw
  have e0 : gB G + (h.1 - 5) = H.size := by omega
  have hP1 : va_P (gD G) vwCl (wld rd G (hR (hN h (1 + x.toNatClampNeg)) s2)) F.heap := by
    intro k q hk
    obtain ⟨k1, rfl⟩ := wld_at hk
    have k1 : k < h.1 + (1 + x.toNatClampNeg) - 5 := k1
    by_cases q1 : k + 5 < h.1
    · have hg := wld_get (rd := rd) (G := G) (h := h) (a := k + 5) (by omega) q1
      have ho := hR0.2.2.1 _ _ hg
      have ec : cellE rd G (hR (hN h (1 + x.toNatClampNeg)) s2) (k + 5) = cellE rd G h (k + 5) := cellE_eq rfl rfl (fun i => by
        show rd s2 (k + 5) i = _
        rw [hrd, if_neg (fun z => by omega)])
      rw [ec]
      rw [phi5 (by omega), show k + 5 - 5 = k by omega] at ho
      exact ho.kept (f3 _ (by omega))
    · by_cases q2 : k + 5 = h.1
      · rw [q2, show gB G + k = H.size by omega, cellE_3 h3]
        show F.heap[H.size]? = some (vp_cell _ _)
        rw [f2, vp_cell_q, hlen]
        unfold outC
        congr 2
        funext i
        show _ = va_rf ((rd s2 h.1 i).map (phi G))
        rw [hrd]
        by_cases qi : i < x.toNatClampNeg
        · rw [if_pos qi, if_pos ⟨rfl, qi⟩]
          show _ = Value.ref (phi G (h.1 + 1 + i))
          have ep : phi G (h.1 + 1 + i) = H.size + 1 + i := by
            rw [phi5 (by omega)]
            omega
          rw [ep]
        · rw [if_neg qi, if_neg (fun z => qi z.2), (hR0.2.2.2 h.1 (Nat.le_refl _) i).2.2]
          rfl
      · obtain ⟨j, hj⟩ : ∃ j, k + 5 = h.1 + 1 + j := ⟨k + 5 - (h.1 + 1), by omega⟩
        have hjl : j < x.toNatClampNeg := by omega
        obtain ⟨s1, s3⟩ := hsh j hjl
        rw [hj, show gB G + k = H.size + 1 + j by omega, cellE_0 s1]
        show F.heap[H.size + 1 + j]? = some (vp_cell _ _)
        rw [f4 j hjl, vp_cell_i, s3]
        have ez : (hR (hN h (1 + x.toNatClampNeg)) s2).2.1 (h.1 + 1 + j) = fun _ => (0 : Int32) := funext fun i => (hR0.2.2.2 (h.1 + 1 + j) (by omega) i).1
        rw [ez]
        unfold innC
        rw [arrV_new]
  have hz1 : zer rd (hR (hN h (1 + x.toNatClampNeg)) s2) := by
    intro b hb' i
    have hb' : h.1 + (1 + x.toNatClampNeg) ≤ b := hb'
    have hz := hR0.2.2.2 b (by omega) i
    exact ⟨hz.1, hz.2.1, by show rd s2 b i = none; rw [hrd, if_neg (fun z => by omega)]; exact hz.2.2⟩
  have hS1 : va_S (AA G) s.heap F.heap (locs ++ Ls) := ⟨by rw [f1]; have := hS.1; omega, fun q g1 g2 => (f3 q (Nat.lt_of_lt_of_le g1 hS.1)).trans (hS.2.1 q g1 g2), fun q hq => by
    rcases List.mem_append.mp hq with z | z
    · exact hS.2.2 q z
    · rw [hLs q z]
      show gB G ≤ H.size
      omega⟩
  have k1 := kk (show n0 ≤ h.1 + (1 + x.toNatClampNeg) by omega) F.heap (locs ++ Ls) cls ⟨show 5 ≤ h.1 + _ by omega, Nat.le_trans hR0.2.1 (Nat.le_add_right _ _), hP1, hz1⟩ hS1 hL
  have k2 := W.cs (cells := h.1 - n0 + 1 + x.toNatClampNeg) (slots := szs (gL G) h.1 - szs (gL G) n0 + x.toNatClampNeg + x.toNatClampNeg * y.toNatClampNeg) (show _ = h.1 + (1 + x.toNatClampNeg) - n0 by omega) (show _ = szs (gL G) (h.1 + (1 + x.toNatClampNeg)) - szs (gL G) n0 by omega) k1
  obtain ⟨t, a1, b1⟩ := k2 F rfl X2
  refine ⟨t, ?_, b1⟩
  have a2 : Steps p.tables e below (F.setTop (F0 m (pc + 4) cls (.ref (phi G h.1) :: r.map (phv G)))) t := a1
  rw [phi5 hm5, e0] at a2
  refine Steps.instr (c := c) (by simpa using X.here) ?_
  have hd' : decode c.code (F0 m pc cls ((.int y :: .int x :: r : List Value).map (phv G))).pc = .ok (.multianewarray ix 2, 4) := by rw [hb]; exact hd
  rw [hd']
  dsimp only
  rw [hx]
  show wpRun (Op.multianewarray.sem ix 2) _ _ e _
  unfold wpRun
  have htop : T.topJava?.isSome := X.here.top
  rw [mna_cold (s := T) (f := F0 m pc cls ((.int y :: .int x :: r : List Value).map (phv G))) htop hg₁ hready₁]
  refine mna_wp (s := T.setVm vm₁) (f := F0 m pc cls ((.int y :: .int x :: r : List Value).map (phv G))) (kA := kA₁) (ky := ky₁) (n := x) (k := y) (rest := r.map (phv G)) htop hready₁ hkA₁ hkindA₁ hky₁ hkindy₁ rfl hnx hny ?_ ?_ ?_ ?_ ?_ ?_ (fun d' acts' => ?_)
  · rw [Launch.admits_arrayLengthLimit X.admits]; omega
  · rw [Launch.admits_arrayLengthLimit X.admits]; omega
  · rw [Launch.admits_maxHeapBytes X.admits]; show ¬ _ * 4 > 536870912; omega
  · rw [Launch.admits_maxHeapBytes X.admits]; show ¬ _ * 4 > 536870912; omega
  · show T.heap.size + _ ≤ _; omega
  · show T.slotsUsed + _ ≤ _; omega
  · intro acts2
    rw [hF, hTh, afterInstr_ok]
    exact a2
end WMNA
end
section
/-! contracts of methods, as runs of the abstract machine; calls -/
theorem AOK.moved {G : Gx} {u U : State} (hvm : u.vm.Alike U.vm) (h : AOK G u) : AOK G U := by
  obtain ⟨k, h1, h2⟩ := h
  obtain ⟨k', hk', he⟩ := hvm.2.2 _ _ h1
  exact ⟨k', hk', by rw [he]; exact h2⟩
theorem KU.enter {G : Gx} {s U : State} {H : Heap} {locs : List Loc} (hK : KU G s) (hS : va_S (AA G) s.heap H locs) (hU : U.heap = H) (hW : s.WarmedH U.vm) : KU G U := by
  obtain ⟨h1, h2, h3, h4, h5, h6⟩ := hK
  refine ⟨va_K.moved hW.alike h1, fun e he => ?_, va_AO.moved hW.alike h3, h4.moved hW.alike, fun k hk => ?_, fun k h0 hk => ?_⟩
  · exact va_Nw.warmM hW (h2 e he)
  · rw [hU]
    exact va_T.moved hW.alike ((h5 k hk).kept (fun a h1 h2 => hS.2.1 a h1 h2))
  · rw [hU]
    exact va_Z.moved hW.alike ((h6 k h0 hk).kept (fun a h1 h2 => hS.2.1 a h1 h2))
theorem KU.blind {G : Gx} {U : State} {g : JFrame} {mk : MethodId} {a : Array Value} (hK : KU G U) : KU G (U.calling g mk a) := by
  have hv : U.vm.Alike (U.calling g mk a).vm := Vm.Alike.refl U.vm
  obtain ⟨h1, h2, h3, h4, h5, h6⟩ := hK
  exact ⟨va_K.moved hv h1, fun e he => va_Nw.same rfl rfl (h2 e he), va_AO.moved hv h3, h4.moved hv, fun k hk => va_T.moved hv (h5 k hk), fun k h0 hk => va_Z.moved hv (h6 k h0 hk)⟩
section MC
variable {S : Type} (rd : S → Nat → Nat → Option Nat) (G : Gx)
def Pcc (as : List Value) (h : Hp S) : Array Value → State → Prop := va_Pc (as.map (phv G)) (fun U => KU G U ∧ RelH rd G h U.heap ∧ U.heap.size + 5 = gB G + h.1)
def Qcc (v : Option Value) (h' : Hp S) : Array Value → State → Outcome → State → Prop := fun _ st o t => o = .returned (v.map (phv G)) ∧ RelH rd G h' t.heap ∧ va_F (AA G) st t
noncomputable def rmc (M : Nat) (h h' : Hp S) : Room := { frames := (mi M).2.2.2.2.2.2.1, cells := h'.1 - h.1, slots := szs (gL G) h'.1 - szs (gL G) h.1, locals := (mi M).2.2.2.2.2.2.2 }
def MetC (l : Launch) (M : Nat) (as : List Value) (h : Hp S) (v : Option Value) (h' : Hp S) : Prop := Met l (yM M) (codeW (mi M) :: WL) (rmc G M h h') (Pcc rd G as h) (Qcc rd G v h') (h'.1 - h.1) (szs (gL G) h'.1 - szs (gL G) h.1) (AA G)
end MC
theorem Pcc.blind {S : Type} {rd : S → Nat → Nat → Option Nat} {G : Gx} {as : List Value} {h : Hp S} : FrameBlind (Pcc rd G as h) := by
  intro a U g mk hq
  obtain ⟨q0, q1, q2, q3⟩ := hq
  exact ⟨q0, q1.blind, q2, q3⟩
theorem goodIn_M {M M' : Nat} (hM : codeW (mi M') ∈ WL) : GoodIn (codeW (mi M) :: WL) (codeW (mi M') :: WL) := by
  intro w hw
  rcases List.mem_cons.mp hw with e | hw
  · subst e
    exact ⟨List.mem_cons_of_mem _ hM, WL_good _ hM⟩
  · exact ⟨List.mem_cons_of_mem _ hw, WL_good _ hw⟩
theorem goodIn_W {ws : List Cond} (h : ∀ w ∈ ws, w ∈ WL) : GoodIn WL ws := fun w hw => ⟨h w hw, WL_good w (h w hw)⟩
set_option maxRecDepth 100000 in
theorem mt_take (M : Nat) (h : M < 271) : codeW (mi M) ∈ WL := by
  have key : ∀ (l : List MI) (n : Nat), n < l.length → gmi l n ∈ l := by
    intro l
    induction l with
    | nil => intro n hn; simp at hn
    | cons a t ih =>
      intro n hn
      cases n with
      | zero => exact List.mem_cons_self
      | succ n => exact List.mem_cons_of_mem _ (ih n (by simpa using hn))
  have app : ∀ (l1 l2 : List MI) (n : Nat), n < l1.length → gmi (l1 ++ l2) n = gmi l1 n := by
    intro l1
    induction l1 with
    | nil => intro l2 n hn; simp at hn
    | cons a t ih =>
      intro l2 n hn
      cases n with
      | zero => rfl
      | succ n => exact ih l2 n (by simpa using hn)
  have app2 : ∀ (l1 l2 : List MI) (n : Nat), l1.length ≤ n → gmi (l1 ++ l2) n = gmi l2 (n - l1.length) := by
    intro l1
    induction l1 with
    | nil => intro l2 n _; rfl
    | cons a t ih =>
      intro l2 n hn
      cases n with
      | zero => simp at hn
      | succ n =>
        show gmi (t ++ l2) n = _
        rw [ih l2 n (by simpa using hn)]
        congr 1
        simp
  have e0 : mtA0.length = 40 := rfl
  have e1 : mtA1.length = 40 := rfl
  have e2 : mtA2.length = 40 := rfl
  have e3 : mtA3.length = 40 := rfl
  have e4 : mtA4.length = 40 := rfl
  have e5 : mtA5.length = 40 := rfl
  have e6 : mtA6.length = 32 := rfl
  unfold mi mtab
  by_cases h0 : M < 40
  · rw [app _ _ _ (by omega)]
    exact in_WLa0 (List.mem_map.mpr ⟨_, key _ _ (by omega), rfl⟩)
  rw [app2 _ _ _ (by omega), e0]
  by_cases h1 : M - 40 < 40
  · rw [app _ _ _ (by omega)]
    exact in_WLa1 (List.mem_map.mpr ⟨_, key _ _ (by omega), rfl⟩)
  rw [app2 _ _ _ (by omega), e1]
  by_cases h2 : M - 40 - 40 < 40
  · rw [app _ _ _ (by omega)]
    exact in_WLa2 (List.mem_map.mpr ⟨_, key _ _ (by omega), rfl⟩)
  rw [app2 _ _ _ (by omega), e2]
  by_cases h3 : M - 40 - 40 - 40 < 40
  · rw [app _ _ _ (by omega)]
    exact in_WLa3 (List.mem_map.mpr ⟨_, key _ _ (by omega), rfl⟩)
  rw [app2 _ _ _ (by omega), e3]
  by_cases h4 : M - 40 - 40 - 40 - 40 < 40
  · rw [app _ _ _ (by omega)]
    exact in_WLa4 (List.mem_map.mpr ⟨_, key _ _ (by omega), rfl⟩)
  rw [app2 _ _ _ (by omega), e4]
  by_cases h5 : M - 40 - 40 - 40 - 40 - 40 < 40
  · rw [app _ _ _ (by omega)]
    exact in_WLa5 (List.mem_map.mpr ⟨_, key _ _ (by omega), rfl⟩)
  rw [app2 _ _ _ (by omega), e5]
  have e7 : mtA6 = mtA6.take 31 ++ mtA6.drop 31 := (List.take_append_drop 31 mtA6).symm
  have e8 : (mtA6.take 31).length = 31 := rfl
  rw [e7, app _ _ _ (by omega)]
  exact in_WLa6 (List.mem_map.mpr ⟨_, key _ _ (by omega), rfl⟩)
section CALL
variable {S : Type} {rd : S → Nat → Nat → Option Nat} {G : Gx} {p : Program} {l : Launch} {e : Env} {R : Room} {s : State} {m : MethodId} {args : Array Value} {below : List Frame} {meth : Method} {c : Code} {n0 nL : Nat} {Q : State → Prop}
variable {cc : ByteArray} {h h' : Hp S} {pc : Nat} {ls : LV} {r as : List Value} {oc : Nat} {H : Heap} {locs : List Loc} {v : Option Value}
/-- behind a call -/
theorem w_back {cls : Array Slot} {st0 : List Value} (hn : n0 ≤ h.1) (hle : h.1 ≤ h'.1) (hS : va_S (AA G) s.heap H locs) (hL : LRel G cls nL ls) {a' : Array Value}
    (hr : va_Run p l e R s m args below meth c H locs (h.1 - n0) (szs (gL G) h.1 - szs (gL G) n0) (h'.1 - h.1) (szs (gL G) h'.1 - szs (gL G) h.1) (F0 m pc cls st0) (r.map (phv G)) (Qcc rd G v h' a') (AA G))
    (kk : Wst rd G p l e R s m args below meth c n0 nL Q h' (pc + 3) ls (v.toList ++ r)) : W p l e R s m args below meth c H locs (h.1 - n0) (szs (gL G) h.1 - szs (gL G) n0) Q (F0 m pc cls st0) := by
  intro T hT X
  obtain ⟨v', st₀, t, T', L, h0, X', hL', e1, e2, ⟨hv, hR', hz, hk⟩, st⟩ := hr T hT X
  cases hv
  rw [h0] at hz hk
  have hS1 : va_S (AA G) s.heap t.heap (locs ++ L) := ⟨Nat.le_trans hS.1 hz, fun q h1 h2 => by rw [hk q (Nat.lt_of_lt_of_le h1 hS.1) h2]; exact hS.2.1 q h1 h2, fun q hq => by
    rcases List.mem_append.mp hq with z | z
    · exact hS.2.2 q z
    · exact hL' q z⟩
  have k1 := kk (by omega) t.heap (locs ++ L) cls hR' hS1 hL
  have m1 := szs_le (gL G) hn
  have m2 := szs_le (gL G) hle
  have k2 := W.cs (cells := h.1 - n0 + (h'.1 - h.1)) (slots := szs (gL G) h.1 - szs (gL G) n0 + (szs (gL G) h'.1 - szs (gL G) h.1)) (by omega) (by omega) k1
  obtain ⟨t2, a1, b1⟩ := k2 T' e1 X'
  refine ⟨t2, st t2 ?_, b1⟩
  have e3 : (v.map (phv G)).toList ++ r.map (phv G) = (v.toList ++ r).map (phv G) := by
    cases v <;> rfl
  show Steps p.tables e below (T'.setTop (F0 m (pc + 3) cls ((v.map (phv G)).toList ++ r.map (phv G)))) t2
  rw [e3]
  exact a1
/-- what a call asks of tables and room -/
def CallOK (M' : Nat) (R : Room) : Prop := (mi M').2.2.2.2.2.2.1 + 1 ≤ R.frames ∧ 8 + ((mi M').2.2.2.1 + 11) + (mi M').2.2.2.2.2.2.2 ≤ R.locals ∧ M' < 271 ∧ chkN M' = true ∧ (mi M').1 ≠ 15
theorem chkN_at {M : Nat} (hq : (mi M).1 ≠ 15) (h : chkN M = true) : plainName (yM M).cls = true ∧ (yM M).cls ≠ "java/lang/invoke/MethodHandle" ∧ (yM M).cls ≠ "java/lang/invoke/VarHandle" ∧ (yM M).cls = own (mi M).1 ∧ (yM M).cls ∈ iniL ∧ (parseMethodDescriptor (yM M).desc).map (fun d => d.parameters.length) = some ((mi M).2.2.2.2.2.1 - (bif isSt M statM then 0 else 1)) := by
  unfold chkN at h
  simp only [Bool.or_eq_true, Bool.and_eq_true, decide_eq_true_eq] at h
  rcases h with h | h
  · exact absurd (nbeq h) hq
  · exact ⟨h.1, h.2.1, h.2.2.1, h.2.2.2.1, h.2.2.2.2.1, h.2.2.2.2.2⟩
theorem ini_in {c : String} (h : c ∈ iniL) : Cond.initialized c ∈ WL := in_WLg (List.mem_map.mpr ⟨c, h, rfl⟩)
theorem w_pre {as : List Value} (hK : KU G s) (hS : va_S (AA G) s.heap H locs) (hR : RelH rd G h H) (hsz : H.size + 5 = gB G + h.1) : ∀ U : State, U.heap = H → s.WarmedH U.vm → Pcc rd G as h (as.map (phv G)).toArray U :=
  fun U hU hW => ⟨rfl, hK.enter hS hU hW, by rw [hU]; exact hR, by rw [hU]; exact hsz⟩
/-- invokevirtual -/
theorem w_virt (hx : p.tables.exec = Jvm.exec) (hb : c.code = cc) (hml : c.maxLocals = nL) (hts : ∀ w ∈ WL, w.before args s = true) (hown : s.vm.findClass (own oc) = some m.cls) (hK : KU G s) (hs : s.heap.size + 5 = gB G + n0) (h5 : 5 ≤ n0) {M' ix b : Nat} (hf : (oc, ix, M', 0) ∈ ctab) (hv0 : M' ∈ virtM) (hst : isSt M' statM = false) (hok : CallOK M' R) (hna : (mi M').2.2.2.2.2.1 = (Value.ref b :: as).length) (hbs : (shT (gL G) b).1 = 4 + (mi M').1) (hbl : b < h.1) (hb13 : (mi M').1 < 13) (hcs : csum r ≤ 8)
    (hle : h.1 ≤ h'.1) (hcl : h'.1 - n0 ≤ R.cells) (hsl : szs (gL G) h'.1 - szs (gL G) n0 ≤ R.slots) (hM : MetC rd G l M' (.ref b :: as) h v h') (hd : decode cc pc = .ok (.invokevirtual ix, 3)) (kk : Wst rd G p l e R s m args below meth c n0 nL Q h' (pc + 3) ls (v.toList ++ r)) :
    Wst rd G p l e R s m args below meth c n0 nL Q h pc ls (as.reverse ++ .ref b :: r) := by
  intro hn H locs cls hR hS hL
  refine W_size (fun hle' => ?_)
  have hsz := size_of hs h5 hn hR hS hle'
  obtain ⟨o1, o2, o3, o4, o5⟩ := hok
  obtain ⟨g1, g2, g3, g4, g5, g6⟩ := chkN_at o5 o4
  have m1 := szs_le (gL G) hn
  have m2 := szs_le (gL G) hle
  have w1 : mlW (oc, ix, M', 0) ∈ WL := in_WLc (List.mem_map.mpr ⟨_, List.mem_filter.mpr ⟨hf, rfl⟩, rfl⟩)
  have w2 : Cond.instanceMethod (yM M') ∈ WL := in_WLd (List.mem_flatMap.mpr ⟨M', hv0, List.mem_cons_self⟩)
  have w3 : Cond.selects (yM M').cls (yM M') (yM M') ∈ WL := in_WLd (List.mem_flatMap.mpr ⟨M', hv0, List.mem_cons_of_mem _ List.mem_cons_self⟩)
  have hG : GoodIn WL (wsV (own oc) ix (yM M').cls (yM M') (codeW (mi M') :: WL)) := goodIn_W (fun w hw => by
    unfold wsV at hw
    rcases List.mem_append.mp hw with z | z
    · simp only [List.mem_cons, List.not_mem_nil, or_false] at z
      rcases z with rfl | rfl | rfl | rfl
      · exact w1
      · exact w2
      · exact w3
      · exact ini_in g5
    · rcases List.mem_cons.mp z with rfl | z
      · exact mt_take M' o3
      · exact z)
  have hb5 := sh5 (L := gL G) (a := b) (by rw [hbs]; omega)
  have hrecv : ∃ cellB : Cell, H[phi G b]? = some cellB ∧ cellB.vm.isStatics = false ∧ s.vm.findClass (yM M').cls = some cellB.cls := by
    have hw := wld_get (rd := rd) (G := G) (h := h) hb5 hbl
    rw [cellE_4 hbs] at hw
    have := va_recv hK.1 hR.2.2.1 (clT_at hb13) hw
    rw [g4, show own (mi M').1 = (clT (mi M').1).1 from by
      have : ∀ c, c < 13 → own c = (clT c).1 := by decide +kernel
      exact this _ hb13]
    exact this
  have hrun := va_runV (As := as.map (phv G)) (rest := r.map (phv G)) (g := F0 m pc cls ((as.reverse ++ .ref b :: r).map (phv G))) (b := phi G b) (H := H) (locs := locs) (below := below) (e := e) (meth := meth) (cells := h.1 - n0) (slots := szs (gL G) h.1 - szs (gL G) n0) ⟨hx, hb, hml, hown, hts⟩ hM
    (cwV (as.length) hts hG rfl rfl rfl ⟨rfl, g2, g3, by rw [g6, hna, hst]; simp⟩ ⟨o1, o2⟩) ⟨Pcc.blind, hrecv, w_pre (as := .ref b :: as) hK hS hR hsz⟩ rfl (by simp) hL.1 (by simp [phv]) (by show 2 * 0 + _ ≤ 8; rw [csum_eq]; omega) hd ⟨by show h.1 - n0 + (h'.1 - h.1) ≤ R.cells; omega, by show szs (gL G) h.1 - szs (gL G) n0 + (szs (gL G) h'.1 - szs (gL G) h.1) ≤ R.slots; omega⟩
  exact w_back hn hle hS hL hrun kk
/-- invokestatic -/
theorem w_stat (hx : p.tables.exec = Jvm.exec) (hb : c.code = cc) (hml : c.maxLocals = nL) (hts : ∀ w ∈ WL, w.before args s = true) (hown : s.vm.findClass (own oc) = some m.cls) (hK : KU G s) (hs : s.heap.size + 5 = gB G + n0) (h5 : 5 ≤ n0) {M' ix : Nat} (hf : (oc, ix, M', 1) ∈ ctab ∨ (oc, ix, M', 3) ∈ ctab) (hv0 : M' ∈ statM) (hst : isSt M' statM = true) (hok : CallOK M' R) (hna : (mi M').2.2.2.2.2.1 = as.length) (hcs : csum r ≤ 8)
    (hle : h.1 ≤ h'.1) (hcl : h'.1 - n0 ≤ R.cells) (hsl : szs (gL G) h'.1 - szs (gL G) n0 ≤ R.slots) (hM : MetC rd G l M' as h v h') (hd : decode cc pc = .ok (.invokestatic ix, 3)) (kk : Wst rd G p l e R s m args below meth c n0 nL Q h' (pc + 3) ls (v.toList ++ r)) :
    Wst rd G p l e R s m args below meth c n0 nL Q h pc ls (as.reverse ++ r) := by
  intro hn H locs cls hR hS hL
  refine W_size (fun hle' => ?_)
  have hsz := size_of hs h5 hn hR hS hle'
  obtain ⟨o1, o2, o3, o4, o5⟩ := hok
  obtain ⟨g1, g2, g3, g4, g5, g6⟩ := chkN_at o5 o4
  have m1 := szs_le (gL G) hn
  have m2 := szs_le (gL G) hle
  have w2 : Cond.static (yM M') ∈ WL := in_WLe (List.mem_map.mpr ⟨M', hv0, rfl⟩)
  have hroom : h.1 - n0 + (h'.1 - h.1) ≤ R.cells ∧ szs (gL G) h.1 - szs (gL G) n0 + (szs (gL G) h'.1 - szs (gL G) h.1) ≤ R.slots := ⟨by omega, by omega⟩
  have hlen : (parseMethodDescriptor (yM M').desc).map (fun d => d.parameters.length) = some as.length := by rw [g6, hna, hst]; simp
  rcases hf with hf | hf
  · have w1 : mlW (oc, ix, M', 1) ∈ WL := in_WLc (List.mem_map.mpr ⟨_, List.mem_filter.mpr ⟨hf, rfl⟩, rfl⟩)
    have hG : GoodIn WL (va_wsS (own oc) ix (yM M') (codeW (mi M') :: WL)) := goodIn_W (fun w hw => by
      unfold va_wsS at hw
      rcases List.mem_append.mp hw with z | z
      · simp only [List.mem_cons, List.not_mem_nil, or_false] at z
        rcases z with rfl | rfl | rfl
        · exact w1
        · exact w2
        · exact ini_in g5
      · rcases List.mem_cons.mp z with rfl | z
        · exact mt_take M' o3
        · exact z)
    have hrun := va_runS (As := as.map (phv G)) (rest := r.map (phv G)) (g := F0 m pc cls ((as.reverse ++ r).map (phv G))) (H := H) (locs := locs) (below := below) (e := e) (meth := meth) (cells := h.1 - n0) (slots := szs (gL G) h.1 - szs (gL G) n0) ⟨hx, hb, hml, hown, hts⟩ hM
      (va_cwS (as.length) hts hG rfl rfl rfl ⟨g2, g3, hlen⟩ ⟨o1, o2⟩) ⟨Pcc.blind, w_pre hK hS hR hsz⟩ rfl (by simp) hL.1 (by simp) (by show 2 * 0 + _ ≤ 8; rw [csum_eq]; omega) hd hroom
    exact w_back hn hle hS hL hrun kk
  · have hnest : va_Nw (.methodLinkNest (own oc) ix (yM M') "DryLand") s := hK.2.1 (oc, ix, M', 3) (List.mem_filter.mpr ⟨hf, rfl⟩)
    have hG : GoodIn WL (codeW (mi M') :: WL) := goodIn_W (fun w z => by
      rcases List.mem_cons.mp z with rfl | z
      · exact mt_take M' o3
      · exact z)
    have hrun := va_runSN (As := as.map (phv G)) (rest := r.map (phv G)) (g := F0 m pc cls ((as.reverse ++ r).map (phv G))) (H := H) (locs := locs) (below := below) (e := e) (meth := meth) (cells := h.1 - n0) (slots := szs (gL G) h.1 - szs (gL G) n0) ⟨hx, hb, hml, hown, hts⟩ hM
      ⟨va_cnB (as.length) hts hG rfl rfl rfl hnest (hts _ (ini_in g5)) ⟨g2, g3, hlen⟩ ⟨o1, o2⟩, hts _ w2, trivial⟩ ⟨Pcc.blind, w_pre hK hS hR hsz⟩ rfl (by simp) hL.1 (by simp) (by show 2 * 0 + _ ≤ 8; rw [csum_eq]; omega) hd hroom
    exact w_back hn hle hS hL hrun kk
/-- invokespecial of a constructor -/
theorem w_spec (hx : p.tables.exec = Jvm.exec) (hb : c.code = cc) (hml : c.maxLocals = nL) (hts : ∀ w ∈ WL, w.before args s = true) (hown : s.vm.findClass (own oc) = some m.cls) (hK : KU G s) (hs : s.heap.size + 5 = gB G + n0) (h5 : 5 ≤ n0) {M' ix b : Nat} (hf : (oc, ix, M', 2) ∈ ctab ∨ (oc, ix, M', 4) ∈ ctab) (hv0 : M' ∈ specM) (hst : isSt M' statM = false) (hin : (yM M').name = "<init>") (hrt : (mi M').2.2.2.2.1 = none) (hok : CallOK M' R) (hna : (mi M').2.2.2.2.2.1 = (Value.ref b :: as).length) (hcs : csum r ≤ 8)
    (hle : h.1 ≤ h'.1) (hcl : h'.1 - n0 ≤ R.cells) (hsl : szs (gL G) h'.1 - szs (gL G) n0 ≤ R.slots) (hM : MetC rd G l M' (.ref b :: as) h v h') (hd : decode cc pc = .ok (.invokespecial ix, 3)) (kk : Wst rd G p l e R s m args below meth c n0 nL Q h' (pc + 3) ls (v.toList ++ r)) :
    Wst rd G p l e R s m args below meth c n0 nL Q h pc ls (as.reverse ++ .ref b :: r) := by
  intro hn H locs cls hR hS hL
  refine W_size (fun hle' => ?_)
  have hsz := size_of hs h5 hn hR hS hle'
  obtain ⟨o1, o2, o3, o4, o5⟩ := hok
  obtain ⟨g1, g2, g3, g4, g5, g6⟩ := chkN_at o5 o4
  have m1 := szs_le (gL G) hn
  have m2 := szs_le (gL G) hle
  have w2 : Cond.instanceMethod (yM M') ∈ WL := in_WLf (List.mem_map.mpr ⟨M', hv0, rfl⟩)
  have hroom : h.1 - n0 + (h'.1 - h.1) ≤ R.cells ∧ szs (gL G) h.1 - szs (gL G) n0 + (szs (gL G) h'.1 - szs (gL G) h.1) ≤ R.slots := ⟨by omega, by omega⟩
  have hlen : (parseMethodDescriptor (yM M').desc).map (fun d => d.parameters.length) = some as.length := by rw [g6, hna, hst]; simp
  have hcw : codeW (mi M') :: WL = Cond.code (yM M') (mi M').2.2.1 (mi M').2.2.2.1 none :: WL := by
    have : codeW (mi M') = Cond.code (yM M') (mi M').2.2.1 (mi M').2.2.2.1 (mi M').2.2.2.2.1 := rfl
    rw [this, hrt]
  have hG : GoodIn WL (codeW (mi M') :: WL) := goodIn_W (fun w z => by
    rcases List.mem_cons.mp z with rfl | z
    · exact mt_take M' o3
    · exact z)
  rcases hf with hf | hf
  · have w1 : mlW (oc, ix, M', 2) ∈ WL := in_WLc (List.mem_map.mpr ⟨_, List.mem_filter.mpr ⟨hf, rfl⟩, rfl⟩)
    have hrun := va_runI (As := as.map (phv G)) (rest := r.map (phv G)) (g := F0 m pc cls ((as.reverse ++ .ref b :: r).map (phv G))) (b := phi G b) (H := H) (locs := locs) (below := below) (e := e) (meth := meth) (cells := h.1 - n0) (slots := szs (gL G) h.1 - szs (gL G) n0) ⟨hx, hb, hml, hown, hts⟩ hM
      (cwI (as.length) hts hG hcw rfl rfl (hts _ (ini_in g5)) (hts _ w1) (hts _ w2) hin ⟨g2, g3, hlen⟩ ⟨o1, o2⟩) ⟨Pcc.blind, w_pre (as := .ref b :: as) hK hS hR hsz⟩ rfl (by simp) hL.1 (by simp [phv]) (by show 2 * 0 + _ ≤ 8; rw [csum_eq]; omega) hd hroom
    exact w_back hn hle hS hL hrun kk
  · have hnest : va_Nw (.methodLinkNest (own oc) ix (yM M') "DryLand") s := hK.2.1 (oc, ix, M', 4) (List.mem_filter.mpr ⟨hf, rfl⟩)
    have hrun := va_runIN (As := as.map (phv G)) (rest := r.map (phv G)) (g := F0 m pc cls ((as.reverse ++ .ref b :: r).map (phv G))) (b := phi G b) (H := H) (locs := locs) (below := below) (e := e) (meth := meth) (cells := h.1 - n0) (slots := szs (gL G) h.1 - szs (gL G) n0) ⟨hx, hb, hml, hown, hts⟩ hM
      ⟨va_cnB (as.length) hts hG hcw rfl rfl hnest (hts _ (ini_in g5)) ⟨g2, g3, hlen⟩ ⟨o1, o2⟩, hin, hts _ w2⟩ ⟨Pcc.blind, w_pre (as := .ref b :: as) hK hS hR hsz⟩ rfl (by simp) hL.1 (by simp [phv]) (by show 2 * 0 + _ ≤ 8; rw [csum_eq]; omega) hd hroom
    exact w_back hn hle hS hL hrun kk
end CALL
end
section
/-! one step is sound -/
theorem ite_s {α : Type} {c : Prop} {i : Decidable c} {x y : Option α} {q : α} (h : (@ite _ c i x y) = some q) : (c ∧ x = some q) ∨ (¬ c ∧ y = some q) := by
  by_cases hc : c
  · rw [if_pos hc] at h
    exact Or.inl ⟨hc, h⟩
  · rw [if_neg hc] at h
    exact Or.inr ⟨hc, h⟩
theorem bif_s {α : Type} {b : Bool} {x : Option α} {q : α} (h : (bif b then x else none) = some q) : b = true ∧ x = some q := by
  cases b
  · cases h
  · exact ⟨rfl, h⟩
theorem if_s {α : Type} {c : Prop} [Decidable c] {x : Option α} {q : α} (h : (if c then none else x) = some q) : ¬ c ∧ x = some q := by
  by_cases hc : c
  · rw [if_pos hc] at h
    cases h
  · rw [if_neg hc] at h
    exact ⟨hc, h⟩
theorem pI_s {α : Type} {st : List Value} {f : Int32 → List Value → Option α} {q : α} (h : pI st none f = some q) : ∃ (x : Int32) (r : List Value), st = .int x :: r ∧ f x r = some q := by
  unfold pI at h
  split at h
  · exact ⟨_, _, rfl, h⟩
  · cases h
theorem pII_s {α : Type} {st : List Value} {f : Int32 → Int32 → List Value → Option α} {q : α} (h : pII st none f = some q) : ∃ (x : Int32) (y : Int32) (r : List Value), st = .int y :: .int x :: r ∧ f x y r = some q := by
  unfold pII at h
  split at h
  · exact ⟨_, _, _, rfl, h⟩
  · cases h
theorem pJ_s {α : Type} {st : List Value} {f : Int64 → List Value → Option α} {q : α} (h : pJ st none f = some q) : ∃ (x : Int64) (r : List Value), st = .long x :: r ∧ f x r = some q := by
  unfold pJ at h
  split at h
  · exact ⟨_, _, rfl, h⟩
  · cases h
theorem pJJ_s {α : Type} {st : List Value} {f : Int64 → Int64 → List Value → Option α} {q : α} (h : pJJ st none f = some q) : ∃ (x : Int64) (y : Int64) (r : List Value), st = .long y :: .long x :: r ∧ f x y r = some q := by
  unfold pJJ at h
  split at h
  · exact ⟨_, _, _, rfl, h⟩
  · cases h
theorem pR_s {α : Type} {st : List Value} {f : Nat → List Value → Option α} {q : α} (h : pR st none f = some q) : ∃ (a : Nat) (r : List Value), st = .ref a :: r ∧ f a r = some q := by
  unfold pR at h
  split at h
  · exact ⟨_, _, rfl, h⟩
  · cases h
theorem pIR_s {α : Type} {st : List Value} {f : Int32 → Nat → List Value → Option α} {q : α} (h : pIR st none f = some q) : ∃ (i : Int32) (a : Nat) (r : List Value), st = .int i :: .ref a :: r ∧ f i a r = some q := by
  unfold pIR at h
  split at h
  · exact ⟨_, _, _, rfl, h⟩
  · cases h
theorem pIIR_s {α : Type} {st : List Value} {f : Int32 → Int32 → Nat → List Value → Option α} {q : α} (h : pIIR st none f = some q) : ∃ (x : Int32) (i : Int32) (a : Nat) (r : List Value), st = .int x :: .int i :: .ref a :: r ∧ f x i a r = some q := by
  unfold pIIR at h
  split at h
  · exact ⟨_, _, _, _, rfl, h⟩
  · cases h
theorem pJR_s {α : Type} {st : List Value} {f : Int64 → Nat → List Value → Option α} {q : α} (h : pJR st none f = some q) : ∃ (x : Int64) (a : Nat) (r : List Value), st = .long x :: .ref a :: r ∧ f x a r = some q := by
  unfold pJR at h
  split at h
  · exact ⟨_, _, _, rfl, h⟩
  · cases h
theorem pRR_s {α : Type} {st : List Value} {f : Nat → Nat → List Value → Option α} {q : α} (h : pRR st none f = some q) : ∃ (v : Nat) (a : Nat) (r : List Value), st = .ref v :: .ref a :: r ∧ f v a r = some q := by
  unfold pRR at h
  split at h
  · exact ⟨_, _, _, rfl, h⟩
  · cases h
theorem pRIR_s {α : Type} {st : List Value} {f : Nat → Int32 → Nat → List Value → Option α} {q : α} (h : pRIR st none f = some q) : ∃ (v : Nat) (i : Int32) (a : Nat) (r : List Value), st = .ref v :: .int i :: .ref a :: r ∧ f v i a r = some q := by
  unfold pRIR at h
  split at h
  · exact ⟨_, _, _, _, rfl, h⟩
  · cases h
theorem pCpy_s {α : Type} {st : List Value} {f : Int32 → Int32 → Nat → Int32 → Nat → List Value → Option α} {q : α} (h : pCpy st none f = some q) : ∃ (n : Int32) (dp : Int32) (a : Nat) (sp : Int32) (a0 : Nat) (r : List Value), st = .int n :: .int dp :: .ref a :: .int sp :: .ref a0 :: r ∧ f n dp a sp a0 r = some q := by
  unfold pCpy at h
  split at h
  · exact ⟨_, _, _, _, _, _, rfl, h⟩
  · cases h
theorem pO_s {α : Type} {st : List Value} {fn : List Value → Option α} {f : Nat → List Value → Option α} {q : α} (h : pO st none fn f = some q) : (∃ r, st = .null :: r ∧ fn r = some q) ∨ ∃ (a : Nat) (r : List Value), st = .ref a :: r ∧ f a r = some q := by
  unfold pO at h
  split at h
  · exact Or.inl ⟨_, rfl, h⟩
  · exact Or.inr ⟨_, _, rfl, h⟩
  · cases h
theorem rI_s {α : Type} {v : Option Value} {f : Int32 → Option α} {q : α} (h : rI v none f = some q) : ∃ x, v = some (.int x) ∧ f x = some q := by
  unfold rI at h
  split at h
  · exact ⟨_, rfl, h⟩
  · cases h
theorem rJ_s {α : Type} {v : Option Value} {f : Int64 → Option α} {q : α} (h : rJ v none f = some q) : ∃ x, v = some (.long x) ∧ f x = some q := by
  unfold rJ at h
  split at h
  · exact ⟨_, rfl, h⟩
  · cases h
theorem rO_s {α : Type} {v : Option Value} {n : Option α} {f : Nat → Option α} {q : α} (h : rO v none n f = some q) : (v = some .null ∧ n = some q) ∨ ∃ x, v = some (.ref x) ∧ f x = some q := by
  unfold rO at h
  split at h
  · exact Or.inl ⟨rfl, h⟩
  · exact Or.inr ⟨_, rfl, h⟩
  · cases h
theorem rV_s {α : Type} {v : Option Value} {n : Option α} {q : α} (h : rV v none n = some q) : v = none ∧ n = some q := by
  unfold rV at h
  split at h
  · exact ⟨rfl, h⟩
  · cases h
theorem oS_s {α S : Type} {v : Option S} {f : S → Option α} {q : α} (h : oS v none f = some q) : ∃ x, v = some x ∧ f x = some q := by
  unfold oS at h
  split at h
  · exact ⟨_, rfl, h⟩
  · cases h
theorem oel_s {α : Type} {v : Option Nat} {n : Option α} {f : Nat → Option α} {q : α} (h : oel v n f = some q) : (v = none ∧ n = some q) ∨ ∃ x, v = some x ∧ f x = some q := by
  unfold oel at h
  split at h
  · exact Or.inl ⟨rfl, h⟩
  · exact Or.inr ⟨_, rfl, h⟩
theorem pD_s {α : Type} {st : List Value} {fI : Int32 → List Value → Option α} {fR : Nat → List Value → Option α} {q : α} (h : pD st none fI fR = some q) : (∃ x r, st = .int x :: r ∧ fI x r = some q) ∨ ∃ x r, st = .ref x :: r ∧ fR x r = some q := by
  unfold pD at h
  split at h
  · exact Or.inl ⟨_, _, rfl, h⟩
  · exact Or.inr ⟨_, _, rfl, h⟩
  · cases h
theorem t4_s {α : Type} {n : Nat} {a1 a2 a3 d : Option α} {q : α} (h : t4 n a1 a2 a3 d = some q) : (n = 1 ∧ a1 = some q) ∨ (n = 2 ∧ a2 = some q) ∨ (n = 3 ∧ a3 = some q) ∨ (n ≠ 1 ∧ n ≠ 2 ∧ n ≠ 3 ∧ d = some q) := by
  unfold t4 at h
  split at h
  · exact Or.inl ⟨rfl, h⟩
  · exact Or.inr (Or.inl ⟨rfl, h⟩)
  · exact Or.inr (Or.inr (Or.inl ⟨rfl, h⟩))
  · rename_i z1 z2 z3
    exact Or.inr (Or.inr (Or.inr ⟨z1, z2, z3, h⟩))
theorem t3_s {α : Type} {n : Nat} {a0 a1 a2 d : Option α} {q : α} (h : t3 n a0 a1 a2 d = some q) : a0 = some q ∨ a1 = some q ∨ a2 = some q ∨ d = some q := by
  unfold t3 at h
  split at h
  · exact Or.inl h
  · exact Or.inr (Or.inl h)
  · exact Or.inr (Or.inr (Or.inl h))
  · exact Or.inr (Or.inr (Or.inr h))
theorem hdR_s {α : Type} {as : List Value} {f : Nat → Option α} {q : α} (h : hdR as none f = some q) : ∃ b t, as = .ref b :: t ∧ f b = some q := by
  unfold hdR at h
  split at h
  · exact ⟨_, _, rfl, h⟩
  · cases h
theorem r1I_s {α : Type} {st : List Value} {f : Int32 → Option α} {q : α} (h : r1I st none f = some q) : ∃ x, st = [.int x] ∧ f x = some q := by
  unfold r1I at h
  split at h
  · exact ⟨_, rfl, h⟩
  · cases h
theorem r1J_s {α : Type} {st : List Value} {f : Int64 → Option α} {q : α} (h : r1J st none f = some q) : ∃ x, st = [.long x] ∧ f x = some q := by
  unfold r1J at h
  split at h
  · exact ⟨_, rfl, h⟩
  · cases h
theorem r1O_s {α : Type} {st : List Value} {n : Option α} {f : Nat → Option α} {q : α} (h : r1O st none n f = some q) : (st = [.null] ∧ n = some q) ∨ ∃ x, st = [.ref x] ∧ f x = some q := by
  unfold r1O at h
  split at h
  · exact Or.inl ⟨rfl, h⟩
  · exact Or.inr ⟨_, rfl, h⟩
  · cases h
theorem r0_s {α : Type} {st : List Value} {n : Option α} {q : α} (h : r0 st none n = some q) : st = [] ∧ n = some q := by
  unfold r0 at h
  split at h
  · exact ⟨rfl, h⟩
  · cases h
theorem xk_s {α : Type} {l : List Nat} {a0 a1 a2 a3 d : Option α} {q : α} (h : xk l a0 a1 a2 a3 d = some q) : (l = [] ∧ a0 = some q) ∨ (l = [1] ∧ a1 = some q) ∨ (l = [2] ∧ a2 = some q) ∨ (l = [3] ∧ a3 = some q) ∨ (l ≠ [] ∧ l ≠ [1] ∧ l ≠ [2] ∧ l ≠ [3] ∧ d = some q) := by
  unfold xk at h
  split at h
  · exact Or.inl ⟨rfl, h⟩
  · exact Or.inr (Or.inl ⟨rfl, h⟩)
  · exact Or.inr (Or.inr (Or.inl ⟨rfl, h⟩))
  · exact Or.inr (Or.inr (Or.inr (Or.inl ⟨rfl, h⟩)))
  · rename_i z1 z2 z3 z4
    exact Or.inr (Or.inr (Or.inr (Or.inr ⟨z1, z2, z3, z4, h⟩)))
theorem nk_s {α : Type} {l : List Nat} {a0 d : Option α} {q : α} (h : nk l a0 d = some q) : (l = [] ∧ a0 = some q) ∨ (l ≠ [] ∧ d = some q) := by
  unfold nk at h
  split at h
  · exact Or.inl ⟨rfl, h⟩
  · rename_i z1
    exact Or.inr ⟨z1, h⟩
theorem tk_s : ∀ {n : Nat} {acc st as r : List Value}, tk n acc st = some (as, r) → ∃ fr, st = fr.reverse ++ r ∧ as = fr ++ acc ∧ fr.length = n
  | 0, acc, st, as, r, h => by
    cases h
    exact ⟨[], rfl, rfl, rfl⟩
  | n + 1, acc, [], as, r, h => by cases h
  | n + 1, acc, v :: st, as, r, h => by
    obtain ⟨fr, h1, h2, h3⟩ := tk_s (n := n) (acc := v :: acc) (st := st) (show tk n (v :: acc) st = some (as, r) from h)
    exact ⟨fr ++ [v], by rw [h1]; simp, by rw [h2]; simp, by simp [h3]⟩
theorem tkm_s {α : Type} {mx n : Nat} {st : List Value} {f : List Value → List Value → Option α} {q : α} (h : tkm mx (tk n [] st) none f = some q) : ∃ as r, st = as.reverse ++ r ∧ as.length = n ∧ csum r ≤ 8 ∧ csum as ≤ mx ∧ f as r = some q := by
  unfold tkm at h
  split at h
  · rename_i a r hq
    obtain ⟨h1, h2⟩ := bif_s h
    simp only [Bool.and_eq_true] at h1
    obtain ⟨fr, e1, e2, e3⟩ := tk_s hq
    rw [List.append_nil] at e2
    subst e2
    exact ⟨a, r, e1, e3, Nat.le_of_ble_eq_true h1.1, Nat.le_of_ble_eq_true h1.2, h2⟩
  · cases h
theorem swt_s {α : Type} {x : Int32} {f : Nat → Option α} {d : Option α} {q : α} : ∀ {l : List (Int32 × Nat)}, swt x l f d = some q → (∃ (j t : Nat), l[j]? = some (x, t) ∧ f t = some q ∧ ∀ (i : Nat), i < j → ∀ (y : Int32 × Nat), l[i]? = some y → y.1 ≠ x) ∨ ((∀ (y : Int32 × Nat), y ∈ l → y.1 ≠ x) ∧ d = some q)
  | [], h => Or.inr ⟨fun _ hy => absurd hy List.not_mem_nil, h⟩
  | (v, t) :: r, h => by
    unfold swt at h
    by_cases hv : x = v
    · rw [if_pos hv] at h
      exact Or.inl ⟨0, t, by rw [hv]; rfl, h, fun i hi => absurd hi (by omega)⟩
    · rw [if_neg hv] at h
      rcases swt_s h with ⟨j, t', h1, h2, h3⟩ | ⟨h1, h2⟩
      · refine Or.inl ⟨j + 1, t', by simpa using h1, h2, fun i hi y hy => ?_⟩
        cases i with
        | zero =>
          simp at hy
          rw [← hy]
          exact fun e => hv e.symm
        | succ i => exact h3 i (by omega) y (by simpa using hy)
      · refine Or.inr ⟨fun y hy => ?_, h2⟩
        rcases List.mem_cons.mp hy with rfl | hy
        · exact fun e => hv e.symm
        · exact h1 y hy
theorem i32_small {k : Int} (h0 : 0 ≤ k) (h1 : k < 1000) : (Int32.ofInt k).toInt = k := by
  rw [Int32.toInt_ofInt]
  rw [Int.bmod_def]
  have : k % 2 ^ 32 = k := by omega
  simp only [Int32.size]
  omega
theorem looko {d : Int} {x : Int32} : ∀ {l : List (Int × Int)}, (∀ o ∈ l, 0 ≤ o.1 ∧ o.1 < 1000) → (∀ y ∈ l, Int32.ofInt y.1 ≠ x) → Op.lookupswitch.offset l d x.toInt = d
  | [], _, _ => rfl
  | (a, o) :: r, hl, h => by
    rw [Op.lookupswitch.offset_cons, if_neg]
    · exact looko (fun o ho => hl o (List.mem_cons_of_mem _ ho)) (fun y hy => h y (List.mem_cons_of_mem _ hy))
    · intro e
      apply h (a, o) List.mem_cons_self
      show Int32.ofInt a = x
      first
        | rw [← e, Int32.ofInt_toInt]
        | rw [e, Int32.ofInt_toInt]
theorem looki {d : Int} {x : Int32} : ∀ {l : List (Int × Int)} {j : Nat} {a o : Int}, (∀ o ∈ l, 0 ≤ o.1 ∧ o.1 < 1000) → l[j]? = some (a, o) → Int32.ofInt a = x → (∀ (i : Nat), i < j → ∀ (y : Int × Int), l[i]? = some y → Int32.ofInt y.1 ≠ x) → Op.lookupswitch.offset l d x.toInt = o
  | [], j, a, o, _, h, _, _ => by simp at h
  | (a', o') :: r, 0, a, o, hl, h, e, _ => by
    simp at h
    obtain ⟨rfl, rfl⟩ := h
    have hh := hl (a', o') List.mem_cons_self
    rw [Op.lookupswitch.offset_cons, if_pos]
    rw [← e, i32_small hh.1 hh.2]
  | (a', o') :: r, j + 1, a, o, hl, h, e, hn => by
    rw [Op.lookupswitch.offset_cons, if_neg]
    · exact looki (fun o ho => hl o (List.mem_cons_of_mem _ ho)) (by simpa using h) e (fun i hi y hy => hn (i + 1) (by omega) y (by simpa using hy))
    · intro e2
      apply hn 0 (by omega) (a', o') rfl
      show Int32.ofInt a' = x
      first
        | rw [← e2, Int32.ofInt_toInt]
        | rw [e2, Int32.ofInt_toInt]
def retOK (ai : AI) (v : Option Value) : Prop := (ai.1 = .ireturn ∧ ∃ x, v = some (.int x) ∧ (ax ai.2.2.1 0 = 0 ∨ b01 x = true)) ∨ (ai.1 = .lreturn ∧ ∃ x, v = some (.long x)) ∨ (ai.1 = .areturn ∧ (v = some .null ∨ ∃ x, v = some (.ref x))) ∨ (ai.1 = .return_ ∧ v = none)
def Cx (G : Gx) (p : Program) (R : Room) (s : State) (m : MethodId) (args : Array Value) (meth : Method) (c : Code) (n0 M : Nat) : Prop := p.tables.exec = Jvm.exec ∧ c.code = (mi M).2.2.1 ∧ c.maxLocals = (mi M).2.2.2.1 ∧ s.vm.findClass (own (mi M).1) = some m.cls ∧ (∀ w ∈ WL, w.before args s = true) ∧ (mi M).2.2.2.2.2.2.1 ≤ R.frames ∧ (mi M).2.2.2.2.2.2.2 ≤ R.locals ∧ ((yM M).name = "<init>" → meth.name = "<init>") ∧ KU G s ∧ s.heap.size + 5 = gB G + n0 ∧ 5 ≤ n0 ∧ ∀ q ∈ cdT M, chkQ (mi M) q = true
def CallGood (M : Nat) (as : List Value) : Prop := M < 271 ∧ (mi M).1 ≠ 15 ∧ csum as ≤ (mi M).2.2.2.1
noncomputable def chkE (e : Nat × Nat × Nat × Nat) : Bool := match e.2.2.2 with
  | 0 => decide (e.2.2.1 ∈ virtM) && !isSt e.2.2.1 statM
  | 1 => decide (e.2.2.1 ∈ statM) && isSt e.2.2.1 statM
  | 3 => decide (e.2.2.1 ∈ statM) && isSt e.2.2.1 statM
  | _ => decide (e.2.2.1 ∈ specM) && (!isSt e.2.2.1 statM && (decide ((yM e.2.2.1).name = "<init>") && decide ((mi e.2.2.1).2.2.2.2.1 = none)))
set_option maxRecDepth 100000 in
theorem ctab_ok : ctab.all chkE = true := by decide +kernel
theorem ckN_all (M : Nat) (h : M < 271) : chkN M = true := by
  have key : ∀ (a n : Nat), (List.range' a n).all chkN = true → a ≤ M → M < a + n → chkN M = true := fun a n hq h1 h2 => List.all_eq_true.mp hq M (List.mem_range'_1.mpr ⟨h1, h2⟩)
  by_cases h0 : M < 40
  · exact key _ _ ckN0 (by omega) (by omega)
  by_cases h40 : M < 80
  · exact key _ _ ckN1 (by omega) (by omega)
  by_cases h80 : M < 120
  · exact key _ _ ckN2 (by omega) (by omega)
  by_cases h120 : M < 160
  · exact key _ _ ckN3 (by omega) (by omega)
  by_cases h160 : M < 200
  · exact key _ _ ckN4 (by omega) (by omega)
  by_cases h200 : M < 240
  · exact key _ _ ckN5 (by omega) (by omega)
  by_cases h240 : M < 271
  · exact key _ _ ckN6 (by omega) (by omega)
  exact absurd h (by omega)
theorem ckM_all (M : Nat) (h : M < 272) : ∀ q ∈ cdT M, chkQ (mi M) q = true := by
  have key : ∀ (a n : Nat), (List.range' a n).all chkM = true → a ≤ M → M < a + n → ∀ q ∈ cdT M, chkQ (mi M) q = true := fun a n hq h1 h2 => List.all_eq_true.mp (List.all_eq_true.mp hq M (List.mem_range'_1.mpr ⟨h1, h2⟩))
  by_cases h0 : M < 10
  · exact key _ _ ckA0 (by omega) (by omega)
  by_cases h10 : M < 20
  · exact key _ _ ckA1 (by omega) (by omega)
  by_cases h20 : M < 30
  · exact key _ _ ckA2 (by omega) (by omega)
  by_cases h30 : M < 40
  · exact key _ _ ckA3 (by omega) (by omega)
  by_cases h40 : M < 50
  · exact key _ _ ckA4 (by omega) (by omega)
  by_cases h50 : M < 60
  · exact key _ _ ckA5 (by omega) (by omega)
  by_cases h60 : M < 70
  · exact key _ _ ckA6 (by omega) (by omega)
  by_cases h70 : M < 80
  · exact key _ _ ckA7 (by omega) (by omega)
  by_cases h80 : M < 90
  · exact key _ _ ckA8 (by omega) (by omega)
  by_cases h90 : M < 100
  · exact key _ _ ckA9 (by omega) (by omega)
  by_cases h100 : M < 110
  · exact key _ _ ckA10 (by omega) (by omega)
  by_cases h110 : M < 120
  · exact key _ _ ckA11 (by omega) (by omega)
  by_cases h120 : M < 130
  · exact key _ _ ckA12 (by omega) (by omega)
  by_cases h130 : M < 140
  · exact key _ _ ckA13 (by omega) (by omega)
  by_cases h140 : M < 150
  · exact key _ _ ckA14 (by omega) (by omega)
  by_cases h150 : M < 160
  · exact key _ _ ckA15 (by omega) (by omega)
  by_cases h160 : M < 170
  · exact key _ _ ckA16 (by omega) (by omega)
  by_cases h170 : M < 180
  · exact key _ _ ckA17 (by omega) (by omega)
  by_cases h180 : M < 190
  · exact key _ _ ckA18 (by omega) (by omega)
  by_cases h190 : M < 200
  · exact key _ _ ckA19 (by omega) (by omega)
  by_cases h200 : M < 210
  · exact key _ _ ckA20 (by omega) (by omega)
  by_cases h210 : M < 220
  · exact key _ _ ckA21 (by omega) (by omega)
  by_cases h220 : M < 230
  · exact key _ _ ckA22 (by omega) (by omega)
  by_cases h230 : M < 240
  · exact key _ _ ckA23 (by omega) (by omega)
  by_cases h240 : M < 250
  · exact key _ _ ckA24 (by omega) (by omega)
  by_cases h250 : M < 260
  · exact key _ _ ckA25 (by omega) (by omega)
  by_cases h260 : M < 270
  · exact key _ _ ckA26 (by omega) (by omega)
  by_cases h270 : M < 271
  · exact key _ _ ckA27 (by omega) (by omega)
  obtain rfl : M = 271 := by omega
  intro q hq
  have e : cdT 271 = cd271 := rfl
  rw [e] at hq
  unfold cd271 at hq
  simp only [List.mem_append] at hq
  rcases hq with hq | hq | hq | hq | hq | hq | hq | hq | hq | hq | hq | hq | hq | hq | hq | hq
  · exact List.all_eq_true.mp ckL0 q hq
  · exact List.all_eq_true.mp ckL1 q hq
  · exact List.all_eq_true.mp ckL2 q hq
  · exact List.all_eq_true.mp ckL3 q hq
  · exact List.all_eq_true.mp ckL4 q hq
  · exact List.all_eq_true.mp ckL5 q hq
  · exact List.all_eq_true.mp ckL6 q hq
  · exact List.all_eq_true.mp ckL7 q hq
  · exact List.all_eq_true.mp ckL8 q hq
  · exact List.all_eq_true.mp ckL9 q hq
  · exact List.all_eq_true.mp ckL10 q hq
  · exact List.all_eq_true.mp ckL11 q hq
  · exact List.all_eq_true.mp ckL12 q hq
  · exact List.all_eq_true.mp ckL13 q hq
  · exact List.all_eq_true.mp ckL14 q hq
  · exact List.all_eq_true.mp ckL15 q hq
end
section
section STEP
variable {S : Type} {rd : S → Nat → Nat → Option Nat} {wr : S → Nat → Nat → Nat → Option S} {G : Gx} {p : Program} {l : Launch} {e : Env} {R : Room} {s : State} {m : MethodId} {args : Array Value} {below : List Frame} {meth : Method} {c : Code} {n0 M : Nat} {Q : State → Prop}
set_option maxHeartbeats 8000000 in
set_option maxRecDepth 100000 in
theorem step_sound (hwr : ∀ (r : S) (a i v : Nat) (r' : S), wr r a i v = some r' → ∀ b j, rd r' b j = if b = a ∧ j = i then some v else rd r b j) (C : Cx G p R s m args meth c n0 M) {n : Nat} {v : Option Value} {h1 : Hp S} (hcl : h1.1 - n0 ≤ R.cells) (hsl : szs (gL G) h1.1 - szs (gL G) n0 ≤ R.slots)
    (kont : ∀ (pc : Nat) (ls : LV) (st : List Value) (h : Hp S), run cdT (gL G) (gX G) (gT G) rd wr n M pc ls st h = some (v, h1) → h.1 ≤ h1.1 ∧ Wst rd G p l e R s m args below meth c n0 (mi M).2.2.2.1 Q h pc ls st)
    (cont : ∀ (M' : Nat) (as : List Value) (h : Hp S) (v' : Option Value) (h' : Hp S), CallGood M' as → run cdT (gL G) (gX G) (gT G) rd wr n M' 0 (entm M' as) [] h = some (v', h') → h.1 ≤ h'.1 ∧ MetC rd G l M' as h v' h')
    (hend : ∀ (pc : Nat) (ls : LV) (ai : AI), (pc, ai) ∈ cdT M → retOK ai v → Wst rd G p l e R s m args below meth c n0 (mi M).2.2.2.1 Q h1 pc ls v.toList)
    {pc : Nat} {ls : LV} {st : List Value} {h : Hp S} {ai : AI} (hmem : (pc, ai) ∈ cdT M) (hrun : stp (gL G) (gX G) (gT G) rd wr none (fun pc ls st h => run cdT (gL G) (gX G) (gT G) rd wr n M pc ls st h) (fun M' as h f => (run cdT (gL G) (gX G) (gT G) rd wr n M' 0 (entm M' as) [] h).bind (fun q => f q.1 q.2)) (fun v h => some (v, h)) ai pc ls st h = some (v, h1)) :
    h.1 ≤ h1.1 ∧ Wst rd G p l e R s m args below meth c n0 (mi M).2.2.2.1 Q h pc ls st := by
  obtain ⟨hx, hb, hml, hown, hts, hF, hLc, hini, hK, hs, h5, hck⟩ := C
  have hq := hck _ hmem
  unfold chkQ at hq
  simp only [Bool.and_eq_true, decide_eq_true_eq] at hq
  obtain ⟨hd, hchk⟩ := hq
  have callM : ∀ (M' : Nat) (as : List Value) (h : Hp S) (g : Option Value × Hp S → Option (Option Value × Hp S)), (run cdT (gL G) (gX G) (gT G) rd wr n M' 0 (entm M' as) [] h).bind g = some (v, h1) → ∃ z, run cdT (gL G) (gX G) (gT G) rd wr n M' 0 (entm M' as) [] h = some z ∧ g z = some (v, h1) := by
    intro M' as h g hq
    exact Option.bind_eq_some_iff.mp hq
  have okC : ∀ {M' na rk mx : Nat}, chkC (mi M).2.2.2.2.2.2.1 (mi M).2.2.2.2.2.2.2 M' na rk mx = true → CallOK M' R ∧ (mi M').2.2.2.2.2.1 = na ∧ (mi M').2.2.2.1 = mx ∧ M' < 271 ∧ (mi M').1 ≠ 15 := by
    intro M' na rk mx hq
    unfold chkC at hq
    simp only [Bool.and_eq_true, Bool.not_eq_true'] at hq
    obtain ⟨a1, a2, a3, a4, a5, a6, a7⟩ := hq
    have b4 := Nat.le_of_ble_eq_true a4
    have b5 := Nat.le_of_ble_eq_true a5
    have b6 : M' < 271 := Nat.blt_eq.mp a6
    have b7 : (mi M').1 ≠ 15 := fun z => by rw [z] at a7; cases a7
    exact ⟨⟨by omega, by omega, b6, ckN_all M' b6, b7⟩, nbeq a2, nbeq a1, b6, b7⟩
  have ct : ∀ e, e ∈ ctab → chkE e = true := fun e he => List.all_eq_true.mp ctab_ok e he
  obtain ⟨i, len, a, sw⟩ := ai
  cases i
  case iconst n' =>
    have hchk : (Nat.beq len 1 && decide (Int32.ofInt n' = kv sw)) = true := hchk
    simp only [Bool.and_eq_true, decide_eq_true_eq] at hchk
    obtain ⟨e1, e2⟩ := hchk
    obtain rfl := nbeq e1
    obtain ⟨k1, k2⟩ := kont _ _ _ _ hrun
    exact ⟨k1, w_iconst hx hb hd e2 k2⟩
  case bipush n' =>
    have hchk : (Nat.beq len 2 && decide ((Int8.ofInt n').toInt32 = kv sw)) = true := hchk
    simp only [Bool.and_eq_true, decide_eq_true_eq] at hchk
    obtain ⟨e1, e2⟩ := hchk
    obtain rfl := nbeq e1
    obtain ⟨k1, k2⟩ := kont _ _ _ _ hrun
    exact ⟨k1, w_bipush hx hb hd e2 k2⟩
  case sipush n' =>
    have hchk : (Nat.beq len 3 && decide ((Int16.ofInt n').toInt32 = kv sw)) = true := hchk
    simp only [Bool.and_eq_true, decide_eq_true_eq] at hchk
    obtain ⟨e1, e2⟩ := hchk
    obtain rfl := nbeq e1
    obtain ⟨k1, k2⟩ := kont _ _ _ _ hrun
    exact ⟨k1, w_sipush hx hb hd e2 k2⟩
  case ldc_w ix =>
    have hchk : (Nat.beq len 3 && inL ltab (mi M).1 ix (kv sw)) = true := hchk
    simp only [Bool.and_eq_true, decide_eq_true_eq] at hchk
    obtain ⟨e1, e2⟩ := hchk
    obtain rfl := nbeq e1
    obtain ⟨k1, k2⟩ := kont _ _ _ _ hrun
    exact ⟨k1, w_ldcw hx hb hown (hts _ (in_WLl (List.mem_append_left _ (List.mem_map.mpr ⟨_, inL_mem e2, rfl⟩)))) hd k2⟩
  case lconst j =>
    have hchk : (Nat.beq len 1 && Nat.beq (ax a 0) j.val) = true := hchk
    simp only [Bool.and_eq_true, decide_eq_true_eq] at hchk
    obtain ⟨e1, e2⟩ := hchk
    obtain rfl := nbeq e1
    obtain ⟨k1, k2⟩ := kont _ _ _ _ hrun
    refine ⟨k1, w_lconst hx hb hd ?_ k2⟩
    rw [nbeq e2]
    match j with
    | ⟨0, _⟩ => rfl
    | ⟨1, _⟩ => rfl
  case ldc2_w ix =>
    have hchk : (Nat.beq len 3 && in2 jtab (mi M).1 ix) = true := hchk
    simp only [Bool.and_eq_true, decide_eq_true_eq] at hchk
    obtain ⟨e1, e2⟩ := hchk
    obtain rfl := nbeq e1
    obtain ⟨k1, k2⟩ := kont _ _ _ _ hrun
    exact ⟨k1, w_ldc2 hx hb hown (hts _ (in_WLl (List.mem_append_right _ (List.mem_map.mpr ⟨_, in2_mem e2, rfl⟩)))) hd k2⟩
  case aconst_null =>
    have hchk : (Nat.beq len 1) = true := hchk
    obtain rfl := nbeq hchk
    obtain ⟨k1, k2⟩ := kont _ _ _ _ hrun
    exact ⟨k1, w_null hx hb hd k2⟩
  case iload j =>
    have hchk : (Nat.beq len 2 && Nat.beq (ax a 0) j) = true := hchk
    simp only [Bool.and_eq_true, decide_eq_true_eq] at hchk
    obtain ⟨e1, e2⟩ := hchk
    obtain rfl := nbeq e1
    obtain ⟨x, hg, hrun⟩ := rI_s hrun
    obtain ⟨k1, k2⟩ := kont _ _ _ _ hrun
    exact ⟨k1, w_iload hx hb hd (by rw [← nbeq e2]; exact hg) k2⟩
  case iload_n j =>
    have hchk : (Nat.beq len 1 && Nat.beq (ax a 0) j.val) = true := hchk
    simp only [Bool.and_eq_true, decide_eq_true_eq] at hchk
    obtain ⟨e1, e2⟩ := hchk
    obtain rfl := nbeq e1
    obtain ⟨x, hg, hrun⟩ := rI_s hrun
    obtain ⟨k1, k2⟩ := kont _ _ _ _ hrun
    exact ⟨k1, w_iload_n hx hb hd (by rw [← nbeq e2]; exact hg) k2⟩
  case lload j =>
    have hchk : (Nat.beq len 2 && Nat.beq (ax a 0) j) = true := hchk
    simp only [Bool.and_eq_true, decide_eq_true_eq] at hchk
    obtain ⟨e1, e2⟩ := hchk
    obtain rfl := nbeq e1
    obtain ⟨x, hg, hrun⟩ := rJ_s hrun
    obtain ⟨k1, k2⟩ := kont _ _ _ _ hrun
    exact ⟨k1, w_lload hx hb hd (by rw [← nbeq e2]; exact hg) k2⟩
  case lload_n j =>
    have hchk : (Nat.beq len 1 && Nat.beq (ax a 0) j.val) = true := hchk
    simp only [Bool.and_eq_true, decide_eq_true_eq] at hchk
    obtain ⟨e1, e2⟩ := hchk
    obtain rfl := nbeq e1
    obtain ⟨x, hg, hrun⟩ := rJ_s hrun
    obtain ⟨k1, k2⟩ := kont _ _ _ _ hrun
    exact ⟨k1, w_lload_n hx hb hd (by rw [← nbeq e2]; exact hg) k2⟩
  case aload j =>
    have hchk : (Nat.beq len 2 && Nat.beq (ax a 0) j) = true := hchk
    simp only [Bool.and_eq_true, decide_eq_true_eq] at hchk
    obtain ⟨e1, e2⟩ := hchk
    obtain rfl := nbeq e1
    rcases rO_s hrun with ⟨hg, hrun⟩ | ⟨x, hg, hrun⟩
    · obtain ⟨k1, k2⟩ := kont _ _ _ _ hrun
      exact ⟨k1, w_aloadN hx hb hd (by rw [← nbeq e2]; exact hg) k2⟩
    · obtain ⟨k1, k2⟩ := kont _ _ _ _ hrun
      exact ⟨k1, w_aload hx hb hd (by rw [← nbeq e2]; exact hg) k2⟩
  case aload_n j =>
    have hchk : (Nat.beq len 1 && Nat.beq (ax a 0) j.val) = true := hchk
    simp only [Bool.and_eq_true, decide_eq_true_eq] at hchk
    obtain ⟨e1, e2⟩ := hchk
    obtain rfl := nbeq e1
    rcases rO_s hrun with ⟨hg, hrun⟩ | ⟨x, hg, hrun⟩
    · obtain ⟨k1, k2⟩ := kont _ _ _ _ hrun
      exact ⟨k1, w_aload_nN hx hb hd (by rw [← nbeq e2]; exact hg) k2⟩
    · obtain ⟨k1, k2⟩ := kont _ _ _ _ hrun
      exact ⟨k1, w_aload_n hx hb hd (by rw [← nbeq e2]; exact hg) k2⟩
  case istore j =>
    have hchk : (Nat.beq len 2 && (Nat.beq (ax a 0) j && Nat.blt j (mi M).2.2.2.1)) = true := hchk
    simp only [Bool.and_eq_true, decide_eq_true_eq] at hchk
    obtain ⟨e1, e2, e3⟩ := hchk
    obtain rfl := nbeq e1
    obtain ⟨x, r, rfl, hrun⟩ := pI_s hrun
    obtain ⟨hm, hrun⟩ := bif_s hrun
    obtain ⟨k1, k2⟩ := kont _ _ _ _ hrun
    exact ⟨k1, w_istore hx hb hd (Nat.blt_eq.mp e3) (by rw [← nbeq e2]; exact hm) (by rw [← nbeq e2]; exact k2)⟩
  case istore_n j =>
    have hchk : (Nat.beq len 1 && (Nat.beq (ax a 0) j.val && Nat.blt j.val (mi M).2.2.2.1)) = true := hchk
    simp only [Bool.and_eq_true, decide_eq_true_eq] at hchk
    obtain ⟨e1, e2, e3⟩ := hchk
    obtain rfl := nbeq e1
    obtain ⟨x, r, rfl, hrun⟩ := pI_s hrun
    obtain ⟨hm, hrun⟩ := bif_s hrun
    obtain ⟨k1, k2⟩ := kont _ _ _ _ hrun
    exact ⟨k1, w_istore_n hx hb hd (Nat.blt_eq.mp e3) (by rw [← nbeq e2]; exact hm) (by rw [← nbeq e2]; exact k2)⟩
  case lstore j =>
    have hchk : (Nat.beq len 2 && (Nat.beq (ax a 0) j && Nat.blt (j + 1) (mi M).2.2.2.1)) = true := hchk
    simp only [Bool.and_eq_true, decide_eq_true_eq] at hchk
    obtain ⟨e1, e2, e3⟩ := hchk
    obtain rfl := nbeq e1
    obtain ⟨x, r, rfl, hrun⟩ := pJ_s hrun
    obtain ⟨hm, hrun⟩ := bif_s hrun
    obtain ⟨k1, k2⟩ := kont _ _ _ _ hrun
    exact ⟨k1, w_lstore hx hb hd (Nat.blt_eq.mp e3) (by rw [← nbeq e2]; exact hm) (by rw [← nbeq e2]; exact k2)⟩
  case lstore_n j =>
    have hchk : (Nat.beq len 1 && (Nat.beq (ax a 0) j.val && Nat.blt (j.val + 1) (mi M).2.2.2.1)) = true := hchk
    simp only [Bool.and_eq_true, decide_eq_true_eq] at hchk
    obtain ⟨e1, e2, e3⟩ := hchk
    obtain rfl := nbeq e1
    obtain ⟨x, r, rfl, hrun⟩ := pJ_s hrun
    obtain ⟨hm, hrun⟩ := bif_s hrun
    obtain ⟨k1, k2⟩ := kont _ _ _ _ hrun
    exact ⟨k1, w_lstore_n hx hb hd (Nat.blt_eq.mp e3) (by rw [← nbeq e2]; exact hm) (by rw [← nbeq e2]; exact k2)⟩
  case astore j =>
    have hchk : (Nat.beq len 2 && (Nat.beq (ax a 0) j && Nat.blt j (mi M).2.2.2.1)) = true := hchk
    simp only [Bool.and_eq_true, decide_eq_true_eq] at hchk
    obtain ⟨e1, e2, e3⟩ := hchk
    obtain rfl := nbeq e1
    rcases pO_s hrun with ⟨r, rfl, hrun⟩ | ⟨x, r, rfl, hrun⟩
    · obtain ⟨hm, hrun⟩ := bif_s hrun
      obtain ⟨k1, k2⟩ := kont _ _ _ _ hrun
      exact ⟨k1, w_astoreN hx hb hd (Nat.blt_eq.mp e3) (by rw [← nbeq e2]; exact hm) (by rw [← nbeq e2]; exact k2)⟩
    · obtain ⟨hm, hrun⟩ := bif_s hrun
      obtain ⟨k1, k2⟩ := kont _ _ _ _ hrun
      exact ⟨k1, w_astore hx hb hd (Nat.blt_eq.mp e3) (by rw [← nbeq e2]; exact hm) (by rw [← nbeq e2]; exact k2)⟩
  case astore_n j =>
    have hchk : (Nat.beq len 1 && (Nat.beq (ax a 0) j.val && Nat.blt j.val (mi M).2.2.2.1)) = true := hchk
    simp only [Bool.and_eq_true, decide_eq_true_eq] at hchk
    obtain ⟨e1, e2, e3⟩ := hchk
    obtain rfl := nbeq e1
    rcases pO_s hrun with ⟨r, rfl, hrun⟩ | ⟨x, r, rfl, hrun⟩
    · obtain ⟨hm, hrun⟩ := bif_s hrun
      obtain ⟨k1, k2⟩ := kont _ _ _ _ hrun
      exact ⟨k1, w_astore_nN hx hb hd (Nat.blt_eq.mp e3) (by rw [← nbeq e2]; exact hm) (by rw [← nbeq e2]; exact k2)⟩
    · obtain ⟨hm, hrun⟩ := bif_s hrun
      obtain ⟨k1, k2⟩ := kont _ _ _ _ hrun
      exact ⟨k1, w_astore_n hx hb hd (Nat.blt_eq.mp e3) (by rw [← nbeq e2]; exact hm) (by rw [← nbeq e2]; exact k2)⟩
  case iinc j n' =>
    have hchk : (Nat.beq len 3 && (Nat.beq (ax a 0) j && (Nat.blt j (mi M).2.2.2.1 && decide (Int32.ofInt n' = kv sw)))) = true := hchk
    simp only [Bool.and_eq_true, decide_eq_true_eq] at hchk
    obtain ⟨e1, e2, e3, e4⟩ := hchk
    obtain rfl := nbeq e1
    obtain ⟨x, hg, hrun⟩ := rI_s hrun
    obtain ⟨hm, hrun⟩ := bif_s hrun
    obtain ⟨k1, k2⟩ := kont _ _ _ _ hrun
    exact ⟨k1, w_iinc hx hb hd (Nat.blt_eq.mp e3) (by rw [← nbeq e2]; exact hm) (by rw [← nbeq e2]; exact hg) (by rw [e4]) (by rw [← nbeq e2]; exact k2)⟩
  case iadd =>
    have hchk : (Nat.beq len 1) = true := hchk
    obtain rfl := nbeq hchk
    obtain ⟨x, y, r, rfl, hrun⟩ := pII_s hrun
    obtain ⟨k1, k2⟩ := kont _ _ _ _ hrun
    exact ⟨k1, w_iadd hx hb hd k2⟩
  case isub =>
    have hchk : (Nat.beq len 1) = true := hchk
    obtain rfl := nbeq hchk
    obtain ⟨x, y, r, rfl, hrun⟩ := pII_s hrun
    obtain ⟨k1, k2⟩ := kont _ _ _ _ hrun
    exact ⟨k1, w_isub hx hb hd k2⟩
  case imul =>
    have hchk : (Nat.beq len 1) = true := hchk
    obtain rfl := nbeq hchk
    obtain ⟨x, y, r, rfl, hrun⟩ := pII_s hrun
    obtain ⟨k1, k2⟩ := kont _ _ _ _ hrun
    exact ⟨k1, w_imul hx hb hd k2⟩
  case iand =>
    have hchk : (Nat.beq len 1) = true := hchk
    obtain rfl := nbeq hchk
    obtain ⟨x, y, r, rfl, hrun⟩ := pII_s hrun
    obtain ⟨k1, k2⟩ := kont _ _ _ _ hrun
    exact ⟨k1, w_iand hx hb hd k2⟩
  case ior =>
    have hchk : (Nat.beq len 1) = true := hchk
    obtain rfl := nbeq hchk
    obtain ⟨x, y, r, rfl, hrun⟩ := pII_s hrun
    obtain ⟨k1, k2⟩ := kont _ _ _ _ hrun
    exact ⟨k1, w_ior hx hb hd k2⟩
  case ixor =>
    have hchk : (Nat.beq len 1) = true := hchk
    obtain rfl := nbeq hchk
    obtain ⟨x, y, r, rfl, hrun⟩ := pII_s hrun
    obtain ⟨k1, k2⟩ := kont _ _ _ _ hrun
    exact ⟨k1, w_ixor hx hb hd k2⟩
  case ishl =>
    have hchk : (Nat.beq len 1) = true := hchk
    obtain rfl := nbeq hchk
    obtain ⟨x, y, r, rfl, hrun⟩ := pII_s hrun
    obtain ⟨k1, k2⟩ := kont _ _ _ _ hrun
    exact ⟨k1, w_ishl hx hb hd k2⟩
  case ishr =>
    have hchk : (Nat.beq len 1) = true := hchk
    obtain rfl := nbeq hchk
    obtain ⟨x, y, r, rfl, hrun⟩ := pII_s hrun
    obtain ⟨k1, k2⟩ := kont _ _ _ _ hrun
    exact ⟨k1, w_ishr hx hb hd k2⟩
  case iushr =>
    have hchk : (Nat.beq len 1) = true := hchk
    obtain rfl := nbeq hchk
    obtain ⟨x, y, r, rfl, hrun⟩ := pII_s hrun
    obtain ⟨k1, k2⟩ := kont _ _ _ _ hrun
    exact ⟨k1, w_iushr hx hb hd k2⟩
  case idiv =>
    have hchk : (Nat.beq len 1) = true := hchk
    obtain rfl := nbeq hchk
    obtain ⟨x, y, r, rfl, hrun⟩ := pII_s hrun
    obtain ⟨hne, hrun⟩ := if_s hrun
    obtain ⟨k1, k2⟩ := kont _ _ _ _ hrun
    exact ⟨k1, w_idiv hx hb hd hne k2⟩
  case irem =>
    have hchk : (Nat.beq len 1) = true := hchk
    obtain rfl := nbeq hchk
    obtain ⟨x, y, r, rfl, hrun⟩ := pII_s hrun
    obtain ⟨hne, hrun⟩ := if_s hrun
    obtain ⟨k1, k2⟩ := kont _ _ _ _ hrun
    exact ⟨k1, w_irem hx hb hd hne k2⟩
  case lmul =>
    have hchk : (Nat.beq len 1) = true := hchk
    obtain rfl := nbeq hchk
    obtain ⟨x, y, r, rfl, hrun⟩ := pJJ_s hrun
    obtain ⟨k1, k2⟩ := kont _ _ _ _ hrun
    exact ⟨k1, w_lmul hx hb hd k2⟩
  case lsub =>
    have hchk : (Nat.beq len 1) = true := hchk
    obtain rfl := nbeq hchk
    obtain ⟨x, y, r, rfl, hrun⟩ := pJJ_s hrun
    obtain ⟨k1, k2⟩ := kont _ _ _ _ hrun
    exact ⟨k1, w_lsub hx hb hd k2⟩
  case lcmp =>
    have hchk : (Nat.beq len 1) = true := hchk
    obtain rfl := nbeq hchk
    obtain ⟨x, y, r, rfl, hrun⟩ := pJJ_s hrun
    obtain ⟨k1, k2⟩ := kont _ _ _ _ hrun
    exact ⟨k1, w_lcmp hx hb hd k2⟩
  case ldiv =>
    have hchk : (Nat.beq len 1) = true := hchk
    obtain rfl := nbeq hchk
    obtain ⟨x, y, r, rfl, hrun⟩ := pJJ_s hrun
    obtain ⟨hne, hrun⟩ := if_s hrun
    obtain ⟨k1, k2⟩ := kont _ _ _ _ hrun
    exact ⟨k1, w_ldiv hx hb hd hne k2⟩
  case lrem =>
    have hchk : (Nat.beq len 1) = true := hchk
    obtain rfl := nbeq hchk
    obtain ⟨x, y, r, rfl, hrun⟩ := pJJ_s hrun
    obtain ⟨hne, hrun⟩ := if_s hrun
    obtain ⟨k1, k2⟩ := kont _ _ _ _ hrun
    exact ⟨k1, w_lrem hx hb hd hne k2⟩
  case ineg =>
    have hchk : (Nat.beq len 1) = true := hchk
    obtain rfl := nbeq hchk
    obtain ⟨x, r, rfl, hrun⟩ := pI_s hrun
    obtain ⟨k1, k2⟩ := kont _ _ _ _ hrun
    exact ⟨k1, w_ineg hx hb hd k2⟩
  case i2l =>
    have hchk : (Nat.beq len 1) = true := hchk
    obtain rfl := nbeq hchk
    obtain ⟨x, r, rfl, hrun⟩ := pI_s hrun
    obtain ⟨k1, k2⟩ := kont _ _ _ _ hrun
    exact ⟨k1, w_i2l hx hb hd k2⟩
  case i2b =>
    have hchk : (Nat.beq len 1) = true := hchk
    obtain rfl := nbeq hchk
    obtain ⟨x, r, rfl, hrun⟩ := pI_s hrun
    obtain ⟨k1, k2⟩ := kont _ _ _ _ hrun
    exact ⟨k1, w_i2b hx hb hd k2⟩
  case i2s =>
    have hchk : (Nat.beq len 1) = true := hchk
    obtain rfl := nbeq hchk
    obtain ⟨x, r, rfl, hrun⟩ := pI_s hrun
    obtain ⟨k1, k2⟩ := kont _ _ _ _ hrun
    exact ⟨k1, w_i2s hx hb hd k2⟩
  case dup =>
    have hchk : (Nat.beq len 1) = true := hchk
    obtain rfl := nbeq hchk
    rcases pD_s hrun with ⟨x, r, rfl, hrun⟩ | ⟨x, r, rfl, hrun⟩
    · obtain ⟨k1, k2⟩ := kont _ _ _ _ hrun
      exact ⟨k1, w_dupI hx hb hd k2⟩
    · obtain ⟨k1, k2⟩ := kont _ _ _ _ hrun
      exact ⟨k1, w_dupR hx hb hd k2⟩
  case dup2 =>
    have hchk : (Nat.beq len 1) = true := hchk
    obtain rfl := nbeq hchk
    obtain ⟨x, y, r, rfl, hrun⟩ := pIR_s hrun
    obtain ⟨k1, k2⟩ := kont _ _ _ _ hrun
    exact ⟨k1, w_dup2 hx hb hd k2⟩
  case ifCond cd off =>
    have hchk : (Nat.beq len 3 && decide ((pc : Int) + off = (ax a 0 : Int))) = true := hchk
    simp only [Bool.and_eq_true, decide_eq_true_eq] at hchk
    obtain ⟨e1, e2⟩ := hchk
    obtain rfl := nbeq e1
    cases cd
    case eq =>
      obtain ⟨x, r, rfl, hrun⟩ := pI_s hrun
      rcases ite_s hrun with ⟨hc, hrun⟩ | ⟨hc, hrun⟩
      · obtain ⟨k1, k2⟩ := kont _ _ _ _ hrun
        exact ⟨k1, w_if_eq hx hb hd e2 (fun _ => k2) (fun z => absurd hc z)⟩
      · obtain ⟨k1, k2⟩ := kont _ _ _ _ hrun
        exact ⟨k1, w_if_eq hx hb hd e2 (fun z => absurd z hc) (fun _ => k2)⟩
    case ne =>
      obtain ⟨x, r, rfl, hrun⟩ := pI_s hrun
      rcases ite_s hrun with ⟨hc, hrun⟩ | ⟨hc, hrun⟩
      · obtain ⟨k1, k2⟩ := kont _ _ _ _ hrun
        exact ⟨k1, w_if_ne hx hb hd e2 (fun _ => k2) (fun z => absurd hc z)⟩
      · obtain ⟨k1, k2⟩ := kont _ _ _ _ hrun
        exact ⟨k1, w_if_ne hx hb hd e2 (fun z => absurd z hc) (fun _ => k2)⟩
    case lt =>
      obtain ⟨x, r, rfl, hrun⟩ := pI_s hrun
      rcases ite_s hrun with ⟨hc, hrun⟩ | ⟨hc, hrun⟩
      · obtain ⟨k1, k2⟩ := kont _ _ _ _ hrun
        exact ⟨k1, w_if_lt hx hb hd e2 (fun _ => k2) (fun z => absurd hc z)⟩
      · obtain ⟨k1, k2⟩ := kont _ _ _ _ hrun
        exact ⟨k1, w_if_lt hx hb hd e2 (fun z => absurd z hc) (fun _ => k2)⟩
    case ge =>
      obtain ⟨x, r, rfl, hrun⟩ := pI_s hrun
      rcases ite_s hrun with ⟨hc, hrun⟩ | ⟨hc, hrun⟩
      · obtain ⟨k1, k2⟩ := kont _ _ _ _ hrun
        exact ⟨k1, w_if_ge hx hb hd e2 (fun _ => k2) (fun z => absurd hc z)⟩
      · obtain ⟨k1, k2⟩ := kont _ _ _ _ hrun
        exact ⟨k1, w_if_ge hx hb hd e2 (fun z => absurd z hc) (fun _ => k2)⟩
    case gt =>
      obtain ⟨x, r, rfl, hrun⟩ := pI_s hrun
      rcases ite_s hrun with ⟨hc, hrun⟩ | ⟨hc, hrun⟩
      · obtain ⟨k1, k2⟩ := kont _ _ _ _ hrun
        exact ⟨k1, w_if_gt hx hb hd e2 (fun _ => k2) (fun z => absurd hc z)⟩
      · obtain ⟨k1, k2⟩ := kont _ _ _ _ hrun
        exact ⟨k1, w_if_gt hx hb hd e2 (fun z => absurd z hc) (fun _ => k2)⟩
    case le =>
      obtain ⟨x, r, rfl, hrun⟩ := pI_s hrun
      rcases ite_s hrun with ⟨hc, hrun⟩ | ⟨hc, hrun⟩
      · obtain ⟨k1, k2⟩ := kont _ _ _ _ hrun
        exact ⟨k1, w_if_le hx hb hd e2 (fun _ => k2) (fun z => absurd hc z)⟩
      · obtain ⟨k1, k2⟩ := kont _ _ _ _ hrun
        exact ⟨k1, w_if_le hx hb hd e2 (fun z => absurd z hc) (fun _ => k2)⟩
  case if_icmp cd off =>
    have hchk : (Nat.beq len 3 && decide ((pc : Int) + off = (ax a 0 : Int))) = true := hchk
    simp only [Bool.and_eq_true, decide_eq_true_eq] at hchk
    obtain ⟨e1, e2⟩ := hchk
    obtain rfl := nbeq e1
    cases cd
    case eq =>
      obtain ⟨x, y, r, rfl, hrun⟩ := pII_s hrun
      rcases ite_s hrun with ⟨hc, hrun⟩ | ⟨hc, hrun⟩
      · obtain ⟨k1, k2⟩ := kont _ _ _ _ hrun
        exact ⟨k1, w_icmp_eq hx hb hd e2 (fun _ => k2) (fun z => absurd hc z)⟩
      · obtain ⟨k1, k2⟩ := kont _ _ _ _ hrun
        exact ⟨k1, w_icmp_eq hx hb hd e2 (fun z => absurd z hc) (fun _ => k2)⟩
    case ne =>
      obtain ⟨x, y, r, rfl, hrun⟩ := pII_s hrun
      rcases ite_s hrun with ⟨hc, hrun⟩ | ⟨hc, hrun⟩
      · obtain ⟨k1, k2⟩ := kont _ _ _ _ hrun
        exact ⟨k1, w_icmp_ne hx hb hd e2 (fun _ => k2) (fun z => absurd hc z)⟩
      · obtain ⟨k1, k2⟩ := kont _ _ _ _ hrun
        exact ⟨k1, w_icmp_ne hx hb hd e2 (fun z => absurd z hc) (fun _ => k2)⟩
    case lt =>
      obtain ⟨x, y, r, rfl, hrun⟩ := pII_s hrun
      rcases ite_s hrun with ⟨hc, hrun⟩ | ⟨hc, hrun⟩
      · obtain ⟨k1, k2⟩ := kont _ _ _ _ hrun
        exact ⟨k1, w_icmp_lt hx hb hd e2 (fun _ => k2) (fun z => absurd hc z)⟩
      · obtain ⟨k1, k2⟩ := kont _ _ _ _ hrun
        exact ⟨k1, w_icmp_lt hx hb hd e2 (fun z => absurd z hc) (fun _ => k2)⟩
    case ge =>
      obtain ⟨x, y, r, rfl, hrun⟩ := pII_s hrun
      rcases ite_s hrun with ⟨hc, hrun⟩ | ⟨hc, hrun⟩
      · obtain ⟨k1, k2⟩ := kont _ _ _ _ hrun
        exact ⟨k1, w_icmp_ge hx hb hd e2 (fun _ => k2) (fun z => absurd hc z)⟩
      · obtain ⟨k1, k2⟩ := kont _ _ _ _ hrun
        exact ⟨k1, w_icmp_ge hx hb hd e2 (fun z => absurd z hc) (fun _ => k2)⟩
    case gt =>
      obtain ⟨x, y, r, rfl, hrun⟩ := pII_s hrun
      rcases ite_s hrun with ⟨hc, hrun⟩ | ⟨hc, hrun⟩
      · obtain ⟨k1, k2⟩ := kont _ _ _ _ hrun
        exact ⟨k1, w_icmp_gt hx hb hd e2 (fun _ => k2) (fun z => absurd hc z)⟩
      · obtain ⟨k1, k2⟩ := kont _ _ _ _ hrun
        exact ⟨k1, w_icmp_gt hx hb hd e2 (fun z => absurd z hc) (fun _ => k2)⟩
    case le =>
      obtain ⟨x, y, r, rfl, hrun⟩ := pII_s hrun
      rcases ite_s hrun with ⟨hc, hrun⟩ | ⟨hc, hrun⟩
      · obtain ⟨k1, k2⟩ := kont _ _ _ _ hrun
        exact ⟨k1, w_icmp_le hx hb hd e2 (fun _ => k2) (fun z => absurd hc z)⟩
      · obtain ⟨k1, k2⟩ := kont _ _ _ _ hrun
        exact ⟨k1, w_icmp_le hx hb hd e2 (fun z => absurd z hc) (fun _ => k2)⟩
  case ifnull off =>
    have hchk : (Nat.beq len 3 && decide ((pc : Int) + off = (ax a 0 : Int))) = true := hchk
    simp only [Bool.and_eq_true, decide_eq_true_eq] at hchk
    obtain ⟨e1, e2⟩ := hchk
    obtain rfl := nbeq e1
    rcases pO_s hrun with ⟨r, rfl, hrun⟩ | ⟨x, r, rfl, hrun⟩
    · obtain ⟨k1, k2⟩ := kont _ _ _ _ hrun
      exact ⟨k1, w_ifnullN hx hb hd e2 k2⟩
    · obtain ⟨k1, k2⟩ := kont _ _ _ _ hrun
      exact ⟨k1, w_ifnull hx hb hd k2⟩
  case ifnonnull off =>
    have hchk : (Nat.beq len 3 && decide ((pc : Int) + off = (ax a 0 : Int))) = true := hchk
    simp only [Bool.and_eq_true, decide_eq_true_eq] at hchk
    obtain ⟨e1, e2⟩ := hchk
    obtain rfl := nbeq e1
    rcases pO_s hrun with ⟨r, rfl, hrun⟩ | ⟨x, r, rfl, hrun⟩
    · obtain ⟨k1, k2⟩ := kont _ _ _ _ hrun
      exact ⟨k1, w_ifnonnullN hx hb hd k2⟩
    · obtain ⟨k1, k2⟩ := kont _ _ _ _ hrun
      exact ⟨k1, w_ifnonnull hx hb hd e2 k2⟩
  case goto off =>
    have hchk : (Nat.beq len 3 && decide ((pc : Int) + off = (ax a 0 : Int))) = true := hchk
    simp only [Bool.and_eq_true, decide_eq_true_eq] at hchk
    obtain ⟨e1, e2⟩ := hchk
    obtain rfl := nbeq e1
    obtain ⟨k1, k2⟩ := kont _ _ _ _ hrun
    exact ⟨k1, w_goto hx hb hd e2 k2⟩
  case tableswitch d lo hi offs =>
    have hchk : (decide ((pc : Int) + d = (ax a 0 : Int)) && (decide (lo + offs.size = hi + 1) && (decide (0 ≤ lo) && (decide (hi < 1000) && decide (sw = offs.toList.mapIdx (fun j o => (Int32.ofInt (lo + j), ((pc : Int) + o).toNat)) ∧ ∀ o ∈ offs.toList, 0 ≤ (pc : Int) + o))))) = true := hchk
    simp only [Bool.and_eq_true, decide_eq_true_eq] at hchk
    obtain ⟨e1, e2, e3, e4, e5, e6⟩ := hchk
    obtain ⟨x, r, rfl, hrun⟩ := pI_s hrun
    rcases swt_s hrun with ⟨j, t, q1, hrun, -⟩ | ⟨q1, hrun⟩
    · obtain ⟨k1, k2⟩ := kont _ _ _ _ hrun
      rw [e5, List.getElem?_mapIdx] at q1
      cases hj : offs.toList[j]? with
      | none => rw [hj] at q1; cases q1
      | some off =>
        rw [hj] at q1
        simp only [Option.map_some, Option.some.injEq, Prod.mk.injEq] at q1
        obtain ⟨q1, rfl⟩ := q1
        have hjl : j < offs.size := by
          have := (List.getElem?_eq_some_iff.mp hj).1
          simpa using this
        have hxi : x.toInt = lo + j := by rw [← q1]; exact i32_small (by omega) (by omega)
        have hge := e6 off (List.mem_of_getElem? hj)
        exact ⟨k1, w_tableIn hx hb hd (by omega) (by omega) (by rw [hxi, show (lo + (j : Int) - lo).toNat = j by omega]; simpa using hj) (by omega) k2⟩
    · obtain ⟨k1, k2⟩ := kont _ _ _ _ hrun
      refine ⟨k1, w_tableOut hx hb hd ?_ e1 k2⟩
      rcases Int.lt_or_le x.toInt lo with z | z
      · exact Or.inl z
      rcases Int.lt_or_le hi x.toInt with z2 | z2
      · exact Or.inr z2
      exfalso
      have hjl : (x.toInt - lo).toNat < offs.toList.length := by simp; omega
      obtain ⟨off, hoff⟩ : ∃ off, offs.toList[(x.toInt - lo).toNat]? = some off := ⟨_, List.getElem?_eq_getElem hjl⟩
      refine q1 (Int32.ofInt (lo + ((x.toInt - lo).toNat : Nat)), ((pc : Int) + off).toNat) ?_ ?_
      · rw [e5]
        refine List.mem_of_getElem? (i := (x.toInt - lo).toNat) ?_
        rw [List.getElem?_mapIdx, hoff]
        rfl
      · show Int32.ofInt (lo + ((x.toInt - lo).toNat : Nat)) = x
        rw [show lo + ((x.toInt - lo).toNat : Nat) = x.toInt by omega, Int32.ofInt_toInt]
  case lookupswitch d ps =>
    have hchk : (decide ((pc : Int) + d = (ax a 0 : Int)) && ((ps.toList.zip (ps.toList.drop 1)).all (fun (a, next) => a.1 < next.1) && decide (sw = ps.toList.map (fun o => (Int32.ofInt o.1, ((pc : Int) + o.2).toNat)) ∧ ∀ o ∈ ps.toList, 0 ≤ (pc : Int) + o.2 ∧ 0 ≤ o.1 ∧ o.1 < 1000))) = true := hchk
    simp only [Bool.and_eq_true, decide_eq_true_eq] at hchk
    obtain ⟨e1, e2, e3, e4⟩ := hchk
    obtain ⟨x, r, rfl, hrun⟩ := pI_s hrun
    rcases swt_s hrun with ⟨j, t, q1, hrun, q3⟩ | ⟨q1, hrun⟩
    · obtain ⟨k1, k2⟩ := kont _ _ _ _ hrun
      rw [e3, List.getElem?_map] at q1
      cases hj : ps.toList[j]? with
      | none => rw [hj] at q1; cases q1
      | some ao =>
        rw [hj] at q1
        simp only [Option.map_some, Option.some.injEq, Prod.mk.injEq] at q1
        obtain ⟨q1, rfl⟩ := q1
        have hge := e4 ao (List.mem_of_getElem? hj)
        refine ⟨k1, w_lookup hx hb hd e2 (looki (fun o ho => (e4 o ho).2) hj q1 (fun i hi y hy => ?_)) (by omega) k2⟩
        have := q3 i hi (Int32.ofInt y.1, ((pc : Int) + y.2).toNat) (by rw [e3, List.getElem?_map, hy]; rfl)
        exact this
    · obtain ⟨k1, k2⟩ := kont _ _ _ _ hrun
      refine ⟨k1, w_lookup hx hb hd e2 (looko (fun o ho => (e4 o ho).2) (fun y hy => ?_)) e1 k2⟩
      exact q1 (Int32.ofInt y.1, ((pc : Int) + y.2).toNat) (by rw [e3]; exact List.mem_map.mpr ⟨y, hy, rfl⟩)
  case getstatic ix =>
    have hchk : (Nat.beq len 3 && (in3 stab (mi M).1 ix (ax a 0) && (Nat.blt 0 (ax a 0) && Nat.blt (ax a 0) 5))) = true := hchk
    simp only [Bool.and_eq_true, decide_eq_true_eq] at hchk
    obtain ⟨e1, e2, e3, e4⟩ := hchk
    obtain rfl := nbeq e1
    obtain ⟨k1, k2⟩ := kont _ _ _ _ hrun
    exact ⟨k1, w_gets hx hb hts hown hK (in3_mem e2) (Nat.blt_eq.mp e3) (Nat.blt_eq.mp e4) hd k2⟩
  case getfield ix =>
    have hchk : (Nat.beq len 3 && (in4 ftab (mi M).1 ix (ax a 0) (ax a 1) && (Nat.blt (ax a 0) 13 && (Nat.blt (ax a 1) (clT (ax a 0)).2.2 && Nat.beq (gn (gll ftT (ax a 0)) (ax a 1)) (ax a 2))))) = true := hchk
    simp only [Bool.and_eq_true, decide_eq_true_eq] at hchk
    obtain ⟨e1, e2, e3, e4, e5⟩ := hchk
    obtain rfl := nbeq e1
    obtain ⟨b, r, rfl, hrun⟩ := pR_s hrun
    obtain ⟨hok, hrun⟩ := bif_s hrun
    rcases t4_s hrun with ⟨htg, hrun⟩ | ⟨htg, hrun⟩ | ⟨htg, hrun⟩ | ⟨t1, t2, t3, hrun⟩
    · obtain ⟨k1, k2⟩ := kont _ _ _ _ hrun
      refine ⟨k1, fun hn H locs cls hR hS hL => ?_⟩
      obtain ⟨o1, o2⟩ := okT_at hok hR.2.1
      exact w_get hx hb hts hown hK (in4_mem e2) (Nat.blt_eq.mp e3) (Nat.blt_eq.mp e4) o1 o2 hd (by unfold fld; rw [nbeq e5, htg]; rfl) k2 hn H locs cls hR hS hL
    · rcases oel_s hrun with ⟨hv, hrun⟩ | ⟨x, hv, hrun⟩
      · obtain ⟨k1, k2⟩ := kont _ _ _ _ hrun
        refine ⟨k1, fun hn H locs cls hR hS hL => ?_⟩
        obtain ⟨o1, o2⟩ := okT_at hok hR.2.1
        exact w_get hx hb hts hown hK (in4_mem e2) (Nat.blt_eq.mp e3) (Nat.blt_eq.mp e4) o1 o2 hd (by unfold fld; rw [nbeq e5, htg, hv]; rfl) k2 hn H locs cls hR hS hL
      · obtain ⟨k1, k2⟩ := kont _ _ _ _ hrun
        refine ⟨k1, fun hn H locs cls hR hS hL => ?_⟩
        obtain ⟨o1, o2⟩ := okT_at hok hR.2.1
        exact w_get hx hb hts hown hK (in4_mem e2) (Nat.blt_eq.mp e3) (Nat.blt_eq.mp e4) o1 o2 hd (by unfold fld; rw [nbeq e5, htg, hv]; rfl) k2 hn H locs cls hR hS hL
    · obtain ⟨k1, k2⟩ := kont _ _ _ _ hrun
      refine ⟨k1, fun hn H locs cls hR hS hL => ?_⟩
      obtain ⟨o1, o2⟩ := okT_at hok hR.2.1
      exact w_get hx hb hts hown hK (in4_mem e2) (Nat.blt_eq.mp e3) (Nat.blt_eq.mp e4) o1 o2 hd (by unfold fld; rw [nbeq e5, htg]; rfl) k2 hn H locs cls hR hS hL
    · obtain ⟨k1, k2⟩ := kont _ _ _ _ hrun
      refine ⟨k1, fun hn H locs cls hR hS hL => ?_⟩
      obtain ⟨o1, o2⟩ := okT_at hok hR.2.1
      refine w_get hx hb hts hown hK (in4_mem e2) (Nat.blt_eq.mp e3) (Nat.blt_eq.mp e4) o1 o2 hd ?_ k2 hn H locs cls hR hS hL
      unfold fld
      rw [nbeq e5]
      split
      · rename_i z; exact absurd z t1
      · rename_i z; exact absurd z t2
      · rfl
  case putfield ix =>
    have hchk : (Nat.beq len 3 && (in4 ftab (mi M).1 ix (ax a 0) (ax a 1) && (Nat.blt (ax a 0) 13 && (Nat.blt (ax a 1) (clT (ax a 0)).2.2 && (Nat.beq (gn (gll ftT (ax a 0)) (ax a 1)) (ax a 2) && (!((clT (ax a 0)).2.1 (ax a 1)).2.2.2 || (decide ((mi M).2.1.name = "<init>") && Nat.beq (ax a 0) (mi M).1))))))) = true := hchk
    simp only [Bool.and_eq_true, decide_eq_true_eq] at hchk
    obtain ⟨e1, e2, e3, e4, e5, e6⟩ := hchk
    obtain rfl := nbeq e1
    have hfin : ((clT (ax a 0)).2.1 (ax a 1)).2.2.2 = false ∨ (meth.name = "<init>" ∧ ax a 0 = (mi M).1) := by
      simp only [Bool.or_eq_true, Bool.not_eq_true', Bool.and_eq_true, decide_eq_true_eq] at e6
      rcases e6 with z | ⟨z1, z2⟩
      · exact Or.inl z
      · exact Or.inr ⟨hini z1, nbeq z2⟩
    have e5 := nbeq e5
    rcases t4_s hrun with ⟨htg, hrun⟩ | ⟨htg, hrun⟩ | ⟨htg, hrun⟩ | ⟨t1, t2, t3, hrun⟩
    · obtain ⟨x, b, r, rfl, hrun⟩ := pJR_s hrun
      obtain ⟨hok, hrun⟩ := bif_s hrun
      obtain ⟨k1, k2⟩ := kont _ _ _ _ hrun
      refine ⟨k1, fun hn H locs cls hR hS hL => ?_⟩
      obtain ⟨o1, o2⟩ := okT_at hok hR.2.1
      exact w_putJ hx hb hts hown hK (in4_mem e2) (Nat.blt_eq.mp e3) (Nat.blt_eq.mp e4) o1 o2 hfin hd (by rw [e5, htg]) k2 hn H locs cls hR hS hL
    · obtain ⟨x, b, r, rfl, hrun⟩ := pRR_s hrun
      obtain ⟨hok, hrun⟩ := bif_s hrun
      obtain ⟨s2, hw, hrun⟩ := oS_s hrun
      obtain ⟨k1, k2⟩ := kont _ _ _ _ hrun
      refine ⟨k1, fun hn H locs cls hR hS hL => ?_⟩
      obtain ⟨o1, o2⟩ := okT_at hok hR.2.1
      exact w_putR hx hb hts hown hK (in4_mem e2) (Nat.blt_eq.mp e3) (Nat.blt_eq.mp e4) o1 o2 hfin hd (by rw [e5, htg]) (hwr _ _ _ _ _ hw) k2 hn H locs cls hR hS hL
    · obtain ⟨x, b, r, rfl, hrun⟩ := pIR_s hrun
      obtain ⟨hok, hrun⟩ := bif_s hrun
      simp only [Bool.and_eq_true] at hok
      obtain ⟨k1, k2⟩ := kont _ _ _ _ hrun
      refine ⟨k1, fun hn H locs cls hR hS hL => ?_⟩
      obtain ⟨o1, o2⟩ := okT_at hok.1 hR.2.1
      exact w_putI hx hb hts hown hK (in4_mem e2) (Nat.blt_eq.mp e3) (Nat.blt_eq.mp e4) o1 o2 hfin hd (Or.inr ⟨by rw [e5, htg], hok.2⟩) k2 hn H locs cls hR hS hL
    · obtain ⟨x, b, r, rfl, hrun⟩ := pIR_s hrun
      obtain ⟨hok, hrun⟩ := bif_s hrun
      obtain ⟨k1, k2⟩ := kont _ _ _ _ hrun
      refine ⟨k1, fun hn H locs cls hR hS hL => ?_⟩
      obtain ⟨o1, o2⟩ := okT_at hok hR.2.1
      have hle := ftT_le (ax a 0) (Nat.blt_eq.mp e3) (ax a 1) (Nat.blt_eq.mp e4)
      rw [e5] at hle
      have hz : ax a 2 = 0 := by
        have q1 : ax a 2 ≠ 1 := t1
        have q2 : ax a 2 ≠ 2 := t2
        have q3 : ax a 2 ≠ 3 := t3
        omega
      exact w_putI hx hb hts hown hK (in4_mem e2) (Nat.blt_eq.mp e3) (Nat.blt_eq.mp e4) o1 o2 hfin hd (Or.inl (by rw [e5, hz])) k2 hn H locs cls hR hS hL
  case arraylength =>
    have hchk : (Nat.beq len 1) = true := hchk
    obtain rfl := nbeq hchk
    obtain ⟨b, r, rfl, hrun⟩ := pR_s hrun
    obtain ⟨hok, hrun⟩ := bif_s hrun
    obtain ⟨k1, k2⟩ := kont _ _ _ _ hrun
    refine ⟨k1, fun hn H locs cls hR hS hL => ?_⟩
    simp only [Bool.and_eq_true, Bool.or_eq_true] at hok
    have hbl : b < h.1 := by
      rcases hok.2 with z | z
      · have := Nat.blt_eq.mp z
        have := hR.2.1
        omega
      · exact Nat.blt_eq.mp z
    exact w_alen hx hb hK (Nat.le_of_ble_eq_true hok.1) hbl hd k2 hn H locs cls hR hS hL
  case iaload =>
    have hchk : (Nat.beq len 1) = true := hchk
    obtain rfl := nbeq hchk
    obtain ⟨i, b, r, rfl, hrun⟩ := pIR_s hrun
    obtain ⟨hok, hrun⟩ := bif_s hrun
    obtain ⟨hin, hrun⟩ := if_s hrun
    obtain ⟨k1, k2⟩ := kont _ _ _ _ hrun
    refine ⟨k1, fun hn H locs cls hR hS hL => ?_⟩
    obtain ⟨o1, o2⟩ := okT_at hok hR.2.1
    exact w_iald hx hb hK o1 o2 hin hd k2 hn H locs cls hR hS hL
  case baload =>
    have hchk : (Nat.beq len 1) = true := hchk
    obtain rfl := nbeq hchk
    obtain ⟨i, b, r, rfl, hrun⟩ := pIR_s hrun
    obtain ⟨hok, hrun⟩ := bif_s hrun
    obtain ⟨hin, hrun⟩ := if_s hrun
    obtain ⟨k1, k2⟩ := kont _ _ _ _ hrun
    refine ⟨k1, fun hn H locs cls hR hS hL => ?_⟩
    obtain ⟨o1, o2⟩ := okT_at hok hR.2.1
    exact w_bald hx hb hK o1 o2 hin hd k2 hn H locs cls hR hS hL
  case aaload =>
    have hchk : (Nat.beq len 1) = true := hchk
    obtain rfl := nbeq hchk
    obtain ⟨i, b, r, rfl, hrun⟩ := pIR_s hrun
    obtain ⟨hok, hrun⟩ := bif_s hrun
    obtain ⟨hin, hrun⟩ := if_s hrun
    rcases oel_s hrun with ⟨hv, hrun⟩ | ⟨x, hv, hrun⟩
    · obtain ⟨k1, k2⟩ := kont _ _ _ _ hrun
      refine ⟨k1, fun hn H locs cls hR hS hL => ?_⟩
      rcases Bool.or_eq_true _ _ ▸ hok with z | z
      · obtain ⟨o1, o2⟩ := okT_at z hR.2.1
        exact w_aald hx hb hK (Or.inl o1) o2 hin hd (Or.inl ⟨hv, rfl⟩) k2 hn H locs cls hR hS hL
      · obtain ⟨o1, o2⟩ := okT_at z hR.2.1
        exact w_aald hx hb hK (Or.inr o1) o2 hin hd (Or.inl ⟨hv, rfl⟩) k2 hn H locs cls hR hS hL
    · obtain ⟨k1, k2⟩ := kont _ _ _ _ hrun
      refine ⟨k1, fun hn H locs cls hR hS hL => ?_⟩
      rcases Bool.or_eq_true _ _ ▸ hok with z | z
      · obtain ⟨o1, o2⟩ := okT_at z hR.2.1
        exact w_aald hx hb hK (Or.inl o1) o2 hin hd (Or.inr ⟨x, hv, rfl⟩) k2 hn H locs cls hR hS hL
      · obtain ⟨o1, o2⟩ := okT_at z hR.2.1
        exact w_aald hx hb hK (Or.inr o1) o2 hin hd (Or.inr ⟨x, hv, rfl⟩) k2 hn H locs cls hR hS hL
  case iastore =>
    have hchk : (Nat.beq len 1) = true := hchk
    obtain rfl := nbeq hchk
    obtain ⟨x, i, b, r, rfl, hrun⟩ := pIIR_s hrun
    obtain ⟨hok, hrun⟩ := bif_s hrun
    obtain ⟨hin, hrun⟩ := if_s hrun
    obtain ⟨k1, k2⟩ := kont _ _ _ _ hrun
    refine ⟨k1, fun hn H locs cls hR hS hL => ?_⟩
    simp only [Bool.and_eq_true] at hok
    obtain ⟨o1, o2⟩ := okT_at hok.1 hR.2.1
    exact w_iast hx hb hK o1 (Nat.le_of_ble_eq_true hok.2) o2 hin hd k2 hn H locs cls hR hS hL
  case bastore =>
    have hchk : (Nat.beq len 1) = true := hchk
    obtain rfl := nbeq hchk
    obtain ⟨x, i, b, r, rfl, hrun⟩ := pIIR_s hrun
    obtain ⟨hok, hrun⟩ := bif_s hrun
    obtain ⟨hin, hrun⟩ := if_s hrun
    obtain ⟨k1, k2⟩ := kont _ _ _ _ hrun
    refine ⟨k1, fun hn H locs cls hR hS hL => ?_⟩
    obtain ⟨o1, o2⟩ := okT_at hok hR.2.1
    exact w_bast hx hb hK o1 o2 hin hd k2 hn H locs cls hR hS hL
  case aastore =>
    have hchk : (Nat.beq len 1) = true := hchk
    obtain rfl := nbeq hchk
    obtain ⟨x, i, b, r, rfl, hrun⟩ := pRIR_s hrun
    obtain ⟨hok, hrun⟩ := bif_s hrun
    obtain ⟨hin, hrun⟩ := if_s hrun
    obtain ⟨s2, hw, hrun⟩ := oS_s hrun
    obtain ⟨k1, k2⟩ := kont _ _ _ _ hrun
    refine ⟨k1, fun hn H locs cls hR hS hL => ?_⟩
    simp only [Bool.and_eq_true] at hok
    obtain ⟨o1, o2⟩ := okT_at hok.1 hR.2.1
    obtain ⟨o3, o4⟩ := okT_at hok.2 hR.2.1
    exact w_aast hx hb hK o1 o2 o3 o4 hin hd (hwr _ _ _ _ _ hw) k2 hn H locs cls hR hS hL
  case new ix =>
    have hchk : (Nat.beq len 3 && (in3 ntab (mi M).1 ix (ax a 0) && Nat.blt (ax a 0) 13)) = true := hchk
    simp only [Bool.and_eq_true, decide_eq_true_eq] at hchk
    obtain ⟨e1, e2, e3⟩ := hchk
    obtain rfl := nbeq e1
    obtain ⟨hok, hrun⟩ := bif_s hrun
    obtain ⟨k1, k2⟩ := kont _ _ _ _ hrun
    have hk1 : h.1 + 1 ≤ h1.1 := k1
    have m1 := szs_le (gL G) hk1
    have g1 : h.1 + 1 - n0 ≤ R.cells := by omega
    have g2 : szs (gL G) (h.1 + 1) - szs (gL G) n0 ≤ R.slots := by omega
    exact ⟨by omega, w_new hx hb hts hown hK hs h5 (in3_mem e2) (Nat.blt_eq.mp e3) (nbeq hok) g1 g2 hd k2⟩
  case newarray t =>
    have hchk : (Nat.beq len 2 && ((Nat.beq (ax a 0) 0 && decide (t = .int)) || (Nat.beq (ax a 0) 1 && decide (t = .boolean)))) = true := hchk
    simp only [Bool.and_eq_true, decide_eq_true_eq] at hchk
    obtain ⟨e1, e2⟩ := hchk
    obtain rfl := nbeq e1
    obtain ⟨x, r, rfl, hrun⟩ := pI_s hrun
    obtain ⟨hok, hrun⟩ := bif_s hrun
    obtain ⟨k1, k2⟩ := kont _ _ _ _ hrun
    have hk1 : h.1 + 1 ≤ h1.1 := k1
    have m1 := szs_le (gL G) hk1
    have g1 : h.1 + 1 - n0 ≤ R.cells := by omega
    have g2 : szs (gL G) (h.1 + 1) - szs (gL G) n0 ≤ R.slots := by omega
    simp only [Bool.and_eq_true, decide_eq_true_eq] at hok
    refine ⟨by omega, w_newarr hx hb hts hK hs h5 (t := t) ?_ (nbeq hok.2.1) hok.2.2 g1 g2 hd k2⟩
    simp only [Bool.or_eq_true, Bool.and_eq_true, decide_eq_true_eq] at e2
    rcases e2 with ⟨z1, z2⟩ | ⟨z1, z2⟩
    · exact Or.inl ⟨by rw [nbeq hok.1, nbeq z1], z2⟩
    · exact Or.inr ⟨by rw [nbeq hok.1, nbeq z1], z2⟩
  case anewarray ix =>
    have hchk : (Nat.beq len 3 && in2 atab (mi M).1 ix) = true := hchk
    simp only [Bool.and_eq_true, decide_eq_true_eq] at hchk
    obtain ⟨e1, e2⟩ := hchk
    obtain rfl := nbeq e1
    obtain ⟨x, r, rfl, hrun⟩ := pI_s hrun
    obtain ⟨hok, hrun⟩ := bif_s hrun
    obtain ⟨k1, k2⟩ := kont _ _ _ _ hrun
    have hk1 : h.1 + 1 ≤ h1.1 := k1
    have m1 := szs_le (gL G) hk1
    have g1 : h.1 + 1 - n0 ≤ R.cells := by omega
    have g2 : szs (gL G) (h.1 + 1) - szs (gL G) n0 ≤ R.slots := by omega
    simp only [Bool.and_eq_true, decide_eq_true_eq] at hok
    exact ⟨by omega, w_anewarr hx hb hts hown hK hs h5 (in2_mem e2) (nbeq hok.1) (nbeq hok.2.1) hok.2.2 g1 g2 hd k2⟩
  case multianewarray ix dm =>
    have hchk : (Nat.beq len 4 && (in2 utab (mi M).1 ix && Nat.beq dm 2)) = true := hchk
    simp only [Bool.and_eq_true, decide_eq_true_eq] at hchk
    obtain ⟨e1, e2, e3⟩ := hchk
    obtain rfl := nbeq e1
    obtain rfl := nbeq e3
    obtain ⟨x, y, r, rfl, hrun⟩ := pII_s hrun
    obtain ⟨hok, hrun⟩ := bif_s hrun
    obtain ⟨s2, hw, hrun⟩ := oS_s hrun
    obtain ⟨k1, k2⟩ := kont _ _ _ _ hrun
    simp only [Bool.and_eq_true, decide_eq_true_eq] at hok
    have hk1 : h.1 + (1 + x.toNatClampNeg) ≤ h1.1 := k1
    have m1 := szs_le (gL G) hk1
    exact ⟨by omega, w_mna hwr hx hb hts hown hK hs h5 (in2_mem e2) (nbeq hok.1.1) (nbeq hok.1.2.1) hok.1.2.2 hok.2.1 hok.2.2 hw (by omega) (by omega) hd k2⟩
  case invokevirtual ix =>
    have hchk : (Nat.beq len 3 && (in4 ctab (mi M).1 ix (ax a 0) 0 && (chkC (mi M).2.2.2.2.2.2.1 (mi M).2.2.2.2.2.2.2 (ax a 0) (ax a 1) (ax a 2) (ax a 4) && (Nat.beq (mi (ax a 0)).1 (ax a 3) && (Nat.blt (ax a 3) 13 && Nat.blt 0 (ax a 1)))))) = true := hchk
    simp only [Bool.and_eq_true, decide_eq_true_eq] at hchk
    obtain ⟨e1, e2, e3, e4, e5, e6⟩ := hchk
    obtain rfl := nbeq e1
    obtain ⟨q1, q2, q3, q4, q5⟩ := okC e3
    obtain ⟨as, r, hst, hal, hcs, hca, hrun2⟩ := tkm_s hrun
    clear hrun
    obtain ⟨b, tl, rfl, hrun⟩ := hdR_s hrun2
    have hz := ct _ (in4_mem e2)
    unfold chkE at hz
    simp only [Bool.and_eq_true, decide_eq_true_eq, Bool.not_eq_true'] at hz
    obtain ⟨z1, z2⟩ := hz
    · obtain ⟨hok, hrun⟩ := bif_s hrun
      have hgood : CallGood (ax a 0) (.ref b :: tl) := ⟨q4, q5, by rw [q3]; exact hca⟩
      have hst2 : st = tl.reverse ++ .ref b :: r := by rw [hst]; simp
      subst hst2
      rcases t3_s hrun with hrun | hrun | hrun | hrun
      · obtain ⟨⟨v2, h2⟩, hr2, hrun⟩ := callM _ _ _ _ hrun
        obtain ⟨rfl, hrun⟩ := rV_s hrun
        obtain ⟨c1, c2⟩ := cont _ _ _ _ _ hgood hr2
        obtain ⟨k1, k2⟩ := kont _ _ _ _ hrun
        have k1 : h2.1 ≤ h1.1 := k1
        have m1 := szs_le (gL G) k1
        refine ⟨Nat.le_trans c1 k1, ?_⟩
        exact fun hn H locs cls hR hS hL => w_virt hx hb hml hts hown hK hs h5 (in4_mem e2) z1 z2 q1 (by rw [q2, hal]) (by rw [nbeq e4]; exact (okT_at hok hR.2.1).1) (okT_at hok hR.2.1).2 (by rw [nbeq e4]; exact Nat.blt_eq.mp e5) hcs c1 (by omega) (by omega) c2 hd k2 hn H locs cls hR hS hL
      · obtain ⟨⟨v2, h2⟩, hr2, hrun⟩ := callM _ _ _ _ hrun
        obtain ⟨x, rfl, hrun⟩ := rI_s hrun
        obtain ⟨c1, c2⟩ := cont _ _ _ _ _ hgood hr2
        obtain ⟨k1, k2⟩ := kont _ _ _ _ hrun
        have k1 : h2.1 ≤ h1.1 := k1
        have m1 := szs_le (gL G) k1
        refine ⟨Nat.le_trans c1 k1, ?_⟩
        exact fun hn H locs cls hR hS hL => w_virt hx hb hml hts hown hK hs h5 (in4_mem e2) z1 z2 q1 (by rw [q2, hal]) (by rw [nbeq e4]; exact (okT_at hok hR.2.1).1) (okT_at hok hR.2.1).2 (by rw [nbeq e4]; exact Nat.blt_eq.mp e5) hcs c1 (by omega) (by omega) c2 hd k2 hn H locs cls hR hS hL
      · obtain ⟨⟨v2, h2⟩, hr2, hrun⟩ := callM _ _ _ _ hrun
        obtain ⟨x, rfl, hrun⟩ := rJ_s hrun
        obtain ⟨c1, c2⟩ := cont _ _ _ _ _ hgood hr2
        obtain ⟨k1, k2⟩ := kont _ _ _ _ hrun
        have k1 : h2.1 ≤ h1.1 := k1
        have m1 := szs_le (gL G) k1
        refine ⟨Nat.le_trans c1 k1, ?_⟩
        exact fun hn H locs cls hR hS hL => w_virt hx hb hml hts hown hK hs h5 (in4_mem e2) z1 z2 q1 (by rw [q2, hal]) (by rw [nbeq e4]; exact (okT_at hok hR.2.1).1) (okT_at hok hR.2.1).2 (by rw [nbeq e4]; exact Nat.blt_eq.mp e5) hcs c1 (by omega) (by omega) c2 hd k2 hn H locs cls hR hS hL
      · obtain ⟨⟨v2, h2⟩, hr2, hrun⟩ := callM _ _ _ _ hrun
        obtain ⟨c1, c2⟩ := cont _ _ _ _ _ hgood hr2
        rcases rO_s hrun with ⟨rfl, hrun⟩ | ⟨x, rfl, hrun⟩
        · obtain ⟨k1, k2⟩ := kont _ _ _ _ hrun
          have k1 : h2.1 ≤ h1.1 := k1
          have m1 := szs_le (gL G) k1
          refine ⟨Nat.le_trans c1 k1, ?_⟩
          exact fun hn H locs cls hR hS hL => w_virt hx hb hml hts hown hK hs h5 (in4_mem e2) z1 z2 q1 (by rw [q2, hal]) (by rw [nbeq e4]; exact (okT_at hok hR.2.1).1) (okT_at hok hR.2.1).2 (by rw [nbeq e4]; exact Nat.blt_eq.mp e5) hcs c1 (by omega) (by omega) c2 hd k2 hn H locs cls hR hS hL
        · obtain ⟨k1, k2⟩ := kont _ _ _ _ hrun
          have k1 : h2.1 ≤ h1.1 := k1
          have m1 := szs_le (gL G) k1
          refine ⟨Nat.le_trans c1 k1, ?_⟩
          exact fun hn H locs cls hR hS hL => w_virt hx hb hml hts hown hK hs h5 (in4_mem e2) z1 z2 q1 (by rw [q2, hal]) (by rw [nbeq e4]; exact (okT_at hok hR.2.1).1) (okT_at hok hR.2.1).2 (by rw [nbeq e4]; exact Nat.blt_eq.mp e5) hcs c1 (by omega) (by omega) c2 hd k2 hn H locs cls hR hS hL
  case invokestatic ix =>
    rcases xk_s hrun with ⟨rfl, hrun⟩ | ⟨rfl, hrun⟩ | ⟨rfl, hrun⟩ | ⟨rfl, hrun⟩ | ⟨a0, a1, a2, a3, hrun⟩
    · have hchk : (Nat.beq len 3 && (in2 ytab (mi M).1 ix && (Nat.ble 1 (mi M).2.2.2.2.2.2.1 && Nat.ble 26 (mi M).2.2.2.2.2.2.2))) = true := hchk
      simp only [Bool.and_eq_true, decide_eq_true_eq] at hchk
      obtain ⟨e1, e2, e3, e4⟩ := hchk
      obtain rfl := nbeq e1
      obtain ⟨x, dp, b, sp, b0, r, rfl, hrun⟩ := pCpy_s hrun
      obtain ⟨hok, hrun⟩ := bif_s hrun
      obtain ⟨hin, hrun⟩ := if_s hrun
      obtain ⟨k1, k2⟩ := kont _ _ _ _ hrun
      simp only [Bool.and_eq_true] at hok
      have e3 := Nat.le_of_ble_eq_true e3
      have e4 := Nat.le_of_ble_eq_true e4
      refine ⟨k1, fun hn H locs cls hR hS hL => ?_⟩
      obtain ⟨o1, o2⟩ := okT_at hok.1 hR.2.1
      obtain ⟨o3, o4⟩ := okT_at hok.2.2.1 hR.2.1
      exact w_copy hx hb hml hts hown hK (by omega) (by omega) (in2_mem e2) o1 (Nat.le_of_ble_eq_true hok.2.1) o2 o3 (Nat.le_of_ble_eq_true hok.2.2.2.1) o4 (Nat.le_of_ble_eq_true hok.2.2.2.2) hin hd k2 hn H locs cls hR hS hL
    · have hchk : (Nat.beq len 3 && (in3 xtab (mi M).1 ix 1 && (Nat.ble 1 (mi M).2.2.2.2.2.2.1 && Nat.ble 21 (mi M).2.2.2.2.2.2.2))) = true := hchk
      simp only [Bool.and_eq_true, decide_eq_true_eq] at hchk
      obtain ⟨e1, e2, e3, e4⟩ := hchk
      obtain rfl := nbeq e1
      obtain ⟨x, y, r, rfl, hrun⟩ := pII_s hrun
      obtain ⟨hok, hrun⟩ := bif_s hrun
      obtain ⟨k1, k2⟩ := kont _ _ _ _ hrun
      have e3 := Nat.le_of_ble_eq_true e3
      have e4 := Nat.le_of_ble_eq_true e4
      have m1 := szs_le (gL G) k1
      exact ⟨k1, w_max hx hb hml hts hown (by omega) (by omega) (in3_mem e2) (Nat.le_of_ble_eq_true hok) (by omega) (by omega) hd k2⟩
    · have hchk : (Nat.beq len 3 && (in3 xtab (mi M).1 ix 2 && (Nat.ble 1 (mi M).2.2.2.2.2.2.1 && Nat.ble 21 (mi M).2.2.2.2.2.2.2))) = true := hchk
      simp only [Bool.and_eq_true, decide_eq_true_eq] at hchk
      obtain ⟨e1, e2, e3, e4⟩ := hchk
      obtain rfl := nbeq e1
      obtain ⟨x, y, r, rfl, hrun⟩ := pII_s hrun
      obtain ⟨hok, hrun⟩ := bif_s hrun
      obtain ⟨k1, k2⟩ := kont _ _ _ _ hrun
      have e3 := Nat.le_of_ble_eq_true e3
      have e4 := Nat.le_of_ble_eq_true e4
      have m1 := szs_le (gL G) k1
      exact ⟨k1, w_min hx hb hml hts hown (by omega) (by omega) (in3_mem e2) (Nat.le_of_ble_eq_true hok) (by omega) (by omega) hd k2⟩
    · have hchk : (Nat.beq len 3 && (in3 xtab (mi M).1 ix 3 && (Nat.ble 1 (mi M).2.2.2.2.2.2.1 && Nat.ble 21 (mi M).2.2.2.2.2.2.2))) = true := hchk
      simp only [Bool.and_eq_true, decide_eq_true_eq] at hchk
      obtain ⟨e1, e2, e3, e4⟩ := hchk
      obtain rfl := nbeq e1
      obtain ⟨x, r, rfl, hrun⟩ := pI_s hrun
      obtain ⟨hok, hrun⟩ := bif_s hrun
      obtain ⟨k1, k2⟩ := kont _ _ _ _ hrun
      have e3 := Nat.le_of_ble_eq_true e3
      have e4 := Nat.le_of_ble_eq_true e4
      have m1 := szs_le (gL G) k1
      exact ⟨k1, w_abs hx hb hml hts hown (by omega) (by omega) (in3_mem e2) (Nat.le_of_ble_eq_true hok) (by omega) (by omega) hd k2⟩
    · have hchk2 : (Nat.beq len 3 && ((in4 ctab (mi M).1 ix (ax a 0) 1 || in4 ctab (mi M).1 ix (ax a 0) 3) && chkC (mi M).2.2.2.2.2.2.1 (mi M).2.2.2.2.2.2.2 (ax a 0) (ax a 1) (ax a 2) (ax a 4))) = true := by
        revert hchk
        unfold chkI
        dsimp only
        split
        · exact absurd rfl a0
        · exact absurd rfl a1
        · exact absurd rfl a2
        · exact absurd rfl a3
        · exact id
      clear hchk
      simp only [Bool.and_eq_true, Bool.or_eq_true] at hchk2
      obtain ⟨e1, e2, e3⟩ := hchk2
      obtain rfl := nbeq e1
      obtain ⟨q1, q2, q3, q4, q5⟩ := okC e3
      obtain ⟨as, r, rfl, hal, hcs, hca, hrun⟩ := tkm_s hrun
      have hgood : CallGood (ax a 0) as := ⟨q4, q5, by rw [q3]; exact hca⟩
      have e2 : ((mi M).1, ix, ax a 0, 1) ∈ ctab ∨ ((mi M).1, ix, ax a 0, 3) ∈ ctab := e2.imp in4_mem in4_mem
      have hz : ax a 0 ∈ statM ∧ isSt (ax a 0) statM = true := by
        rcases e2 with z | z <;> (have hz := ct _ z; unfold chkE at hz; simpa using hz)
      obtain ⟨z1, z2⟩ := hz
      rcases t3_s hrun with hrun | hrun | hrun | hrun
      · obtain ⟨⟨v2, h2⟩, hr2, hrun⟩ := callM _ _ _ _ hrun
        obtain ⟨rfl, hrun⟩ := rV_s hrun
        obtain ⟨c1, c2⟩ := cont _ _ _ _ _ hgood hr2
        obtain ⟨k1, k2⟩ := kont _ _ _ _ hrun
        have k1 : h2.1 ≤ h1.1 := k1
        have m1 := szs_le (gL G) k1
        refine ⟨Nat.le_trans c1 k1, ?_⟩
        exact w_stat hx hb hml hts hown hK hs h5 e2 z1 z2 q1 (by rw [q2, hal]) hcs c1 (by omega) (by omega) c2 hd k2
      · obtain ⟨⟨v2, h2⟩, hr2, hrun⟩ := callM _ _ _ _ hrun
        obtain ⟨x, rfl, hrun⟩ := rI_s hrun
        obtain ⟨c1, c2⟩ := cont _ _ _ _ _ hgood hr2
        obtain ⟨k1, k2⟩ := kont _ _ _ _ hrun
        have k1 : h2.1 ≤ h1.1 := k1
        have m1 := szs_le (gL G) k1
        refine ⟨Nat.le_trans c1 k1, ?_⟩
        exact w_stat hx hb hml hts hown hK hs h5 e2 z1 z2 q1 (by rw [q2, hal]) hcs c1 (by omega) (by omega) c2 hd k2
      · obtain ⟨⟨v2, h2⟩, hr2, hrun⟩ := callM _ _ _ _ hrun
        obtain ⟨x, rfl, hrun⟩ := rJ_s hrun
        obtain ⟨c1, c2⟩ := cont _ _ _ _ _ hgood hr2
        obtain ⟨k1, k2⟩ := kont _ _ _ _ hrun
        have k1 : h2.1 ≤ h1.1 := k1
        have m1 := szs_le (gL G) k1
        refine ⟨Nat.le_trans c1 k1, ?_⟩
        exact w_stat hx hb hml hts hown hK hs h5 e2 z1 z2 q1 (by rw [q2, hal]) hcs c1 (by omega) (by omega) c2 hd k2
      · obtain ⟨⟨v2, h2⟩, hr2, hrun⟩ := callM _ _ _ _ hrun
        obtain ⟨c1, c2⟩ := cont _ _ _ _ _ hgood hr2
        rcases rO_s hrun with ⟨rfl, hrun⟩ | ⟨x, rfl, hrun⟩
        · obtain ⟨k1, k2⟩ := kont _ _ _ _ hrun
          have k1 : h2.1 ≤ h1.1 := k1
          have m1 := szs_le (gL G) k1
          refine ⟨Nat.le_trans c1 k1, ?_⟩
          exact w_stat hx hb hml hts hown hK hs h5 e2 z1 z2 q1 (by rw [q2, hal]) hcs c1 (by omega) (by omega) c2 hd k2
        · obtain ⟨k1, k2⟩ := kont _ _ _ _ hrun
          have k1 : h2.1 ≤ h1.1 := k1
          have m1 := szs_le (gL G) k1
          refine ⟨Nat.le_trans c1 k1, ?_⟩
          exact w_stat hx hb hml hts hown hK hs h5 e2 z1 z2 q1 (by rw [q2, hal]) hcs c1 (by omega) (by omega) c2 hd k2
  case invokespecial ix =>
    rcases nk_s hrun with ⟨rfl, hrun⟩ | ⟨a0, hrunB⟩
    · have hchk : (Nat.beq len 3 && (in2 otab (mi M).1 ix && (Nat.ble 1 (mi M).2.2.2.2.2.2.1 && Nat.ble 20 (mi M).2.2.2.2.2.2.2))) = true := hchk
      simp only [Bool.and_eq_true, decide_eq_true_eq] at hchk
      obtain ⟨e1, e2, e3, e4⟩ := hchk
      obtain rfl := nbeq e1
      obtain ⟨b, r, rfl, hrun⟩ := pR_s hrun
      obtain ⟨hok, hrun⟩ := bif_s hrun
      obtain ⟨k1, k2⟩ := kont _ _ _ _ hrun
      have e3 := Nat.le_of_ble_eq_true e3
      have e4 := Nat.le_of_ble_eq_true e4
      exact ⟨k1, w_objInit hx hb hml hts hown (by omega) (by omega) (in2_mem e2) (Nat.le_of_ble_eq_true hok) hd k2⟩
    · have hchk2 : (Nat.beq len 3 && ((in4 ctab (mi M).1 ix (ax a 0) 2 || in4 ctab (mi M).1 ix (ax a 0) 4) && (chkC (mi M).2.2.2.2.2.2.1 (mi M).2.2.2.2.2.2.2 (ax a 0) (ax a 1) 0 (ax a 4) && Nat.blt 0 (ax a 1)))) = true := by
        revert hchk
        unfold chkI
        dsimp only
        split
        · exact absurd rfl a0
        · exact id
      clear hchk
      simp only [Bool.and_eq_true, Bool.or_eq_true] at hchk2
      obtain ⟨e1, e2, e3, e4⟩ := hchk2
      obtain rfl := nbeq e1
      obtain ⟨q1, q2, q3, q4, q5⟩ := okC e3
      clear hrun
      obtain ⟨as, r, hst, hal, hcs, hca, hrun2⟩ := tkm_s hrunB
      clear hrunB
      obtain ⟨b, tl, rfl, hrun⟩ := hdR_s hrun2
      have e2 : ((mi M).1, ix, ax a 0, 2) ∈ ctab ∨ ((mi M).1, ix, ax a 0, 4) ∈ ctab := e2.imp in4_mem in4_mem
      have hz : ax a 0 ∈ specM ∧ isSt (ax a 0) statM = false ∧ (yM (ax a 0)).name = "<init>" ∧ (mi (ax a 0)).2.2.2.2.1 = none := by
        rcases e2 with z | z <;> (have hz := ct _ z; unfold chkE at hz; simpa using hz)
      obtain ⟨z1, z2, z3, z4⟩ := hz
      · have hgood : CallGood (ax a 0) (.ref b :: tl) := ⟨q4, q5, by rw [q3]; exact hca⟩
        have hst2 : st = tl.reverse ++ .ref b :: r := by rw [hst]; simp
        subst hst2
        obtain ⟨⟨v2, h2⟩, hr2, hrun⟩ := callM _ _ _ _ hrun
        obtain ⟨rfl, hrun⟩ := rV_s hrun
        obtain ⟨c1, c2⟩ := cont _ _ _ _ _ hgood hr2
        obtain ⟨k1, k2⟩ := kont _ _ _ _ hrun
        have k1 : h2.1 ≤ h1.1 := k1
        have m1 := szs_le (gL G) k1
        exact ⟨Nat.le_trans c1 k1, w_spec hx hb hml hts hown hK hs h5 e2 z1 z2 z3 z4 q1 (by rw [q2, hal]) hcs c1 (by omega) (by omega) c2 hd k2⟩
  case ireturn =>
    obtain ⟨x, rfl, hrun⟩ := r1I_s hrun
    obtain ⟨hok, hrun⟩ := bif_s hrun
    cases hrun
    refine ⟨Nat.le_refl _, hend pc ls _ hmem (Or.inl ⟨rfl, x, rfl, ?_⟩)⟩
    rcases Bool.or_eq_true _ _ ▸ hok with z | z
    · exact Or.inl (nbeq z)
    · exact Or.inr z
  case lreturn =>
    obtain ⟨x, rfl, hrun⟩ := r1J_s hrun
    cases hrun
    exact ⟨Nat.le_refl _, hend pc ls _ hmem (Or.inr (Or.inl ⟨rfl, _, rfl⟩))⟩
  case areturn =>
    rcases r1O_s hrun with ⟨rfl, hrun⟩ | ⟨x, rfl, hrun⟩
    · cases hrun
      exact ⟨Nat.le_refl _, hend pc ls _ hmem (Or.inr (Or.inr (Or.inl ⟨rfl, Or.inl rfl⟩)))⟩
    · cases hrun
      exact ⟨Nat.le_refl _, hend pc ls _ hmem (Or.inr (Or.inr (Or.inl ⟨rfl, Or.inr ⟨_, rfl⟩⟩)))⟩
  case return_ =>
    obtain ⟨rfl, hrun⟩ := r0_s hrun
    cases hrun
    exact ⟨Nat.le_refl _, hend pc ls _ hmem (Or.inr (Or.inr (Or.inr ⟨rfl, rfl⟩)))⟩
  all_goals (have hz : (none : Option (Option Value × Hp S)) = some (v, h1) := hrun; cases hz)
end STEP
end
section
/-! a run of the abstract machine is a run of the machine -/
theorem lk_mem : ∀ {l : List (Nat × AI)} {pc : Nat} {ai : AI}, lk l pc = some ai → (pc, ai) ∈ l
  | [], _, _, h => by cases h
  | (q, a) :: t, pc, ai, h => by
    unfold lk at h
    cases hq : Nat.beq q pc with
    | true =>
      rw [hq] at h
      cases h
      rw [nbeq hq]
      exact List.mem_cons_self
    | false =>
      rw [hq] at h
      exact List.mem_cons_of_mem _ (lk_mem h)
theorem gl_rep : ∀ (n i : Nat), gl (List.replicate n none) i = none
  | 0, _ => rfl
  | _ + 1, 0 => rfl
  | n + 1, i + 1 => gl_rep n i
theorem gl_pad : ∀ (l : LV) (n i : Nat), gl (padT l n) i = gl l i
  | [], n, i => gl_rep n i
  | _ :: _, 0, _ => rfl
  | _ :: _, _ + 1, 0 => rfl
  | _ :: t, n + 1, i + 1 => gl_pad t n i
theorem ents_args (G : Gx) : ∀ (as : List Value) (k i : Nat) (v : Value), gl (ents as) i = some v → (k + i, phv G v) ∈ lv_args k (as.map (phv G))
  | [], k, i, v, h => by cases h
  | w :: r, k, i, v, h => by
    show (k + i, phv G v) ∈ (k, phv G w) :: lv_args (if (phv G w).category = 2 then k + 2 else k + 1) (r.map (phv G))
    cases w
    case long x =>
      match i, h with
      | 0, h => cases h; exact List.mem_cons_self
      | 1, h => cases h
      | i + 2, h =>
        have := ents_args G r (k + 2) i v h
        rw [show k + (i + 2) = k + 2 + i by omega]
        exact List.mem_cons_of_mem _ this
    case double x =>
      match i, h with
      | 0, h => cases h; exact List.mem_cons_self
      | 1, h => cases h
      | i + 2, h =>
        have := ents_args G r (k + 2) i v h
        rw [show k + (i + 2) = k + 2 + i by omega]
        exact List.mem_cons_of_mem _ this
    all_goals
      match i, h with
      | 0, h => cases h; exact List.mem_cons_self
      | i + 1, h =>
        have := ents_args G r (k + 1) i v h
        rw [show k + (i + 1) = k + 1 + i by omega]
        exact List.mem_cons_of_mem _ this
theorem lg_len (G : Gx) : ∀ as : List Value, (lg_sl (as.map (phv G))).length = csum as
  | [] => rfl
  | v :: r => by
    have := lg_len G r
    unfold lg_sl at this ⊢
    simp only [List.map_cons, List.flatMap_cons, List.length_append]
    rw [this, phv_cat]
    show _ = v.category + csum r
    rcases lv_cat v with h | h
    · rw [if_neg (by omega), h]; rfl
    · rw [if_pos h, h]; rfl
section MAIN
variable {S : Type} {rd : S → Nat → Nat → Option Nat} {wr : S → Nat → Nat → Nat → Option S} {G : Gx} {l : Launch}
def SndAt (rd : S → Nat → Nat → Option Nat) (wr : S → Nat → Nat → Nat → Option S) (G : Gx) (l : Launch) (n : Nat) : Prop := ∀ (M pc : Nat) (ls : LV) (st : List Value) (h : Hp S) (v : Option Value) (h1 : Hp S), run cdT (gL G) (gX G) (gT G) rd wr n M pc ls st h = some (v, h1) →
  ∀ (p : Program) (e : Env) (R : Room) (s : State) (m : MethodId) (args : Array Value) (below : List Frame) (meth : Method) (c : Code) (n0 : Nat) (Q : State → Prop), Cx G p R s m args meth c n0 M → h1.1 - n0 ≤ R.cells → szs (gL G) h1.1 - szs (gL G) n0 ≤ R.slots →
  (∀ (pc : Nat) (ls : LV) (ai : AI), (pc, ai) ∈ cdT M → retOK ai v → Wst rd G p l e R s m args below meth c n0 (mi M).2.2.2.1 Q h1 pc ls v.toList) → Wst rd G p l e R s m args below meth c n0 (mi M).2.2.2.1 Q h pc ls st
set_option maxHeartbeats 4000000 in
theorem met_of {n : Nat} (ih : SndAt rd wr G l n) {M : Nat} {as : List Value} {h h' : Hp S} {v : Option Value} (hg : CallGood M as) (hrun : run cdT (gL G) (gX G) (gT G) rd wr n M 0 (entm M as) [] h = some (v, h')) : MetC rd G l M as h v h' := by
  obtain ⟨g1, g2, g3⟩ := hg
  obtain ⟨a1, a2, a3, a4, a5, a6⟩ := chkN_at g2 (ckN_all M g1)
  have hle := run_n n M 0 (entm M as) [] h _ hrun
  unfold MetC
  refine Met.ofW (cc := (mi M).2.2.1) (maxL := (mi M).2.2.2.1) (ret := (mi M).2.2.2.2.1) a1 rfl ?_
  intro p e s m args below meth c s₁ B hml hv
  obtain ⟨rfl, hK, hR, hsz⟩ := hv
  have hr := B.returns
  have hlocks := B.notSynchronized
  have hts := atoms_spec (ws := codeW (mi M) :: WL) B.pre
  have hown : s.vm.findClass (own (mi M).1) = some m.cls := by rw [← a4]; exact findClass_of_methodNamed B.named
  have hname : meth.name = (yM M).name := (name_of_methodNamed B.named B.method).1
  have C : Cx G p (headSpec (codeW (mi M) :: WL) (rmc G M h h')).room s m (as.map (phv G)).toArray meth c h.1 M := ⟨B.exec, B.bytes, hml, hown, fun w hw => hts w (List.mem_cons_of_mem _ hw), Nat.le_refl _, Nat.le_refl _, fun q => by rw [hname]; exact q, hK, hsz, hR.1, ckM_all M (by omega)⟩
  have hl := lv_entry (as.map (phv G)) (n := (mi M).2.2.2.1) (by rw [lg_len]; exact g3)
  rw [lg_entry_eq]
  generalize (lg_sl (as.map (phv G)) ++ List.replicate ((mi M).2.2.2.1 - (lg_sl (as.map (phv G))).length) Slot.unset).toArray = cls at hl ⊢
  have hL : LRel G cls (mi M).2.2.2.1 (entm M as) := ⟨hl.1, hl.2.1, fun i w hw => by
    unfold entm at hw
    rw [gl_pad] at hw
    have := ents_args G as 0 i w hw
    rw [Nat.zero_add] at this
    exact hl.2.2 _ this⟩
  have K := ih M 0 (entm M as) [] h v h' hrun p e _ s m _ below meth c h.1 (MQ below (Qcc rd G v h') (as.map (phv G)).toArray s (h'.1 - h.1) (szs (gL G) h'.1 - szs (gL G) h.1) (AA G)) C (Nat.le_refl _) (Nat.le_refl _) (fun pc ls ai hmem hret => ?_) (Nat.le_refl _) s.heap [] cls hR va_S.rf hL
  · exact W.cs (by omega) (by omega) K
  · intro hn H locs cls' hR' hS hL'
    have hq := ckM_all M (by omega) _ hmem
    unfold chkQ at hq
    simp only [Bool.and_eq_true, decide_eq_true_eq] at hq
    obtain ⟨hd, hchk⟩ := hq
    obtain ⟨i, len, a, sw⟩ := ai
    rcases hret with ⟨rfl, x, rfl, hx⟩ | ⟨rfl, x, rfl⟩ | ⟨rfl, hx⟩ | ⟨rfl, rfl⟩
    · unfold chkI at hchk
      simp only [Bool.and_eq_true, Bool.or_eq_true, decide_eq_true_eq] at hchk
      obtain ⟨e1, e2⟩ := hchk
      obtain rfl := nbeq e1
      rcases e2 with ⟨z1, z2⟩ | ⟨z1, z2⟩
      · exact W.iret B.exec B.bytes (by rw [hr, z2]) (fun t ht _ => ⟨rfl, by rw [ht]; exact hR', hS.F ht⟩) hS.2.2 hd
      · have hb : x = 0 ∨ x = 1 := by
          rcases hx with q | q
          · have : ax a 0 = 0 := q
            rw [nbeq z1] at this
            omega
          · unfold b01 at q
            simpa using q
        refine W.zret B.exec B.bytes (by rw [hr, z2]) ?_ (fun t ht _ => ⟨rfl, by rw [ht]; exact hR', hS.F ht⟩) hS.2.2 hd
        rcases hb with rfl | rfl <;> decide
    · unfold chkI at hchk
      simp only [Bool.and_eq_true, decide_eq_true_eq] at hchk
      obtain ⟨e1, e2⟩ := hchk
      obtain rfl := nbeq e1
      exact W.lret B.exec B.bytes (by rw [hr, e2]) (fun t ht _ => ⟨rfl, by rw [ht]; exact hR', hS.F ht⟩) hS.2.2 hd
    · unfold chkI at hchk
      simp only [Bool.and_eq_true, decide_eq_true_eq] at hchk
      obtain ⟨e1, e2⟩ := hchk
      obtain rfl := nbeq e1
      rcases hx with rfl | ⟨x, rfl⟩
      · exact W.aret (v := .null) (rt := .object "DryLand$Line") B.exec B.bytes (by rw [hr, e2]) (Or.inl ⟨_, rfl⟩) (Or.inl rfl) (fun t ht _ => ⟨rfl, by rw [ht]; exact hR', hS.F ht⟩) hS.2.2 hd
      · exact W.aret (v := .ref (phi G x)) (rt := .object "DryLand$Line") B.exec B.bytes (by rw [hr, e2]) (Or.inl ⟨_, rfl⟩) (Or.inr ⟨_, rfl⟩) (fun t ht _ => ⟨rfl, by rw [ht]; exact hR', hS.F ht⟩) hS.2.2 hd
    · unfold chkI at hchk
      simp only [Bool.and_eq_true, decide_eq_true_eq] at hchk
      obtain ⟨e1, e2⟩ := hchk
      obtain rfl := nbeq e1
      exact W.vret B.exec B.bytes (by rw [hr, e2]) (fun t ht _ => ⟨rfl, by rw [ht]; exact hR', hS.F ht⟩) hS.2.2 hd
/-- soundness -/
theorem snd_all (hwr : ∀ (r : S) (a i v : Nat) (r' : S), wr r a i v = some r' → ∀ b j, rd r' b j = if b = a ∧ j = i then some v else rd r b j) : ∀ n : Nat, SndAt rd wr G l n := by
  intro n
  induction n with
  | zero => intro M pc ls st h v h1 hrun; cases hrun
  | succ n ih =>
    intro M pc ls st h v h1 hrun p e R s m args below meth c n0 Q C hcl hsl hend
    rw [run] at hrun
    cases hlk : lk (cdT M) pc with
    | none => rw [hlk] at hrun; cases hrun
    | some ai =>
      rw [hlk] at hrun
      dsimp only at hrun
      exact (step_sound hwr C hcl hsl (fun pc ls st h hr => ⟨run_n n M pc ls st h _ hr, ih M pc ls st h v h1 hr p e R s m args below meth c n0 Q C hcl hsl hend⟩)
        (fun M' as h v' h' hg hr => ⟨run_n n M' 0 _ [] h _ hr, met_of ih hg hr⟩) hend (lk_mem hlk) hrun).2
/-- a method's contract out of what the abstract machine comes to -/
theorem met_ev (hwr : ∀ (r : S) (a i v : Nat) (r' : S), wr r a i v = some r' → ∀ b j, rd r' b j = if b = a ∧ j = i then some v else rd r b j) {M : Nat} {as : List Value} {h : Hp S} {P : Option Value → Hp S → Prop} (hg : CallGood M as) (he : Ev cdT (gL G) (gX G) (gT G) rd wr M 0 (entm M as) [] h P) : ∃ v h', P v h' ∧ h.1 ≤ h'.1 ∧ MetC rd G l M as h v h' := by
  obtain ⟨n, v, h', hr, hp⟩ := he
  exact ⟨v, h', hp, run_n n M 0 _ [] h _ hr, met_of (snd_all hwr n) hg hr⟩
end MAIN
end
section
/-! the machine behind the constructors: 137 cells stand, Act.lines is the only row of references that changes -/
abbrev LN : Type := Nat → Option Nat
abbrev H2 : Type := Hp LN
def rd2 (ln : LN) (a i : Nat) : Option Nat := bif Nat.beq a 18 then ln i else Rc a i
def wr2 (ln : LN) (a i v : Nat) : Option LN := bif Nat.beq a 18 then some (fun j => if j = i then some v else ln j) else none
theorem hwr2 : ∀ (r : LN) (a i v : Nat) (r' : LN), wr2 r a i v = some r' → ∀ b j, rd2 r' b j = if b = a ∧ j = i then some v else rd2 r b j := by
  intro r a i v r' h b j
  unfold wr2 at h
  cases hq : Nat.beq a 18 with
  | false => rw [hq] at h; cases h
  | true =>
    rw [hq] at h
    cases h
    obtain rfl := nbeq hq
    unfold rd2
    cases hb : Nat.beq b 18 with
    | true =>
      obtain rfl := nbeq hb
      by_cases e : j = i
      · rw [if_pos ⟨rfl, e⟩]
        show (if j = i then some v else r j) = some v
        rw [if_pos e]
      · rw [if_neg (fun z => e z.2)]
        show (if j = i then some v else r j) = r j
        rw [if_neg e]
    | false =>
      have : b ≠ 18 := fun z => by rw [z] at hb; cases hb
      rw [if_neg (fun z => this z.1)]
      rfl
abbrev XS : Type := Nat × (Nat → Int32)
abbrev E (X : XS) (M pc : Nat) (ls : LV) (st : List Value) (h : H2) (Q : Option Value → H2 → Prop) : Prop := Ev cdT X.1 X.2 137 rd2 wr2 M pc ls st h Q
abbrev EC (X : XS) (M : Nat) (as : List Value) (h : H2) (Q : Option Value → H2 → Prop) : Prop := Ev cdT X.1 X.2 137 rd2 wr2 M 0 (entm M as) [] h Q
abbrev cI (X : XS) (M : Nat) (as : List Value) (h : H2) (f : Int32 → H2 → Prop) : Prop := EC X M as h (fun v h1 => rI v False fun x => f x h1)
abbrev cJ (X : XS) (M : Nat) (as : List Value) (h : H2) (f : Int64 → H2 → Prop) : Prop := EC X M as h (fun v h1 => rJ v False fun x => f x h1)
abbrev cV (X : XS) (M : Nat) (as : List Value) (h : H2) (f : H2 → Prop) : Prop := EC X M as h (fun v h1 => rV v False (f h1))
abbrev cO (X : XS) (M : Nat) (as : List Value) (h : H2) (fn : H2 → Prop) (f : Nat → H2 → Prop) : Prop := EC X M as h (fun v h1 => rO v False (fn h1) fun x => f x h1)
def hg (h : H2) (a i : Nat) : Int32 := h.2.1 a i
def gJ (h : H2) (a i : Nat) : Int64 := h.2.2.1 a i
def sI (h : H2) (a i : Nat) (x : Int32) : H2 := hI h a (upd (h.2.1 a) i x)
def sJ (h : H2) (a i : Nat) (x : Int64) : H2 := hJ h a i x
def sL (h : H2) (i v : Nat) : H2 := (h.1, h.2.1, h.2.2.1, fun j => if j = i then some v else h.2.2.2 j)
def sC (h : H2) (a a0 sp dp n : Nat) : H2 := hI h a (va_cpy (h.2.1 a0) (h.2.1 a) sp dp n)
end
section
/-! the constructors: an instance in which references are laid in a known order -/
def fnd : List (Nat × Nat × Nat) → Nat → Nat → Option Nat
  | [], _, _ => none
  | (x, y, v) :: t, a, i => match fnd t a i with
    | some w => some w
    | none => bif Nat.beq x a && Nat.beq y i then some v else none
def rd1 (c a i : Nat) : Option Nat := fnd (Rw.take c) a i
def gt3 : List (Nat × Nat × Nat) → Nat → Option (Nat × Nat × Nat)
  | [], _ => none
  | x :: _, 0 => some x
  | _ :: t, n + 1 => gt3 t n
def wr1 (c a i v : Nat) : Option Nat := match gt3 Rw c with
  | some (x, y, w) => bif Nat.beq x a && (Nat.beq y i && Nat.beq w v) then some (c + 1) else none
  | none => none
theorem gt3_take : ∀ (l : List (Nat × Nat × Nat)) (c : Nat) (e : Nat × Nat × Nat), gt3 l c = some e → l.take (c + 1) = l.take c ++ [e]
  | [], _, _, h => by cases h
  | x :: t, 0, e, h => by
    cases h
    rfl
  | x :: t, c + 1, e, h => by
    show x :: t.take (c + 1) = (x :: t.take c) ++ [e]
    rw [gt3_take t c e h]
    rfl
theorem fnd_app : ∀ (l : List (Nat × Nat × Nat)) (x y v a i : Nat), fnd (l ++ [(x, y, v)]) a i = if a = x ∧ i = y then some v else fnd l a i
  | [], x, y, v, a, i => by
    show (match fnd [] a i with
      | some w => some w
      | none => bif Nat.beq x a && Nat.beq y i then some v else none) = _
    show (bif Nat.beq x a && Nat.beq y i then some v else none) = _
    by_cases h : a = x ∧ i = y
    · rw [if_pos h, h.1, h.2]
      simp
    · rw [if_neg h]
      have : (Nat.beq x a && Nat.beq y i) = false := by
        cases hq : (Nat.beq x a && Nat.beq y i) with
        | false => rfl
        | true =>
          simp only [Bool.and_eq_true] at hq
          exact absurd ⟨(nbeq hq.1).symm, (nbeq hq.2).symm⟩ h
      rw [this]
      rfl
  | (x', y', v') :: t, x, y, v, a, i => by
    show (match fnd (t ++ [(x, y, v)]) a i with
      | some w => some w
      | none => bif Nat.beq x' a && Nat.beq y' i then some v' else none) = _
    rw [fnd_app t x y v a i]
    by_cases h : a = x ∧ i = y
    · rw [if_pos h, if_pos h]
    · rw [if_neg h, if_neg h]
      rfl
theorem hwr1 : ∀ (r a i v r' : Nat), wr1 r a i v = some r' → ∀ b j, rd1 r' b j = if b = a ∧ j = i then some v else rd1 r b j := by
  intro r a i v r' h b j
  unfold wr1 at h
  cases hq : gt3 Rw r with
  | none => rw [hq] at h; cases h
  | some e =>
    obtain ⟨x, y, w⟩ := e
    rw [hq] at h
    obtain ⟨h1, h2⟩ := bif_s h
    cases h2
    simp only [Bool.and_eq_true] at h1
    obtain rfl := nbeq h1.1
    obtain rfl := nbeq h1.2.1
    obtain rfl := nbeq h1.2.2
    unfold rd1
    rw [gt3_take Rw r _ hq, fnd_app]
abbrev E1 (X : XS) (M pc : Nat) (ls : LV) (st : List Value) (h : Hp Nat) (Q : Option Value → Hp Nat → Prop) : Prop := Ev cdT X.1 X.2 0 rd1 wr1 M pc ls st h Q
abbrev EC1 (X : XS) (M : Nat) (as : List Value) (h : Hp Nat) (Q : Option Value → Hp Nat → Prop) : Prop := Ev cdT X.1 X.2 0 rd1 wr1 M 0 (entm M as) [] h Q
def sU (I : Nat → Nat → Int32) (a i : Nat) (x : Int32) : Nat → Nat → Int32 := upR I a (upd (I a) i x)

set_option maxRecDepth 100000 in
set_option maxHeartbeats 4000000 in
theorem k76 (X : XS) (I : Nat → Nat → Int32) (J : Nat → Nat → Int64) (Q : Option Value → Hp Nat → Prop) : EC1 X 76 [.ref 6] (7, I, J, 0) Q ↔ Q none (15, sU (sU (sU (sU I 12 ((0 : Int32)).toNatClampNeg (-1 : Int32)) 12 ((1 : Int32)).toNatClampNeg (-1 : Int32)) 12 ((2 : Int32)).toNatClampNeg (-1 : Int32)) 12 ((3 : Int32)).toNatClampNeg (-1 : Int32), J, 8) := wp_iff (cm := cd76) rfl (stops := []) 1000 0 _ _ _
set_option maxRecDepth 100000 in
set_option maxHeartbeats 4000000 in
theorem k66 (X : XS) (I : Nat → Nat → Int32) (J : Nat → Nat → Int64) (Q : Option Value → Hp Nat → Prop) : EC1 X 66 [.ref 15] (16, I, J, 9) Q ↔ Q none (17, I, J, 10) := wp_iff (cm := cd66) rfl (stops := []) 1000 0 _ _ _
set_option maxRecDepth 100000 in
set_option maxHeartbeats 4000000 in
theorem k0 (X : XS) (I : Nat → Nat → Int32) (J : Nat → Nat → Int64) (Q : Option Value → Hp Nat → Prop) : EC1 X 0 [.ref 17] (18, I, J, 11) Q ↔ Q none (19, I, J, 12) := wp_iff (cm := cd0) rfl (stops := []) 1000 0 _ _ _
set_option maxRecDepth 100000 in
set_option maxHeartbeats 4000000 in
theorem k99 (X : XS) (I : Nat → Nat → Int32) (J : Nat → Nat → Int64) (Q : Option Value → Hp Nat → Prop) : EC1 X 99 [.ref 19] (20, I, J, 13) Q ↔ Q none (29, I, J, 22) := wp_iff (cm := cd99) rfl (stops := []) 1000 0 _ _ _
set_option maxRecDepth 100000 in
set_option maxHeartbeats 4000000 in
theorem k86 (X : XS) (I : Nat → Nat → Int32) (J : Nat → Nat → Int64) (Q : Option Value → Hp Nat → Prop) : EC1 X 86 [.ref 29] (30, I, J, 23) Q ↔ Q none (34, I, J, 27) := wp_iff (cm := cd86) rfl (stops := []) 1000 0 _ _ _
set_option maxRecDepth 100000 in
set_option maxHeartbeats 4000000 in
theorem k43 (X : XS) (I : Nat → Nat → Int32) (J : Nat → Nat → Int64) (Q : Option Value → Hp Nat → Prop) : EC1 X 43 [.ref 34] (35, I, J, 28) Q ↔ Q none (62, I, J, 55) := wp_iff (cm := cd43) rfl (stops := []) 1000 0 _ _ _
set_option maxRecDepth 100000 in
set_option maxHeartbeats 4000000 in
theorem k5 (X : XS) (I : Nat → Nat → Int32) (J : Nat → Nat → Int64) (Q : Option Value → Hp Nat → Prop) : EC1 X 5 [.ref 62] (63, I, J, 56) Q ↔ Q none (71, I, J, 64) := wp_iff (cm := cd5) rfl (stops := []) 1000 0 _ _ _
set_option maxRecDepth 100000 in
set_option maxHeartbeats 4000000 in
theorem k56 (X : XS) (I : Nat → Nat → Int32) (J : Nat → Nat → Int64) (Q : Option Value → Hp Nat → Prop) : EC1 X 56 [.ref 71] (72, I, J, 65) Q ↔ Q none (74, I, J, 67) := wp_iff (cm := cd56) rfl (stops := []) 1000 0 _ _ _
set_option maxRecDepth 100000 in
set_option maxHeartbeats 4000000 in
theorem k27 (X : XS) (I : Nat → Nat → Int32) (J : Nat → Nat → Int64) (Q : Option Value → Hp Nat → Prop) : EC1 X 27 [.ref 74] (75, I, J, 68) Q ↔ Q none (80, sU (sU I 74 5 (1 : Int32)) 74 6 (300 : Int32), upJ (upJ (upJ J 74 10 1) 74 11 1) 74 12 1, 73) := wp_iff (cm := cd27) rfl (stops := []) 1000 0 _ _ _
set_option maxRecDepth 100000 in
set_option maxHeartbeats 4000000 in
theorem k94 (X : XS) (I : Nat → Nat → Int32) (J : Nat → Nat → Int64) (Q : Option Value → Hp Nat → Prop) : EC1 X 94 [.ref 80] (81, I, J, 74) Q ↔ Q none (86, I, J, 79) := wp_iff (cm := cd94) rfl (stops := []) 1000 0 _ _ _
set_option maxRecDepth 100000 in
set_option maxHeartbeats 4000000 in
theorem k107_0 (X : XS) (I : Nat → Nat → Int32) (J : Nat → Nat → Int64) (Q : Option Value → Hp Nat → Prop) : E1 X 107 0 [some (.ref 5)] [] (6, I, J, 0) Q ↔ EC1 X 76 [.ref 6] (7, I, J, 0) (fun v h1 => rV v False (E1 X 107 12 [some (.ref 5)] [.ref 6, .ref 5] h1 Q)) := wp_iff (cm := cd107) rfl (stops := [12, 23, 34, 45, 56, 67, 78, 89, 100, 111]) 1000 0 _ _ _
set_option maxRecDepth 100000 in
set_option maxHeartbeats 4000000 in
theorem k107_12 (X : XS) (I : Nat → Nat → Int32) (J : Nat → Nat → Int64) (Q : Option Value → Hp Nat → Prop) : E1 X 107 12 [some (.ref 5)] [.ref 6, .ref 5] (15, I, J, 8) Q ↔ EC1 X 66 [.ref 15] (16, I, J, 9) (fun v h1 => rV v False (E1 X 107 23 [some (.ref 5)] [.ref 15, .ref 5] h1 Q)) := wp_iff (cm := cd107) rfl (stops := [12, 23, 34, 45, 56, 67, 78, 89, 100, 111]) 1000 12 _ _ _
set_option maxRecDepth 100000 in
set_option maxHeartbeats 4000000 in
theorem k107_23 (X : XS) (I : Nat → Nat → Int32) (J : Nat → Nat → Int64) (Q : Option Value → Hp Nat → Prop) : E1 X 107 23 [some (.ref 5)] [.ref 15, .ref 5] (17, I, J, 10) Q ↔ EC1 X 0 [.ref 17] (18, I, J, 11) (fun v h1 => rV v False (E1 X 107 34 [some (.ref 5)] [.ref 17, .ref 5] h1 Q)) := wp_iff (cm := cd107) rfl (stops := [12, 23, 34, 45, 56, 67, 78, 89, 100, 111]) 1000 23 _ _ _
set_option maxRecDepth 100000 in
set_option maxHeartbeats 4000000 in
theorem k107_34 (X : XS) (I : Nat → Nat → Int32) (J : Nat → Nat → Int64) (Q : Option Value → Hp Nat → Prop) : E1 X 107 34 [some (.ref 5)] [.ref 17, .ref 5] (19, I, J, 12) Q ↔ EC1 X 99 [.ref 19] (20, I, J, 13) (fun v h1 => rV v False (E1 X 107 45 [some (.ref 5)] [.ref 19, .ref 5] h1 Q)) := wp_iff (cm := cd107) rfl (stops := [12, 23, 34, 45, 56, 67, 78, 89, 100, 111]) 1000 34 _ _ _
set_option maxRecDepth 100000 in
set_option maxHeartbeats 4000000 in
theorem k107_45 (X : XS) (I : Nat → Nat → Int32) (J : Nat → Nat → Int64) (Q : Option Value → Hp Nat → Prop) : E1 X 107 45 [some (.ref 5)] [.ref 19, .ref 5] (29, I, J, 22) Q ↔ EC1 X 86 [.ref 29] (30, I, J, 23) (fun v h1 => rV v False (E1 X 107 56 [some (.ref 5)] [.ref 29, .ref 5] h1 Q)) := wp_iff (cm := cd107) rfl (stops := [12, 23, 34, 45, 56, 67, 78, 89, 100, 111]) 1000 45 _ _ _
set_option maxRecDepth 100000 in
set_option maxHeartbeats 4000000 in
theorem k107_56 (X : XS) (I : Nat → Nat → Int32) (J : Nat → Nat → Int64) (Q : Option Value → Hp Nat → Prop) : E1 X 107 56 [some (.ref 5)] [.ref 29, .ref 5] (34, I, J, 27) Q ↔ EC1 X 43 [.ref 34] (35, I, J, 28) (fun v h1 => rV v False (E1 X 107 67 [some (.ref 5)] [.ref 34, .ref 5] h1 Q)) := wp_iff (cm := cd107) rfl (stops := [12, 23, 34, 45, 56, 67, 78, 89, 100, 111]) 1000 56 _ _ _
set_option maxRecDepth 100000 in
set_option maxHeartbeats 4000000 in
theorem k107_67 (X : XS) (I : Nat → Nat → Int32) (J : Nat → Nat → Int64) (Q : Option Value → Hp Nat → Prop) : E1 X 107 67 [some (.ref 5)] [.ref 34, .ref 5] (62, I, J, 55) Q ↔ EC1 X 5 [.ref 62] (63, I, J, 56) (fun v h1 => rV v False (E1 X 107 78 [some (.ref 5)] [.ref 62, .ref 5] h1 Q)) := wp_iff (cm := cd107) rfl (stops := [12, 23, 34, 45, 56, 67, 78, 89, 100, 111]) 1000 67 _ _ _
set_option maxRecDepth 100000 in
set_option maxHeartbeats 4000000 in
theorem k107_78 (X : XS) (I : Nat → Nat → Int32) (J : Nat → Nat → Int64) (Q : Option Value → Hp Nat → Prop) : E1 X 107 78 [some (.ref 5)] [.ref 62, .ref 5] (71, I, J, 64) Q ↔ EC1 X 56 [.ref 71] (72, I, J, 65) (fun v h1 => rV v False (E1 X 107 89 [some (.ref 5)] [.ref 71, .ref 5] h1 Q)) := wp_iff (cm := cd107) rfl (stops := [12, 23, 34, 45, 56, 67, 78, 89, 100, 111]) 1000 78 _ _ _
set_option maxRecDepth 100000 in
set_option maxHeartbeats 4000000 in
theorem k107_89 (X : XS) (I : Nat → Nat → Int32) (J : Nat → Nat → Int64) (Q : Option Value → Hp Nat → Prop) : E1 X 107 89 [some (.ref 5)] [.ref 71, .ref 5] (74, I, J, 67) Q ↔ EC1 X 27 [.ref 74] (75, I, J, 68) (fun v h1 => rV v False (E1 X 107 100 [some (.ref 5)] [.ref 74, .ref 5] h1 Q)) := wp_iff (cm := cd107) rfl (stops := [12, 23, 34, 45, 56, 67, 78, 89, 100, 111]) 1000 89 _ _ _
set_option maxRecDepth 100000 in
set_option maxHeartbeats 4000000 in
theorem k107_100 (X : XS) (I : Nat → Nat → Int32) (J : Nat → Nat → Int64) (Q : Option Value → Hp Nat → Prop) : E1 X 107 100 [some (.ref 5)] [.ref 74, .ref 5] (80, I, J, 73) Q ↔ EC1 X 94 [.ref 80] (81, I, J, 74) (fun v h1 => rV v False (E1 X 107 111 [some (.ref 5)] [.ref 80, .ref 5] h1 Q)) := wp_iff (cm := cd107) rfl (stops := [12, 23, 34, 45, 56, 67, 78, 89, 100, 111]) 1000 100 _ _ _
set_option maxRecDepth 100000 in
set_option maxHeartbeats 4000000 in
theorem k107_111 (X : XS) (I : Nat → Nat → Int32) (J : Nat → Nat → Int64) (Q : Option Value → Hp Nat → Prop) : E1 X 107 111 [some (.ref 5)] [.ref 80, .ref 5] (86, I, J, 79) Q ↔ Q none (86, sU I 5 10 (3 : Int32), J, 80) := wp_iff (cm := cd107) rfl (stops := [12, 23, 34, 45, 56, 67, 78, 89, 100, 111]) 1000 111 _ _ _
set_option maxRecDepth 100000 in
set_option maxHeartbeats 4000000 in
theorem k107 (X : XS) (I : Nat → Nat → Int32) (J : Nat → Nat → Int64) (Q : Option Value → Hp Nat → Prop) : EC1 X 107 [.ref 5] (6, I, J, 0) Q ↔ Q none (86, sU (sU (sU (sU (sU (sU (sU I 12 ((0 : Int32)).toNatClampNeg (-1 : Int32)) 12 ((1 : Int32)).toNatClampNeg (-1 : Int32)) 12 ((2 : Int32)).toNatClampNeg (-1 : Int32)) 12 ((3 : Int32)).toNatClampNeg (-1 : Int32)) 74 5 (1 : Int32)) 74 6 (300 : Int32)) 5 10 (3 : Int32), upJ (upJ (upJ J 74 10 1) 74 11 1) 74 12 1, 80) := by
  show E1 X 107 0 [some (.ref 5)] [] (6, I, J, 0) Q ↔ _
  rw [k107_0]
  rw [k76]
  show E1 X _ _ _ _ _ Q ↔ _
  rw [k107_12]
  rw [k66]
  show E1 X _ _ _ _ _ Q ↔ _
  rw [k107_23]
  rw [k0]
  show E1 X _ _ _ _ _ Q ↔ _
  rw [k107_34]
  rw [k99]
  show E1 X _ _ _ _ _ Q ↔ _
  rw [k107_45]
  rw [k86]
  show E1 X _ _ _ _ _ Q ↔ _
  rw [k107_56]
  rw [k43]
  show E1 X _ _ _ _ _ Q ↔ _
  rw [k107_67]
  rw [k5]
  show E1 X _ _ _ _ _ Q ↔ _
  rw [k107_78]
  rw [k56]
  show E1 X _ _ _ _ _ Q ↔ _
  rw [k107_89]
  rw [k27]
  show E1 X _ _ _ _ _ Q ↔ _
  rw [k107_100]
  rw [k94]
  show E1 X _ _ _ _ _ Q ↔ _
  rw [k107_111]

set_option maxRecDepth 100000 in
set_option maxHeartbeats 4000000 in
theorem k165 (X : XS) (I : Nat → Nat → Int32) (J : Nat → Nat → Int64) (Q : Option Value → Hp Nat → Prop) : EC1 X 165 [.ref 86] (87, I, J, 80) Q ↔ Q none (137, sU (sU (sU (sU (sU (sU (sU I 87 ((0 : Int32)).toNatClampNeg (-9 : Int32)) 87 ((1 : Int32)).toNatClampNeg (-9 : Int32)) 87 ((2 : Int32)).toNatClampNeg (-9 : Int32)) 87 ((3 : Int32)).toNatClampNeg (-9 : Int32)) 86 59 (1 : Int32)) 86 60 (300 : Int32)) 86 70 (3 : Int32), J, 130) := wp_iff (cm := cd165) rfl (stops := []) 1000 0 _ _ _
end
section
/-! THE CLAIM OUT OF ONE WALK OF THE LAW'S BODY. Your part is whole_start (and what it stands on); all else here is the same for every law, but numbers. -/
def R_law : String := "DryLandLaw"
def lw_P (b : Addr) (xs : List Int32) (args : Array Value) (s : State) : Prop := args = #[.ref b] ∧ s.IntsAt b xs ∧ xs.length ≤ 4096 ∧ (Jvm.Cond.and given_1 narrow_1).before args s = true
def lw_Q (_ : Array Value) (s : State) (o : Outcome) (t : State) : Prop := o = .returned (some (.int 1)) ∧ Framed s o t [] 600000 7302250
def lw_Z (below : List Frame) (a : Array Value) (s : State) : State → Prop := fun t => ∃ o, t.status = .running ∧ Ended t below o ∧ lw_Q a s o t
/-- the law's own end, with 1 on the stack, nothing written that was there before, its room as the claim has it -/
theorem lw_ret {p : Program} {l : Launch} {e : Env} {s : State} {m : MethodId} {below : List Frame} {meth : Method} {c : Code} {b : Nat} (hx : p.tables.exec = Jvm.exec) (hb : c.code = code) (hr : meth.sig.returnType = ret) (hlocks : meth.locks = false) {pc : Nat} {H : Heap} {ls : Array Slot} (hdg : decode code pc = .ok (.ireturn, 1)) : W p l e room_1 s m #[Value.ref b] below meth c H [] 600000 7302250 (lw_Z below #[Value.ref b] s) (F0 m pc ls [.int 1]) := by
  intro T hT X
  obtain ⟨fs, hret, hrun, hended, hW, hframe⟩ := X.leave (v := some (.int 1)) (hlocks := hlocks) (fun h => by rw [hr] at h; cases h)
  have hmeth' : T.vm.method? m = some meth := X.method'
  refine ⟨T.setFrames fs, ?_, .returned (some (.int 1)), hrun, hended, rfl, ⟨_, rfl⟩, hW, hframe⟩
  jvm_step X.here [X.here.top, hx, hb, hdg, hmeth', hr, ret, narrow_b1]
  (try refine ⟨rfl, ?_⟩); (try refine ⟨rfl, ?_⟩)
  first | (intro acts; rw [hret _ acts rfl rfl rfl]) | rw [hret _ _ rfl rfl rfl]
  exact Steps.refl _
/-- what holds at the law's entry: the machine, the code, the tables' words (any of lw_tbl by 'hts w (by decide +kernel)'), the script of L ints xs at the cell b, what the Statement gives of the start (any of its parts by flat_of_before) -/
def lw_At (p : Program) (s : State) (m : MethodId) (meth : Method) (c : Code) (b L : Nat) (xs : Nat → Int32) : Prop :=
  p.tables.exec = Jvm.exec ∧ c.code = code ∧ meth.sig.returnType = ret ∧ c.maxLocals = 4 ∧ s.vm.findClass R_law = some m.cls ∧ (∀ w ∈ lw_tbl, w.before #[Value.ref b] s = true) ∧ va_X b L xs s s.heap ∧ b < s.heap.size ∧ meth.locks = false ∧ (Jvm.Cond.and given_1 narrow_1).before #[Value.ref b] s = true
/-! the start: what the Statement gives, and the way to the loop's head -/
set_option maxRecDepth 100000 in
theorem nest_p : nestL.map nestW = plc [542, 774, 948, 574, 683, 865, 451, 424, 647, 1016, 65, 92, 109, 125, 165, 191, 229, 280, 297, 350] := by rfl
theorem eq_val {args : Array Value} {s : State} {a : Term} {n : Int32} (h : (Cond.eq a (.int n)).before args s = true) : a.eval args s none [] s = some (.int n) := by
  obtain ⟨w, h1, h2⟩ := Cond.eq_one (show (Cond.eq a (.int n)).holds args s none s [] = true from h)
  have e : (Term.int n).eval args s none [] s = some (.int n) := rfl
  cases e.symm.trans h2
  exact h1
theorem st_row {args : Array Value} {s : State} {nm : String} {N : Nat} {f : Nat → Int32} {A : Nat → Prop} (hN : N < 2 ^ 31) (harr : (Cond.arrayOf (.static "DryLand$Reader" nm "[I") .int).before args s = true) (hlen : (Cond.eq (.length (.static "DryLand$Reader" nm "[I")) (.int (Int32.ofNat N))).before args s = true) (hel : ∀ j : Nat, j < N → (Cond.eq (.elem (.static "DryLand$Reader" nm "[I") (.int (Int32.ofNat j))) (.int (f j))).before args s = true)
    (hl : (Cond.laysStatic "DryLand$Reader" nm "[I").before args s = true) (hini : (Cond.initialized "DryLand$Reader").before args s = true) (hA : ∀ a : Nat, a < s.heap.size → ¬ A a) : ∃ t : Nat, va_T .int t N (fun i => .int (f i)) A s s.heap ∧ va_Z "DryLand$Reader" nm "[I" (.ref t) A s s.heap := by
  obtain ⟨t, h1, h2⟩ := va_Tof (f := fun i => .int (f i)) hN harr (eq_val hlen) (fun j hj => eq_val (hel j hj)) hA
  exact ⟨t, h2, va_Zof hl hini h1 hA⟩
theorem va_T_of_X {b L : Nat} {xs : Nat → Int32} {s : State} {A : Nat → Prop} (hX : va_X b L xs s s.heap) (hA : ∀ a : Nat, a < s.heap.size → ¬ A a) : va_T .int b L (fun i => .int (xs i)) A s s.heap := by
  obtain ⟨scr, h1, h2, h3, h4, h5⟩ := hX
  exact ⟨scr, h1, h2, h3, Nat.le_of_eq h4.symm, by rw [h4], h5, hA b (Array.getElem?_eq_some_iff.mp h1).1⟩
set_option maxHeartbeats 4000000 in
set_option maxRecDepth 100000 in
theorem start_K {args : Array Value} {s : State} {b L : Nat} {xs : Nat → Int32} (hts : ∀ w ∈ lw_tbl, w.before args s = true) (hX : va_X b L xs s s.heap) (hgv : (Jvm.Cond.and given_1 narrow_1).before args s = true) (θ : Nat) : ∃ (sa : Nat → Nat) (D : va_G) (cI cZ cN cA : ClassId), sa 0 = b ∧ KU (L, xs, θ, s.heap.size, sa, D, cI, cZ, cN, cA) s := by
  have hW : ∀ w ∈ WL, w.before args s = true := fun w h => hts w (WL_in w h)
  have hk : ∀ ci : Nat, ∃ q : ClassId × (Nat → Nat), ci < 13 → u_Kn s (clT ci).1 (clT ci).2.1 (clT ci).2.2 q.1 q.2 := by
    intro ci
    by_cases h : ci < 13
    · have hi : ∀ c, c < 13 → ∃ e, e ∈ ntab ∧ e.2.2 = c := by decide +kernel
      obtain ⟨e, he, rfl⟩ := hi ci h
      obtain ⟨cC, iS, q⟩ := u_known (C := (clT e.2.2).1) (T := (clT e.2.2).2.1) (N := (clT e.2.2).2.2) hW (clI h) (hW _ (in_WLh (List.mem_flatMap.mpr ⟨e, he, List.mem_cons_of_mem _ List.mem_cons_self⟩)))
      exact ⟨(cC, iS), fun _ => q⟩
    · exact ⟨(0, fun _ => 0), fun q => absurd q h⟩
  have hA : ∀ a : Nat, a < s.heap.size → ¬ (fun q : Nat => s.heap.size ≤ q) a := fun a h => Nat.not_le.mpr h
  obtain ⟨cI, kI, compI, i1, i2, i3⟩ := Cond.arrayClass_spec (hW (.arrayClass .int) (in_WLm (List.mem_append_left _ List.mem_cons_self)))
  obtain ⟨cZ, kZ, compZ, z1, z2, z3⟩ := Cond.arrayClass_spec (hW (.arrayClass .boolean) (in_WLm (List.mem_append_left _ (List.mem_cons_of_mem _ List.mem_cons_self))))
  have hoL := hts (.arrayOver (.object "DryLand$Line")) (List.mem_of_getElem? (i := 114) rfl)
  have hoA := hts (.arrayOver (.array .int)) (List.mem_of_getElem? (i := 70) rfl)
  obtain ⟨compN, cN, kN, n1, n2, n3, n4, n5⟩ := Cond.arrayOver_spec hoL
  obtain ⟨compA, cA, kA, a1, a2, a3, a4, a5⟩ := arrayOverA_spec hoA
  have hs := flat_of_before _ hgv
  have hini := hW _ (ini_in (c := "DryLand$Reader") (by decide))
  obtain ⟨t1, r1, y1⟩ := st_row (args := args) (s := s) (nm := "VERBS") (N := 4) (f := stv xs 1) (A := fun q : Nat => s.heap.size ≤ q) (by decide) (hs _ (by decide +kernel)) (hs _ (by decide +kernel)) (fun j hj => by
    match j, hj with
    | 0, _ => exact hs (Cond.eq (.elem (.static "DryLand$Reader" "VERBS" "[I") (.int 0)) (.int 109)) (by decide +kernel)
    | 1, _ => exact hs (Cond.eq (.elem (.static "DryLand$Reader" "VERBS" "[I") (.int 1)) (.int 115)) (by decide +kernel)
    | 2, _ => exact hs (Cond.eq (.elem (.static "DryLand$Reader" "VERBS" "[I") (.int 2)) (.int 99)) (by decide +kernel)
    | 3, _ => exact hs (Cond.eq (.elem (.static "DryLand$Reader" "VERBS" "[I") (.int 3)) (.int 107)) (by decide +kernel)
    | j + 4, hj => exact absurd hj (by omega)) (hts _ (List.mem_of_getElem? (i := 495) rfl)) hini hA
  obtain ⟨t2, r2, y2⟩ := st_row (args := args) (s := s) (nm := "KINDS") (N := 5) (f := stv xs 2) (A := fun q : Nat => s.heap.size ≤ q) (by decide) (hs _ (by decide +kernel)) (hs _ (by decide +kernel)) (fun j hj => by
    match j, hj with
    | 0, _ => exact hs (Cond.eq (.elem (.static "DryLand$Reader" "KINDS" "[I") (.int 0)) (.int 48)) (by decide +kernel)
    | 1, _ => exact hs (Cond.eq (.elem (.static "DryLand$Reader" "KINDS" "[I") (.int 1)) (.int 49)) (by decide +kernel)
    | 2, _ => exact hs (Cond.eq (.elem (.static "DryLand$Reader" "KINDS" "[I") (.int 2)) (.int 50)) (by decide +kernel)
    | 3, _ => exact hs (Cond.eq (.elem (.static "DryLand$Reader" "KINDS" "[I") (.int 3)) (.int 51)) (by decide +kernel)
    | 4, _ => exact hs (Cond.eq (.elem (.static "DryLand$Reader" "KINDS" "[I") (.int 4)) (.int 42)) (by decide +kernel)
    | j + 5, hj => exact absurd hj (by omega)) (hts _ (List.mem_of_getElem? (i := 505) rfl)) hini hA
  obtain ⟨t3, r3, y3⟩ := st_row (args := args) (s := s) (nm := "DIGITS") (N := 10) (f := stv xs 3) (A := fun q : Nat => s.heap.size ≤ q) (by decide) (hs _ (by decide +kernel)) (hs _ (by decide +kernel)) (fun j hj => by
    match j, hj with
    | 0, _ => exact hs (Cond.eq (.elem (.static "DryLand$Reader" "DIGITS" "[I") (.int 0)) (.int 48)) (by decide +kernel)
    | 1, _ => exact hs (Cond.eq (.elem (.static "DryLand$Reader" "DIGITS" "[I") (.int 1)) (.int 49)) (by decide +kernel)
    | 2, _ => exact hs (Cond.eq (.elem (.static "DryLand$Reader" "DIGITS" "[I") (.int 2)) (.int 50)) (by decide +kernel)
    | 3, _ => exact hs (Cond.eq (.elem (.static "DryLand$Reader" "DIGITS" "[I") (.int 3)) (.int 51)) (by decide +kernel)
    | 4, _ => exact hs (Cond.eq (.elem (.static "DryLand$Reader" "DIGITS" "[I") (.int 4)) (.int 52)) (by decide +kernel)
    | 5, _ => exact hs (Cond.eq (.elem (.static "DryLand$Reader" "DIGITS" "[I") (.int 5)) (.int 53)) (by decide +kernel)
    | 6, _ => exact hs (Cond.eq (.elem (.static "DryLand$Reader" "DIGITS" "[I") (.int 6)) (.int 54)) (by decide +kernel)
    | 7, _ => exact hs (Cond.eq (.elem (.static "DryLand$Reader" "DIGITS" "[I") (.int 7)) (.int 55)) (by decide +kernel)
    | 8, _ => exact hs (Cond.eq (.elem (.static "DryLand$Reader" "DIGITS" "[I") (.int 8)) (.int 56)) (by decide +kernel)
    | 9, _ => exact hs (Cond.eq (.elem (.static "DryLand$Reader" "DIGITS" "[I") (.int 9)) (.int 57)) (by decide +kernel)
    | j + 10, hj => exact absurd hj (by omega)) (hts _ (List.mem_of_getElem? (i := 515) rfl)) hini hA
  obtain ⟨t4, r4, y4⟩ := st_row (args := args) (s := s) (nm := "LETTERS") (N := 4) (f := stv xs 4) (A := fun q : Nat => s.heap.size ≤ q) (by decide) (hs _ (by decide +kernel)) (hs _ (by decide +kernel)) (fun j hj => by
    match j, hj with
    | 0, _ => exact hs (Cond.eq (.elem (.static "DryLand$Reader" "LETTERS" "[I") (.int 0)) (.int 100)) (by decide +kernel)
    | 1, _ => exact hs (Cond.eq (.elem (.static "DryLand$Reader" "LETTERS" "[I") (.int 1)) (.int 112)) (by decide +kernel)
    | 2, _ => exact hs (Cond.eq (.elem (.static "DryLand$Reader" "LETTERS" "[I") (.int 2)) (.int 101)) (by decide +kernel)
    | 3, _ => exact hs (Cond.eq (.elem (.static "DryLand$Reader" "LETTERS" "[I") (.int 3)) (.int 118)) (by decide +kernel)
    | j + 4, hj => exact absurd hj (by omega)) (hts _ (List.mem_of_getElem? (i := 529) rfl)) hini hA
  refine ⟨fun k => match k with
    | 0 => b
    | 1 => t1
    | 2 => t2
    | 3 => t3
    | _ => t4, (fun c => (hk c).choose.1, fun c => (hk c).choose.2), cI, cZ, cN, cA, rfl, ⟨fun c q hq => ?_, fun k q hq => ?_⟩, fun e he => ?_, hoL, ⟨kA, a3, ?_⟩, fun k hk5 => ?_, fun k hk0 hk5 => ?_⟩
  · have hc : c < 13 := by
      have := (List.getElem?_eq_some_iff.mp hq).1
      exact this
    rw [clT_at hc] at hq
    cases hq
    exact (hk c).choose_spec hc
  · match k, hq with
    | 0, hq =>
      cases hq
      exact ⟨fun n z => ⟨fun k h => (by cases h), kI, i2, compI, i3⟩, i1⟩
    | 1, hq =>
      cases hq
      exact ⟨fun n z => ⟨fun k h => (by cases h), kZ, z2, compZ, z3⟩, z1⟩
    | 2, hq =>
      cases hq
      exact ⟨fun n z => ⟨fun k h => (by cases h), kN, n3, compN, n4⟩, kN, compN, n3, n4, n1, n5⟩
    | 3, hq =>
      cases hq
      exact ⟨fun n z => ⟨fun k h => (by cases h), kA, a3, compA, a4⟩, a5⟩
    | k + 4, hq => cases hq
  · have hw : nestW e ∈ lw_tbl := plc_in nest_p _ (List.mem_map.mpr ⟨e, he, rfl⟩)
    exact va_Nw.of rfl (hts _ hw)
  · have e1 : some compA = some cI := a1.symm.trans i1
    rw [a4, Option.some.inj e1]
  · match k, hk5 with
    | 0, _ => exact va_T_of_X hX hA
    | 1, _ => exact r1
    | 2, _ => exact r2
    | 3, _ => exact r3
    | 4, _ => exact r4
    | k + 5, h => exact absurd h (by omega)
  · match k, hk0, hk5 with
    | 1, _, _ => exact y1
    | 2, _, _ => exact y2
    | 3, _, _ => exact y3
    | 4, _, _ => exact y4
    | k + 5, _, h => exact absurd h (by omega)
def I0a : Nat → Nat → Int32 := sU (sU (sU (sU (sU (sU (sU ((fun _ _ => (0 : Int32))) 12 ((0 : Int32)).toNatClampNeg (-1 : Int32)) 12 ((1 : Int32)).toNatClampNeg (-1 : Int32)) 12 ((2 : Int32)).toNatClampNeg (-1 : Int32)) 12 ((3 : Int32)).toNatClampNeg (-1 : Int32)) 74 5 (1 : Int32)) 74 6 (300 : Int32)) 5 10 (3 : Int32)
def J0a : Nat → Nat → Int64 := upJ (upJ (upJ ((fun _ _ => (0 : Int64))) 74 10 1) 74 11 1) 74 12 1
def I0 : Nat → Nat → Int32 := sU (sU (sU (sU (sU (sU (sU I0a 87 ((0 : Int32)).toNatClampNeg (-9 : Int32)) 87 ((1 : Int32)).toNatClampNeg (-9 : Int32)) 87 ((2 : Int32)).toNatClampNeg (-9 : Int32)) 87 ((3 : Int32)).toNatClampNeg (-9 : Int32)) 86 59 (1 : Int32)) 86 60 (300 : Int32)) 86 70 (3 : Int32)
/-- the state at the loop's head, when it is first come to -/
def hh0 : H2 := (137, I0, J0a, fun _ => none)
theorem fnd_none : ∀ (l : List (Nat × Nat × Nat)) (a i : Nat), (∀ e ∈ l, ¬ (e.1 = a ∧ e.2.1 = i)) → fnd l a i = none
  | [], _, _, _ => rfl
  | (x, y, v) :: t, a, i, h => by
    show (match fnd t a i with
      | some w => some w
      | none => bif Nat.beq x a && Nat.beq y i then some v else none) = none
    rw [fnd_none t a i (fun e he => h e (List.mem_cons_of_mem _ he))]
    show (bif Nat.beq x a && Nat.beq y i then some v else none) = none
    cases hq : (Nat.beq x a && Nat.beq y i) with
    | false => rfl
    | true =>
      simp only [Bool.and_eq_true] at hq
      exact absurd ⟨nbeq hq.1, nbeq hq.2⟩ (h _ List.mem_cons_self)
theorem gn_ge : ∀ (l : List Nat) (i : Nat), l.length ≤ i → gn l i = 0
  | [], _, _ => rfl
  | _ :: t, 0, h => absurd h (by simp)
  | _ :: t, i + 1, h => gn_ge t i (by simpa using h)
theorem gll_ge : ∀ (l : List (List Nat)) (i : Nat), l.length ≤ i → gll l i = []
  | [], _, _ => rfl
  | _ :: t, 0, h => absurd h (by simp)
  | _ :: t, i + 1, h => gll_ge t i (by simpa using h)
theorem gll_len (n : Nat) : ∀ (l : List (List Nat)) (i : Nat), (∀ r ∈ l, r.length ≤ n) → (gll l i).length ≤ n
  | [], _, _ => Nat.zero_le _
  | a :: _, 0, h => h a List.mem_cons_self
  | _ :: t, i + 1, h => gll_len n t i (fun r hr => h r (List.mem_cons_of_mem _ hr))
theorem fnd_mem : ∀ (l : List (Nat × Nat × Nat)) (a i v : Nat), fnd l a i = some v → (a, i, v) ∈ l
  | [], _, _, _, h => by cases h
  | (x, y, w) :: t, a, i, v, h => by
    have h : (match fnd t a i with
      | some w => some w
      | none => bif Nat.beq x a && Nat.beq y i then some w else none) = some v := h
    cases hq : fnd t a i with
    | some u =>
      rw [hq] at h
      cases h
      exact List.mem_cons_of_mem _ (fnd_mem t a i _ hq)
    | none =>
      rw [hq] at h
      obtain ⟨h1, h2⟩ := bif_s h
      cases h2
      simp only [Bool.and_eq_true] at h1
      rw [nbeq h1.1, nbeq h1.2]
      exact List.mem_cons_self
set_option maxRecDepth 100000 in
theorem rw_all : Rw.all (fun e => !Nat.beq e.1 18 && decide (Rc e.1 e.2.1 = some e.2.2)) = true := by decide +kernel
set_option maxRecDepth 100000 in
theorem rt_all : (List.range 137).all (fun a => (List.range (gll Rt a).length).all (fun i => Nat.beq (gn (gll Rt a) i) 0 || (fnd Rw a i).isSome)) = true := by decide +kernel
set_option maxRecDepth 100000 in
theorem rt_len : Rt.length ≤ 137 := by decide +kernel
theorem rd_eq (a i : Nat) : rd1 130 a i = rd2 (fun _ => none) a i := by
  have e : Rw.take 130 = Rw := by rfl
  unfold rd1 rd2
  rw [e]
  cases hf : fnd Rw a i with
  | some v =>
    have := List.all_eq_true.mp rw_all _ (fnd_mem Rw a i v hf)
    simp only [Bool.and_eq_true, Bool.not_eq_true', decide_eq_true_eq] at this
    rw [this.1]
    exact this.2.symm
  | none =>
    cases hq : Nat.beq a 18 with
    | true => rfl
    | false =>
      show none = Rc a i
      have hz : gn (gll Rt a) i = 0 := by
        by_cases h1 : a < 137
        · by_cases h2 : i < (gll Rt a).length
          · have := List.all_eq_true.mp (List.all_eq_true.mp rt_all a (List.mem_range.mpr h1)) i (List.mem_range.mpr h2)
            rw [hf] at this
            simp only [Option.isSome_none, Bool.or_false] at this
            exact nbeq this
          · exact gn_ge _ _ (by omega)
        · rw [gll_ge Rt a (Nat.le_trans rt_len (by omega))]
          rfl
      unfold Rc
      rw [hz]
theorem szs_240 (L : Nat) : ∀ k, szs L (5 + k) ≤ szs L 5 + 240 * k
  | 0 => Nat.le_refl _
  | k + 1 => by
    have h1 := szs_240 L k
    have h2 := shT_le (L := L) (a := 5 + k) (by omega)
    show szs L (5 + k) + (shT L (5 + k)).2 ≤ _
    omega
set_option maxHeartbeats 8000000 in
set_option maxRecDepth 100000 in
theorem start_of (HL : ∀ (L : Nat) (xs : Nat → Int32), L ≤ 4096 → E (L, xs) 271 18 [some (.ref 0), some (.ref 5), some (.ref 86), some (.int 0)] [] hh0 (fun v h' => v = some (.int 1) ∧ h'.1 ≤ 1000)) {p : Program} {e : Env} {s : State} {m : MethodId} {below : List Frame} {meth : Method} {c : Code} (l : Launch) {b L : Nat} {xs : Nat → Int32} (hL : L ≤ 4096) (C0 : lw_At p s m meth c b L xs) :
    W p l e room_1 s m #[Value.ref b] below meth c s.heap [] 0 0 (lw_Z below #[Value.ref b] s) (entryFrame m ([Value.ref b] : List Value).toArray 4) := by
  obtain ⟨hx, hb, hr, hml, hown, hts, hX, hbl, hlocks, hgv⟩ := C0
  obtain ⟨sa, D, cI, cZ, cN, cA, hsa, hK⟩ := start_K hts hX hgv 0
  have hW : ∀ w ∈ WL, w.before #[Value.ref b] s = true := fun w h => hts w (WL_in w h)
  have hs : s.heap.size + 5 = gB (L, xs, 0, s.heap.size, sa, D, cI, cZ, cN, cA) + 5 := rfl
  have hown' : s.vm.findClass (own 13) = some m.cls := hown
  -- from the loop's head on
  have tail : Wst rd2 (L, xs, 137, s.heap.size, sa, D, cI, cZ, cN, cA) p l e room_1 s m #[Value.ref b] below meth c 5 4 (lw_Z below #[Value.ref b] s) hh0 18 [some (.ref 0), some (.ref 5), some (.ref 86), some (.int 0)] [] := by
    obtain ⟨n, v, h', hrun, rfl, hle⟩ := HL L xs hL
    have hsz := szs_240 L (h'.1 - 5)
    have hn := run_n _ _ _ _ _ _ _ hrun
    have hn : 137 ≤ h'.1 := hn
    rw [show 5 + (h'.1 - 5) = h'.1 by omega] at hsz
    have hc1 : h'.1 - 5 ≤ 600000 := by omega
    have hc2 : szs L h'.1 - szs L 5 ≤ 7302250 := by omega
    refine snd_all (G := (L, xs, 137, s.heap.size, sa, D, cI, cZ, cN, cA)) (l := l) hwr2 n 271 18 _ [] hh0 _ h' hrun p e room_1 s m #[Value.ref b] below meth c 5 _ ⟨hx, hb, hml, hown, hW, by decide +kernel, by decide +kernel, fun z => absurd z (by decide), hK, hs, Nat.le_refl _, ckM_all 271 (by decide)⟩ hc1 hc2 (fun pc ls ai hmem hret => ?_)
    intro hn0 H locs cls hR hS hL'
    obtain ⟨i, len, a, sw⟩ := ai
    rcases hret with ⟨hi, -⟩ | ⟨-, x, hv⟩ | ⟨-, hv⟩ | ⟨-, hv⟩
    · have hi : i = .ireturn := hi
      subst hi
      have hq := ckM_all 271 (by decide) _ hmem
      unfold chkQ at hq
      simp only [Bool.and_eq_true, decide_eq_true_eq] at hq
      obtain ⟨hd, hchk⟩ := hq
      unfold chkI at hchk
      simp only [Bool.and_eq_true] at hchk
      obtain rfl := nbeq hchk.1
      refine va_forget (fun q hq => hS.2.2 q hq) ?_
      refine W.widen (k := 600000) (n := 7302250) hc1 hc2 ?_
      exact lw_ret hx hb hr hlocks hd
    · cases hv
    · rcases hv with z | ⟨x, z⟩ <;> cases z
    · cases hv
  -- the way there
  have head : Wst rd1 (L, xs, 0, s.heap.size, sa, D, cI, cZ, cN, cA) p l e room_1 s m #[Value.ref b] below meth c 5 4 (lw_Z below #[Value.ref b] s) (137, I0, J0a, 130) 18 [some (.ref 0), some (.ref 5), some (.ref 86), some (.int 0)] [] := by
    intro hn H locs cls hR hS hL'
    refine tail hn H locs cls ⟨hR.1, Nat.le_refl _, ?_, ?_⟩ hS hL'
    · have ew : wld rd1 (L, xs, 0, s.heap.size, sa, D, cI, cZ, cN, cA) (137, I0, J0a, 130) = wld rd2 (L, xs, 137, s.heap.size, sa, D, cI, cZ, cN, cA) hh0 := by
        have er : rd1 130 = rd2 (fun _ => none) := funext fun a => funext fun i => rd_eq a i
        unfold wld cellE fds fld hh0
        simp only [er]
        rfl
      rw [← ew]
      exact hR.2.2.1
    · intro a ha i
      have := hR.2.2.2 a ha i
      exact ⟨this.1, this.2.1, by show rd2 (fun _ => none) a i = none; rw [← rd_eq]; exact this.2.2⟩
  have z240 := szs_240 L
  have r6 : szs L 6 ≤ szs L 5 + 240 * 1 := z240 1
  have r86 : szs L 86 ≤ szs L 5 + 240 * 81 := z240 81
  have r87 : szs L 87 ≤ szs L 5 + 240 * 82 := z240 82
  have r137 : szs L 137 ≤ szs L 5 + 240 * 132 := z240 132
  obtain ⟨v2, h2, ⟨rfl, rfl⟩, hle2, hM2⟩ := met_ev (rd := rd1) (wr := wr1) (G := (L, xs, 0, s.heap.size, sa, D, cI, cZ, cN, cA)) (l := l) hwr1 (M := 165) (as := [.ref 86]) (h := (87, I0a, J0a, 80)) (P := fun v h' => v = none ∧ h' = (137, I0, J0a, 130)) ⟨by decide, by decide +kernel, by decide +kernel⟩ ((k165 (L, xs) I0a J0a _).mpr ⟨rfl, rfl⟩)
  obtain ⟨v1, h1, ⟨rfl, rfl⟩, hle1, hM1⟩ := met_ev (rd := rd1) (wr := wr1) (G := (L, xs, 0, s.heap.size, sa, D, cI, cZ, cN, cA)) (l := l) hwr1 (M := 107) (as := [.ref 5]) (h := (6, (fun _ _ => 0), (fun _ _ => 0), 0)) (P := fun v h' => v = none ∧ h' = (86, I0a, J0a, 80)) ⟨by decide, by decide +kernel, by decide +kernel⟩ ((k107 (L, xs) _ _ _).mpr ⟨rfl, rfl⟩)
  have s17 := w_istore_n (rd := rd1) (r := []) (ls := [some (.ref 0), some (.ref 5), some (.ref 86), none]) (j := 3) (x := 0) hx hb (show decode code 17 = .ok (.istore_n 3, 1) from by decide +kernel) (by decide) rfl head
  have s16 := w_iconst (rd := rd1) (r := []) hx hb (show decode code 16 = .ok (.iconst 0, 1) from by decide +kernel) (v := 0) (by decide) s17
  have s15 := w_astore_n (rd := rd1) (r := []) (ls := [some (.ref 0), some (.ref 5), none, none]) (j := 2) (x := 86) hx hb (show decode code 15 = .ok (.astore_n 2, 1) from by decide +kernel) (by decide) rfl s16
  have s12 := w_spec (rd := rd1) (oc := 13) (M' := 165) (ix := 12) (b := 86) (as := []) (r := [.ref 86]) (v := none) (h := (87, I0a, J0a, 80)) (h' := (137, I0, J0a, 130)) (pc := 12) hx hb hml hW hown' hK hs (Nat.le_refl _) (Or.inl (by decide +kernel)) (by decide +kernel) (by decide +kernel) (by decide +kernel) (by decide +kernel) ⟨by decide +kernel, by decide +kernel, by decide, ckN_all 165 (by decide), by decide +kernel⟩ (by decide +kernel) (by decide) (by decide) (by decide) (show szs L 137 - szs L 5 ≤ 7302250 by omega) hM2 (show decode code 12 = .ok (.invokespecial 12, 3) from by decide +kernel) s15
  have s11 := w_dupR (rd := rd1) (r := []) (x := 86) hx hb (show decode code 11 = .ok (.dup, 1) from by decide +kernel) s12
  have s8 := w_new (rd := rd1) (oc := 13) (ix := 10) (ci := 12) (h := (86, I0a, J0a, 80)) (r := []) (pc := 8) hx hb hW hown' hK hs (Nat.le_refl _) (by decide +kernel) (by decide) rfl (by decide) (show szs L 87 - szs L 5 ≤ 7302250 by omega) (show decode code 8 = .ok (.new 10, 3) from by decide +kernel) s11
  have s7 := w_astore_n (rd := rd1) (r := []) (ls := [some (.ref 0), none, none, none]) (j := 1) (x := 5) hx hb (show decode code 7 = .ok (.astore_n 1, 1) from by decide +kernel) (by decide) rfl s8
  have s4 := w_spec (rd := rd1) (oc := 13) (M' := 107) (ix := 9) (b := 5) (as := []) (r := [.ref 5]) (v := none) (h := (6, (fun _ _ => 0), (fun _ _ => 0), 0)) (h' := (86, I0a, J0a, 80)) (pc := 4) hx hb hml hW hown' hK hs (Nat.le_refl _) (Or.inl (by decide +kernel)) (by decide +kernel) (by decide +kernel) (by decide +kernel) (by decide +kernel) ⟨by decide +kernel, by decide +kernel, by decide, ckN_all 107 (by decide), by decide +kernel⟩ (by decide +kernel) (by decide) (by decide) (by decide) (show szs L 86 - szs L 5 ≤ 7302250 by omega) hM1 (show decode code 4 = .ok (.invokespecial 9, 3) from by decide +kernel) s7
  have s3 := w_dupR (rd := rd1) (r := []) (x := 5) hx hb (show decode code 3 = .ok (.dup, 1) from by decide +kernel) s4
  have s0 := w_new (rd := rd1) (oc := 13) (ix := 7) (ci := 11) (h := (5, (fun _ _ => 0), (fun _ _ => 0), 0)) (r := []) (pc := 0) hx hb hW hown' hK hs (Nat.le_refl _) (by decide +kernel) (by decide) rfl (by decide) (show szs L 6 - szs L 5 ≤ 7302250 by omega) (show decode code 0 = .ok (.new 7, 3) from by decide +kernel) s3
  have hl := lv_entry ([.ref b]) (n := 4) (Nat.le_of_ble_eq_true rfl)
  rw [lg_entry_eq]
  generalize (lg_sl ([.ref b]) ++ List.replicate (4 - (lg_sl ([.ref b])).length) Slot.unset).toArray = cls at hl ⊢
  have hLR : LRel (L, xs, 0, s.heap.size, sa, D, cI, cZ, cN, cA) cls 4 [some (.ref 0), none, none, none] := ⟨hl.1, hl.2.1, fun i w hw => by
    match i, hw with
    | 0, hw =>
      cases hw
      have := hl.2.2 (0, .ref b) List.mem_cons_self
      show cls[0]? = some (.val (.ref (phi _ 0)))
      rw [phi_lt (by decide)]
      show cls[0]? = some (.val (.ref (sa 0)))
      rw [hsa]
      exact this
    | 1, hw => cases hw
    | 2, hw => cases hw
    | 3, hw => cases hw
    | i + 4, hw => cases hw⟩
  have fin := s0 (Nat.le_refl _) s.heap [] cls ⟨Nat.le_refl _, Nat.zero_le _, (fun k q hk => absurd hk (by simp [wld])), (fun a _ i => ⟨rfl, rfl, rfl⟩)⟩ va_S.rf hLR
  exact W.cs (by decide) (show 0 = szs L 5 - szs L 5 by omega) fin
end
