section
-- ===== PART A: goes FIRST, ahead of the names: the tables' words, and 'selects' of the private methods out of them =====
/-- a private method of a class that the tables say can be made, by its rows of tables_1 -/
def lw_okq (q : MethodName × Nat) : Prop := (q.1.cls ≠ "java/lang/invoke/MethodHandle" ∧ q.1.cls ≠ "java/lang/invoke/VarHandle") ∧ Cond.instantiable q.1.cls q.2 ∈ tables_1 ∧ Cond.privateMethod q.1 ∈ tables_1 ∧ Cond.instanceMethod q.1 ∈ tables_1
theorem lw_p0 : lw_okq (⟨"DryLandModel", "against", "(IIII)I"⟩, 77) := ⟨⟨by decide +kernel, by decide +kernel⟩, List.mem_of_getElem? (i := 1082) (by decide +kernel), List.mem_of_getElem? (i := 1333) (by decide +kernel), List.mem_of_getElem? (i := 1334) (by decide +kernel)⟩
theorem lw_p1 : lw_okq (⟨"DryLandModel", "fails", "(I)I"⟩, 77) := ⟨⟨by decide +kernel, by decide +kernel⟩, List.mem_of_getElem? (i := 1082) (by decide +kernel), List.mem_of_getElem? (i := 1337) (by decide +kernel), List.mem_of_getElem? (i := 1338) (by decide +kernel)⟩
theorem lw_p2 : lw_okq (⟨"DryLandModel", "read", "(II)I"⟩, 77) := ⟨⟨by decide +kernel, by decide +kernel⟩, List.mem_of_getElem? (i := 1082) (by decide +kernel), List.mem_of_getElem? (i := 1341) (by decide +kernel), List.mem_of_getElem? (i := 1342) (by decide +kernel)⟩
theorem lw_p3 : lw_okq (⟨"DryLandModel", "codeAt", "()I"⟩, 77) := ⟨⟨by decide +kernel, by decide +kernel⟩, List.mem_of_getElem? (i := 1082) (by decide +kernel), List.mem_of_getElem? (i := 1345) (by decide +kernel), List.mem_of_getElem? (i := 1346) (by decide +kernel)⟩
theorem lw_p4 : lw_okq (⟨"DryLandModel", "readNumber", "()I"⟩, 77) := ⟨⟨by decide +kernel, by decide +kernel⟩, List.mem_of_getElem? (i := 1082) (by decide +kernel), List.mem_of_getElem? (i := 1352) (by decide +kernel), List.mem_of_getElem? (i := 1353) (by decide +kernel)⟩
theorem lw_p5 : lw_okq (⟨"DryLandModel", "readCode", "(I)V"⟩, 77) := ⟨⟨by decide +kernel, by decide +kernel⟩, List.mem_of_getElem? (i := 1082) (by decide +kernel), List.mem_of_getElem? (i := 1356) (by decide +kernel), List.mem_of_getElem? (i := 1357) (by decide +kernel)⟩
theorem lw_p6 : lw_okq (⟨"DryLandModel", "copyLine", "(II)V"⟩, 77) := ⟨⟨by decide +kernel, by decide +kernel⟩, List.mem_of_getElem? (i := 1082) (by decide +kernel), List.mem_of_getElem? (i := 1363) (by decide +kernel), List.mem_of_getElem? (i := 1364) (by decide +kernel)⟩
theorem lw_p7 : lw_okq (⟨"DryLandModel", "isLine", "(I)Z"⟩, 77) := ⟨⟨by decide +kernel, by decide +kernel⟩, List.mem_of_getElem? (i := 1082) (by decide +kernel), List.mem_of_getElem? (i := 1371) (by decide +kernel), List.mem_of_getElem? (i := 1372) (by decide +kernel)⟩
theorem lw_p8 : lw_okq (⟨"DryLandModel", "whyOf", "(IIIII)I"⟩, 77) := ⟨⟨by decide +kernel, by decide +kernel⟩, List.mem_of_getElem? (i := 1082) (by decide +kernel), List.mem_of_getElem? (i := 1389) (by decide +kernel), List.mem_of_getElem? (i := 1390) (by decide +kernel)⟩
theorem lw_p9 : lw_okq (⟨"DryLandModel", "doesStop", "(IIIIII)Z"⟩, 77) := ⟨⟨by decide +kernel, by decide +kernel⟩, List.mem_of_getElem? (i := 1082) (by decide +kernel), List.mem_of_getElem? (i := 1393) (by decide +kernel), List.mem_of_getElem? (i := 1394) (by decide +kernel)⟩
theorem lw_p10 : lw_okq (⟨"DryLandModel", "isInForce", "(II)Z"⟩, 77) := ⟨⟨by decide +kernel, by decide +kernel⟩, List.mem_of_getElem? (i := 1082) (by decide +kernel), List.mem_of_getElem? (i := 1397) (by decide +kernel), List.mem_of_getElem? (i := 1398) (by decide +kernel)⟩
theorem lw_p11 : lw_okq (⟨"DryLandModel", "findWay", "(I)I"⟩, 77) := ⟨⟨by decide +kernel, by decide +kernel⟩, List.mem_of_getElem? (i := 1082) (by decide +kernel), List.mem_of_getElem? (i := 1417) (by decide +kernel), List.mem_of_getElem? (i := 1418) (by decide +kernel)⟩
theorem lw_p12 : lw_okq (⟨"DryLandModel", "isFree", "(II)Z"⟩, 77) := ⟨⟨by decide +kernel, by decide +kernel⟩, List.mem_of_getElem? (i := 1082) (by decide +kernel), List.mem_of_getElem? (i := 1421) (by decide +kernel), List.mem_of_getElem? (i := 1422) (by decide +kernel)⟩
theorem lw_p13 : lw_okq (⟨"DryLandModel", "isDoctor", "(I)Z"⟩, 77) := ⟨⟨by decide +kernel, by decide +kernel⟩, List.mem_of_getElem? (i := 1082) (by decide +kernel), List.mem_of_getElem? (i := 1437) (by decide +kernel), List.mem_of_getElem? (i := 1438) (by decide +kernel)⟩
theorem lw_p14 : lw_okq (⟨"DryLandModel", "isTooMany", "(II)Z"⟩, 77) := ⟨⟨by decide +kernel, by decide +kernel⟩, List.mem_of_getElem? (i := 1082) (by decide +kernel), List.mem_of_getElem? (i := 1449) (by decide +kernel), List.mem_of_getElem? (i := 1450) (by decide +kernel)⟩
theorem lw_p15 : lw_okq (⟨"DryLandModel", "arePlaces", "(II)Z"⟩, 77) := ⟨⟨by decide +kernel, by decide +kernel⟩, List.mem_of_getElem? (i := 1082) (by decide +kernel), List.mem_of_getElem? (i := 1457) (by decide +kernel), List.mem_of_getElem? (i := 1458) (by decide +kernel)⟩
def lw_privs_1 : List (MethodName × Nat) := [(⟨"DryLandModel", "against", "(IIII)I"⟩, 77), (⟨"DryLandModel", "fails", "(I)I"⟩, 77), (⟨"DryLandModel", "read", "(II)I"⟩, 77), (⟨"DryLandModel", "codeAt", "()I"⟩, 77), (⟨"DryLandModel", "readNumber", "()I"⟩, 77), (⟨"DryLandModel", "readCode", "(I)V"⟩, 77), (⟨"DryLandModel", "copyLine", "(II)V"⟩, 77), (⟨"DryLandModel", "isLine", "(I)Z"⟩, 77), (⟨"DryLandModel", "whyOf", "(IIIII)I"⟩, 77), (⟨"DryLandModel", "doesStop", "(IIIIII)Z"⟩, 77), (⟨"DryLandModel", "isInForce", "(II)Z"⟩, 77), (⟨"DryLandModel", "findWay", "(I)I"⟩, 77), (⟨"DryLandModel", "isFree", "(II)Z"⟩, 77), (⟨"DryLandModel", "isDoctor", "(I)Z"⟩, 77), (⟨"DryLandModel", "isTooMany", "(II)Z"⟩, 77), (⟨"DryLandModel", "arePlaces", "(II)Z"⟩, 77)]
theorem lw_r1 : ∀ q ∈ lw_privs_1, lw_okq q := List.forall_mem_cons.mpr ⟨lw_p0, List.forall_mem_cons.mpr ⟨lw_p1, List.forall_mem_cons.mpr ⟨lw_p2, List.forall_mem_cons.mpr ⟨lw_p3, List.forall_mem_cons.mpr ⟨lw_p4, List.forall_mem_cons.mpr ⟨lw_p5, List.forall_mem_cons.mpr ⟨lw_p6, List.forall_mem_cons.mpr ⟨lw_p7, List.forall_mem_cons.mpr ⟨lw_p8, List.forall_mem_cons.mpr ⟨lw_p9, List.forall_mem_cons.mpr ⟨lw_p10, List.forall_mem_cons.mpr ⟨lw_p11, List.forall_mem_cons.mpr ⟨lw_p12, List.forall_mem_cons.mpr ⟨lw_p13, List.forall_mem_cons.mpr ⟨lw_p14, List.forall_mem_cons.mpr ⟨lw_p15, fun _ h => absurd h List.not_mem_nil⟩⟩⟩⟩⟩⟩⟩⟩⟩⟩⟩⟩⟩⟩⟩⟩
theorem lw_p16 : lw_okq (⟨"DryLandModel", "isTruck", "(I)Z"⟩, 77) := ⟨⟨by decide +kernel, by decide +kernel⟩, List.mem_of_getElem? (i := 1082) (by decide +kernel), List.mem_of_getElem? (i := 1469) (by decide +kernel), List.mem_of_getElem? (i := 1470) (by decide +kernel)⟩
theorem lw_p17 : lw_okq (⟨"DryLandModel", "meeting", "(I)I"⟩, 77) := ⟨⟨by decide +kernel, by decide +kernel⟩, List.mem_of_getElem? (i := 1082) (by decide +kernel), List.mem_of_getElem? (i := 1477) (by decide +kernel), List.mem_of_getElem? (i := 1478) (by decide +kernel)⟩
theorem lw_p18 : lw_okq (⟨"DryLandModel", "doMeet", "(II)Z"⟩, 77) := ⟨⟨by decide +kernel, by decide +kernel⟩, List.mem_of_getElem? (i := 1082) (by decide +kernel), List.mem_of_getElem? (i := 1481) (by decide +kernel), List.mem_of_getElem? (i := 1482) (by decide +kernel)⟩
theorem lw_p19 : lw_okq (⟨"DryLandModel", "agentAt", "(II)I"⟩, 77) := ⟨⟨by decide +kernel, by decide +kernel⟩, List.mem_of_getElem? (i := 1082) (by decide +kernel), List.mem_of_getElem? (i := 1485) (by decide +kernel), List.mem_of_getElem? (i := 1486) (by decide +kernel)⟩
theorem lw_p20 : lw_okq (⟨"DryLandModel", "layMeets", "()V"⟩, 77) := ⟨⟨by decide +kernel, by decide +kernel⟩, List.mem_of_getElem? (i := 1082) (by decide +kernel), List.mem_of_getElem? (i := 1493) (by decide +kernel), List.mem_of_getElem? (i := 1494) (by decide +kernel)⟩
theorem lw_p21 : lw_okq (⟨"DryLandModel", "isWorld", "(I)Z"⟩, 77) := ⟨⟨by decide +kernel, by decide +kernel⟩, List.mem_of_getElem? (i := 1082) (by decide +kernel), List.mem_of_getElem? (i := 1497) (by decide +kernel), List.mem_of_getElem? (i := 1498) (by decide +kernel)⟩
theorem lw_p22 : lw_okq (⟨"DryLandModel", "isPerson", "(I)Z"⟩, 77) := ⟨⟨by decide +kernel, by decide +kernel⟩, List.mem_of_getElem? (i := 1082) (by decide +kernel), List.mem_of_getElem? (i := 1517) (by decide +kernel), List.mem_of_getElem? (i := 1518) (by decide +kernel)⟩
theorem lw_p23 : lw_okq (⟨"DryLandModel", "isCask", "(I)Z"⟩, 77) := ⟨⟨by decide +kernel, by decide +kernel⟩, List.mem_of_getElem? (i := 1082) (by decide +kernel), List.mem_of_getElem? (i := 1521) (by decide +kernel), List.mem_of_getElem? (i := 1522) (by decide +kernel)⟩
theorem lw_p24 : lw_okq (⟨"DryLandModel", "tells", "(IIZI)I"⟩, 77) := ⟨⟨by decide +kernel, by decide +kernel⟩, List.mem_of_getElem? (i := 1082) (by decide +kernel), List.mem_of_getElem? (i := 1525) (by decide +kernel), List.mem_of_getElem? (i := 1526) (by decide +kernel)⟩
theorem lw_p25 : lw_okq (⟨"DryLandModel", "findCuts", "(I)V"⟩, 77) := ⟨⟨by decide +kernel, by decide +kernel⟩, List.mem_of_getElem? (i := 1082) (by decide +kernel), List.mem_of_getElem? (i := 1537) (by decide +kernel), List.mem_of_getElem? (i := 1538) (by decide +kernel)⟩
theorem lw_p26 : lw_okq (⟨"DryLandModel", "layFacts", "(I)V"⟩, 77) := ⟨⟨by decide +kernel, by decide +kernel⟩, List.mem_of_getElem? (i := 1082) (by decide +kernel), List.mem_of_getElem? (i := 1541) (by decide +kernel), List.mem_of_getElem? (i := 1542) (by decide +kernel)⟩
theorem lw_p27 : lw_okq (⟨"DryLandModel", "isCut", "(I)Z"⟩, 77) := ⟨⟨by decide +kernel, by decide +kernel⟩, List.mem_of_getElem? (i := 1082) (by decide +kernel), List.mem_of_getElem? (i := 1545) (by decide +kernel), List.mem_of_getElem? (i := 1546) (by decide +kernel)⟩
theorem lw_p28 : lw_okq (⟨"DryLandModel", "isAnyKnown", "(I)Z"⟩, 77) := ⟨⟨by decide +kernel, by decide +kernel⟩, List.mem_of_getElem? (i := 1082) (by decide +kernel), List.mem_of_getElem? (i := 1556) (by decide +kernel), List.mem_of_getElem? (i := 1557) (by decide +kernel)⟩
theorem lw_p29 : lw_okq (⟨"DryLandModel", "isPaper", "(I)Z"⟩, 77) := ⟨⟨by decide +kernel, by decide +kernel⟩, List.mem_of_getElem? (i := 1082) (by decide +kernel), List.mem_of_getElem? (i := 1572) (by decide +kernel), List.mem_of_getElem? (i := 1573) (by decide +kernel)⟩
theorem lw_p30 : lw_okq (⟨"DryLandModel", "voidsWith", "(I)I"⟩, 77) := ⟨⟨by decide +kernel, by decide +kernel⟩, List.mem_of_getElem? (i := 1082) (by decide +kernel), List.mem_of_getElem? (i := 1580) (by decide +kernel), List.mem_of_getElem? (i := 1581) (by decide +kernel)⟩
theorem lw_p31 : lw_okq (⟨"DryLandModel", "savedBy", "(I)I"⟩, 77) := ⟨⟨by decide +kernel, by decide +kernel⟩, List.mem_of_getElem? (i := 1082) (by decide +kernel), List.mem_of_getElem? (i := 1588) (by decide +kernel), List.mem_of_getElem? (i := 1589) (by decide +kernel)⟩
def lw_privs_2 : List (MethodName × Nat) := [(⟨"DryLandModel", "isTruck", "(I)Z"⟩, 77), (⟨"DryLandModel", "meeting", "(I)I"⟩, 77), (⟨"DryLandModel", "doMeet", "(II)Z"⟩, 77), (⟨"DryLandModel", "agentAt", "(II)I"⟩, 77), (⟨"DryLandModel", "layMeets", "()V"⟩, 77), (⟨"DryLandModel", "isWorld", "(I)Z"⟩, 77), (⟨"DryLandModel", "isPerson", "(I)Z"⟩, 77), (⟨"DryLandModel", "isCask", "(I)Z"⟩, 77), (⟨"DryLandModel", "tells", "(IIZI)I"⟩, 77), (⟨"DryLandModel", "findCuts", "(I)V"⟩, 77), (⟨"DryLandModel", "layFacts", "(I)V"⟩, 77), (⟨"DryLandModel", "isCut", "(I)Z"⟩, 77), (⟨"DryLandModel", "isAnyKnown", "(I)Z"⟩, 77), (⟨"DryLandModel", "isPaper", "(I)Z"⟩, 77), (⟨"DryLandModel", "voidsWith", "(I)I"⟩, 77), (⟨"DryLandModel", "savedBy", "(I)I"⟩, 77)]
theorem lw_r2 : ∀ q ∈ lw_privs_2, lw_okq q := List.forall_mem_cons.mpr ⟨lw_p16, List.forall_mem_cons.mpr ⟨lw_p17, List.forall_mem_cons.mpr ⟨lw_p18, List.forall_mem_cons.mpr ⟨lw_p19, List.forall_mem_cons.mpr ⟨lw_p20, List.forall_mem_cons.mpr ⟨lw_p21, List.forall_mem_cons.mpr ⟨lw_p22, List.forall_mem_cons.mpr ⟨lw_p23, List.forall_mem_cons.mpr ⟨lw_p24, List.forall_mem_cons.mpr ⟨lw_p25, List.forall_mem_cons.mpr ⟨lw_p26, List.forall_mem_cons.mpr ⟨lw_p27, List.forall_mem_cons.mpr ⟨lw_p28, List.forall_mem_cons.mpr ⟨lw_p29, List.forall_mem_cons.mpr ⟨lw_p30, List.forall_mem_cons.mpr ⟨lw_p31, fun _ h => absurd h List.not_mem_nil⟩⟩⟩⟩⟩⟩⟩⟩⟩⟩⟩⟩⟩⟩⟩⟩
theorem lw_p32 : lw_okq (⟨"DryLandModel", "hear", "()I"⟩, 77) := ⟨⟨by decide +kernel, by decide +kernel⟩, List.mem_of_getElem? (i := 1082) (by decide +kernel), List.mem_of_getElem? (i := 1603) (by decide +kernel), List.mem_of_getElem? (i := 1604) (by decide +kernel)⟩
theorem lw_p33 : lw_okq (⟨"DryLandModel", "nextCase", "(II)I"⟩, 77) := ⟨⟨by decide +kernel, by decide +kernel⟩, List.mem_of_getElem? (i := 1082) (by decide +kernel), List.mem_of_getElem? (i := 1607) (by decide +kernel), List.mem_of_getElem? (i := 1608) (by decide +kernel)⟩
theorem lw_p34 : lw_okq (⟨"DryLandModel", "lost", "(I)J"⟩, 77) := ⟨⟨by decide +kernel, by decide +kernel⟩, List.mem_of_getElem? (i := 1082) (by decide +kernel), List.mem_of_getElem? (i := 1675) (by decide +kernel), List.mem_of_getElem? (i := 1676) (by decide +kernel)⟩
theorem lw_p35 : lw_okq (⟨"DryLandModel", "begins", "(I)V"⟩, 77) := ⟨⟨by decide +kernel, by decide +kernel⟩, List.mem_of_getElem? (i := 1082) (by decide +kernel), List.mem_of_getElem? (i := 1683) (by decide +kernel), List.mem_of_getElem? (i := 1684) (by decide +kernel)⟩
theorem lw_p36 : lw_okq (⟨"DryLandModel", "factsOf", "(I)I"⟩, 77) := ⟨⟨by decide +kernel, by decide +kernel⟩, List.mem_of_getElem? (i := 1082) (by decide +kernel), List.mem_of_getElem? (i := 1687) (by decide +kernel), List.mem_of_getElem? (i := 1688) (by decide +kernel)⟩
def lw_privs_3 : List (MethodName × Nat) := [(⟨"DryLandModel", "hear", "()I"⟩, 77), (⟨"DryLandModel", "nextCase", "(II)I"⟩, 77), (⟨"DryLandModel", "lost", "(I)J"⟩, 77), (⟨"DryLandModel", "begins", "(I)V"⟩, 77), (⟨"DryLandModel", "factsOf", "(I)I"⟩, 77)]
theorem lw_r3 : ∀ q ∈ lw_privs_3, lw_okq q := List.forall_mem_cons.mpr ⟨lw_p32, List.forall_mem_cons.mpr ⟨lw_p33, List.forall_mem_cons.mpr ⟨lw_p34, List.forall_mem_cons.mpr ⟨lw_p35, List.forall_mem_cons.mpr ⟨lw_p36, fun _ h => absurd h List.not_mem_nil⟩⟩⟩⟩⟩
def lw_privs : List (MethodName × Nat) := lw_privs_1 ++ (lw_privs_2 ++ (lw_privs_3))
def lw_tbl : List Cond := k2_sels lw_privs ++ tables_1
theorem lw_privs_ok : ∀ q ∈ lw_privs, lw_okq q := by
  show ∀ q ∈ lw_privs_1 ++ (lw_privs_2 ++ (lw_privs_3)), lw_okq q
  exact List.forall_mem_append.mpr ⟨lw_r1, List.forall_mem_append.mpr ⟨lw_r2, lw_r3⟩⟩
end
section
def RX0 : String := "DryLand$Act"
def TX0 : u_T := fun k => match k with
  | 0 => ("DryLand$Act", "lines", "[LDryLand$Line;", true)
  | _ => ("DryLand$Act", "count", "I", false)
def tyX0 : Nat → FieldType := fun k => match k with
  | 0 => .array (.object "DryLand$Line")
  | _ => .int
theorem nmX0 : ∀ a, a < 2 → ∀ b, b < 2 → a ≠ b → (TX0 a).2.1 ≠ (TX0 b).2.1 := by decide +kernel
theorem tyX0_ok : ∀ k, k < 2 → parseFieldDescriptor (TX0 k).2.2.1 = some (tyX0 k) := by decide +kernel
abbrev cX0_init : ByteArray := prog_2_method_1_code
def yX0_init : MethodName := ⟨RX0, "<init>", "()V"⟩
abbrev cX0_addLine : ByteArray := prog_2_method_2_code
def yX0_addLine : MethodName := ⟨RX0, "addLine", "(LDryLand$Line;)I"⟩
abbrev cX0_lineAt : ByteArray := prog_2_method_3_code
def yX0_lineAt : MethodName := ⟨RX0, "lineAt", "(I)LDryLand$Line;"⟩
abbrev cX0_firstStop : ByteArray := prog_2_method_4_code
def yX0_firstStop : MethodName := ⟨RX0, "firstStop", "(IIIII)I"⟩
abbrev cX0_inForce : ByteArray := prog_2_method_5_code
def yX0_inForce : MethodName := ⟨RX0, "inForce", "(I)I"⟩
def RX1 : String := "DryLand$Casks"
def TX1 : u_T := fun k => match k with
  | 0 => ("DryLand$Casks", "kinds", "[I", true)
  | 1 => ("DryLand$Casks", "strengths", "[I", true)
  | 2 => ("DryLand$Casks", "factPersons", "[I", true)
  | 3 => ("DryLand$Casks", "factCasks", "[I", true)
  | 4 => ("DryLand$Casks", "factHealths", "[I", true)
  | 5 => ("DryLand$Casks", "factDays", "[I", true)
  | 6 => ("DryLand$Casks", "drunkBy", "[I", true)
  | 7 => ("DryLand$Casks", "healths", "[I", true)
  | 8 => ("DryLand$Casks", "harmless", "I", false)
  | 9 => ("DryLand$Casks", "count", "I", false)
  | 10 => ("DryLand$Casks", "persons", "I", false)
  | 11 => ("DryLand$Casks", "facts", "I", false)
  | _ => ("DryLand$Casks", "trail", "I", false)
def tyX1 : Nat → FieldType := fun k => match k with
  | 0 => .array .int
  | 1 => .array .int
  | 2 => .array .int
  | 3 => .array .int
  | 4 => .array .int
  | 5 => .array .int
  | 6 => .array .int
  | 7 => .array .int
  | 8 => .int
  | 9 => .int
  | 10 => .int
  | 11 => .int
  | _ => .int
theorem nmX1 : ∀ a, a < 13 → ∀ b, b < 13 → a ≠ b → (TX1 a).2.1 ≠ (TX1 b).2.1 := by decide +kernel
theorem tyX1_ok : ∀ k, k < 13 → parseFieldDescriptor (TX1 k).2.2.1 = some (tyX1 k) := by decide +kernel
abbrev cX1_init : ByteArray := prog_3_method_1_code
def yX1_init : MethodName := ⟨RX1, "<init>", "()V"⟩
abbrev cX1_addCask : ByteArray := prog_3_method_2_code
def yX1_addCask : MethodName := ⟨RX1, "addCask", "(II)I"⟩
abbrev cX1_addPerson : ByteArray := prog_3_method_3_code
def yX1_addPerson : MethodName := ⟨RX1, "addPerson", "()I"⟩
abbrev cX1_hasCask : ByteArray := prog_3_method_4_code
def yX1_hasCask : MethodName := ⟨RX1, "hasCask", "(I)Z"⟩
abbrev cX1_hasPerson : ByteArray := prog_3_method_5_code
def yX1_hasPerson : MethodName := ⟨RX1, "hasPerson", "(I)Z"⟩
abbrev cX1_addFact : ByteArray := prog_3_method_6_code
def yX1_addFact : MethodName := ⟨RX1, "addFact", "(IIII)I"⟩
abbrev cX1_learn : ByteArray := prog_3_method_7_code
def yX1_learn : MethodName := ⟨RX1, "learn", "(I)V"⟩
abbrev cX1_learnFact : ByteArray := prog_3_method_8_code
def yX1_learnFact : MethodName := ⟨RX1, "learnFact", "(I)V"⟩
abbrev cX1_isCutSet : ByteArray := prog_3_method_9_code
def yX1_isCutSet : MethodName := ⟨RX1, "isCutSet", "(I)Z"⟩
abbrev cX1_countCutSets : ByteArray := prog_3_method_10_code
def yX1_countCutSets : MethodName := ⟨RX1, "countCutSets", "()I"⟩
abbrev cX1_fewest : ByteArray := prog_3_method_11_code
def yX1_fewest : MethodName := ⟨RX1, "fewest", "()I"⟩
abbrev cX1_inSome : ByteArray := prog_3_method_12_code
def yX1_inSome : MethodName := ⟨RX1, "inSome", "()I"⟩
abbrev cX1_inAll : ByteArray := prog_3_method_13_code
def yX1_inAll : MethodName := ⟨RX1, "inAll", "()I"⟩
abbrev cX1_personsWho : ByteArray := prog_3_method_14_code
def yX1_personsWho : MethodName := ⟨RX1, "personsWho", "(I)I"⟩
abbrev cX1_firstDayKnown : ByteArray := prog_3_method_15_code
def yX1_firstDayKnown : MethodName := ⟨RX1, "firstDayKnown", "(I)I"⟩
abbrev cX1_leave : ByteArray := prog_3_method_16_code
def yX1_leave : MethodName := ⟨RX1, "leave", "(I)V"⟩
abbrev cX1_tellOf : ByteArray := prog_3_method_17_code
def yX1_tellOf : MethodName := ⟨RX1, "tellOf", "(I)I"⟩
abbrev cX1_tellStuff : ByteArray := prog_3_method_18_code
def yX1_tellStuff : MethodName := ⟨RX1, "tellStuff", "(I)I"⟩
abbrev cX1_tellSpirit : ByteArray := prog_3_method_19_code
def yX1_tellSpirit : MethodName := ⟨RX1, "tellSpirit", "(I)I"⟩
abbrev cX1_tellMarked : ByteArray := prog_3_method_20_code
def yX1_tellMarked : MethodName := ⟨RX1, "tellMarked", "(I)I"⟩
abbrev cX1_factsOf : ByteArray := prog_3_method_21_code
def yX1_factsOf : MethodName := ⟨RX1, "factsOf", "(I)I"⟩
abbrev cX1_hangOf : ByteArray := prog_3_method_22_code
def yX1_hangOf : MethodName := ⟨RX1, "hangOf", "(I)I"⟩
def RX2 : String := "DryLand$Courts"
def TX2 : u_T := fun k => match k with
  | 0 => ("DryLand$Courts", "lengths", "[I", true)
  | 1 => ("DryLand$Courts", "comes", "[I", true)
  | 2 => ("DryLand$Courts", "ranks", "[I", true)
  | 3 => ("DryLand$Courts", "heardOn", "[I", true)
  | 4 => ("DryLand$Courts", "heardBy", "[I", true)
  | 5 => ("DryLand$Courts", "judges", "I", false)
  | 6 => ("DryLand$Courts", "minutesEach", "I", false)
  | 7 => ("DryLand$Courts", "cases", "I", false)
  | 8 => ("DryLand$Courts", "casesHeard", "I", false)
  | 9 => ("DryLand$Courts", "jurors", "I", false)
  | 10 => ("DryLand$Courts", "guilty", "J", false)
  | 11 => ("DryLand$Courts", "free", "J", false)
  | _ => ("DryLand$Courts", "whole", "J", false)
def tyX2 : Nat → FieldType := fun k => match k with
  | 0 => .array .int
  | 1 => .array .int
  | 2 => .array .int
  | 3 => .array .int
  | 4 => .array .int
  | 5 => .int
  | 6 => .int
  | 7 => .int
  | 8 => .int
  | 9 => .int
  | 10 => .long
  | 11 => .long
  | _ => .long
theorem nmX2 : ∀ a, a < 13 → ∀ b, b < 13 → a ≠ b → (TX2 a).2.1 ≠ (TX2 b).2.1 := by decide +kernel
theorem tyX2_ok : ∀ k, k < 13 → parseFieldDescriptor (TX2 k).2.2.1 = some (tyX2 k) := by decide +kernel
abbrev cX2_init : ByteArray := prog_4_method_1_code
def yX2_init : MethodName := ⟨RX2, "<init>", "()V"⟩
abbrev cX2_setCourt : ByteArray := prog_4_method_2_code
def yX2_setCourt : MethodName := ⟨RX2, "setCourt", "(II)I"⟩
abbrev cX2_addCase : ByteArray := prog_4_method_3_code
def yX2_addCase : MethodName := ⟨RX2, "addCase", "(III)I"⟩
abbrev cX2_hasCase : ByteArray := prog_4_method_4_code
def yX2_hasCase : MethodName := ⟨RX2, "hasCase", "(I)Z"⟩
abbrev cX2_hearCases : ByteArray := prog_4_method_5_code
def yX2_hearCases : MethodName := ⟨RX2, "hearCases", "()V"⟩
abbrev cX2_sit : ByteArray := prog_4_method_6_code
def yX2_sit : MethodName := ⟨RX2, "sit", "(II)V"⟩
abbrev cX2_nextCase : ByteArray := prog_4_method_7_code
def yX2_nextCase : MethodName := ⟨RX2, "nextCase", "(II)I"⟩
abbrev cX2_goesAhead : ByteArray := prog_4_method_8_code
def yX2_goesAhead : MethodName := ⟨RX2, "goesAhead", "(II)Z"⟩
abbrev cX2_countWaiting : ByteArray := prog_4_method_9_code
def yX2_countWaiting : MethodName := ⟨RX2, "countWaiting", "(I)I"⟩
abbrev cX2_addJuror : ByteArray := prog_4_method_10_code
def yX2_addJuror : MethodName := ⟨RX2, "addJuror", "(II)I"⟩
abbrev cX2_dismissAll : ByteArray := prog_4_method_11_code
def yX2_dismissAll : MethodName := ⟨RX2, "dismissAll", "()I"⟩
abbrev cX2_share : ByteArray := prog_4_method_12_code
def yX2_share : MethodName := ⟨RX2, "share", "(II)J"⟩
abbrev cX2_commonDivisor : ByteArray := prog_4_method_13_code
def yX2_commonDivisor : MethodName := ⟨RX2, "commonDivisor", "(JJ)J"⟩
def RX3 : String := "DryLand$Line"
def TX3 : u_T := fun k => match k with
  | 0 => ("DryLand$Line", "verb", "I", false)
  | 1 => ("DryLand$Line", "kind", "I", false)
  | 2 => ("DryLand$Line", "above", "I", false)
  | 3 => ("DryLand$Line", "from", "I", false)
  | 4 => ("DryLand$Line", "to", "I", false)
  | 5 => ("DryLand$Line", "letters", "I", false)
  | _ => ("DryLand$Line", "struck", "I", false)
def tyX3 : Nat → FieldType := fun k => match k with
  | 0 => .int
  | 1 => .int
  | 2 => .int
  | 3 => .int
  | 4 => .int
  | 5 => .int
  | _ => .int
theorem nmX3 : ∀ a, a < 7 → ∀ b, b < 7 → a ≠ b → (TX3 a).2.1 ≠ (TX3 b).2.1 := by decide +kernel
theorem tyX3_ok : ∀ k, k < 7 → parseFieldDescriptor (TX3 k).2.2.1 = some (tyX3 k) := by decide +kernel
abbrev cX3_init : ByteArray := prog_5_method_1_code
def yX3_init : MethodName := ⟨RX3, "<init>", "()V"⟩
abbrev cX3_isInForce : ByteArray := prog_5_method_2_code
def yX3_isInForce : MethodName := ⟨RX3, "isInForce", "(I)Z"⟩
abbrev cX3_halts : ByteArray := prog_5_method_3_code
def yX3_halts : MethodName := ⟨RX3, "halts", "(IIIII)Z"⟩
def RX4 : String := "DryLand$Nights"
def TX4 : u_T := fun k => match k with
  | 0 => ("DryLand$Nights", "rounds", "[[I", true)
  | 1 => ("DryLand$Nights", "roundLengths", "[I", true)
  | 2 => ("DryLand$Nights", "roads", "[[I", true)
  | 3 => ("DryLand$Nights", "roadLengths", "[I", true)
  | 4 => ("DryLand$Nights", "starts", "[I", true)
  | 5 => ("DryLand$Nights", "told", "[I", true)
  | 6 => ("DryLand$Nights", "meetings", "[I", true)
  | 7 => ("DryLand$Nights", "agents", "I", false)
  | _ => ("DryLand$Nights", "trucks", "I", false)
def tyX4 : Nat → FieldType := fun k => match k with
  | 0 => .array (.array .int)
  | 1 => .array .int
  | 2 => .array (.array .int)
  | 3 => .array .int
  | 4 => .array .int
  | 5 => .array .int
  | 6 => .array .int
  | 7 => .int
  | _ => .int
theorem nmX4 : ∀ a, a < 9 → ∀ b, b < 9 → a ≠ b → (TX4 a).2.1 ≠ (TX4 b).2.1 := by decide +kernel
theorem tyX4_ok : ∀ k, k < 9 → parseFieldDescriptor (TX4 k).2.2.1 = some (tyX4 k) := by decide +kernel
abbrev cX4_init : ByteArray := prog_6_method_1_code
def yX4_init : MethodName := ⟨RX4, "<init>", "()V"⟩
abbrev cX4_arePlaces : ByteArray := prog_6_method_2_code
def yX4_arePlaces : MethodName := ⟨RX4, "arePlaces", "([II)Z"⟩
abbrev cX4_hasAgent : ByteArray := prog_6_method_3_code
def yX4_hasAgent : MethodName := ⟨RX4, "hasAgent", "(I)Z"⟩
abbrev cX4_hasTruck : ByteArray := prog_6_method_4_code
def yX4_hasTruck : MethodName := ⟨RX4, "hasTruck", "(I)Z"⟩
abbrev cX4_addAgent : ByteArray := prog_6_method_5_code
def yX4_addAgent : MethodName := ⟨RX4, "addAgent", "([II)I"⟩
abbrev cX4_addTruck : ByteArray := prog_6_method_6_code
def yX4_addTruck : MethodName := ⟨RX4, "addTruck", "(II[II)I"⟩
abbrev cX4_tellTruck : ByteArray := prog_6_method_7_code
def yX4_tellTruck : MethodName := ⟨RX4, "tellTruck", "(II)I"⟩
abbrev cX4_noteMeeting : ByteArray := prog_6_method_8_code
def yX4_noteMeeting : MethodName := ⟨RX4, "noteMeeting", "(II)V"⟩
abbrev cX4_doMeet : ByteArray := prog_6_method_9_code
def yX4_doMeet : MethodName := ⟨RX4, "doMeet", "(II)Z"⟩
abbrev cX4_agentAt : ByteArray := prog_6_method_10_code
def yX4_agentAt : MethodName := ⟨RX4, "agentAt", "(II)I"⟩
abbrev cX4_isWorld : ByteArray := prog_6_method_11_code
def yX4_isWorld : MethodName := ⟨RX4, "isWorld", "(I)Z"⟩
abbrev cX4_worldsWith : ByteArray := prog_6_method_12_code
def yX4_worldsWith : MethodName := ⟨RX4, "worldsWith", "(I)I"⟩
abbrev cX4_sureOf : ByteArray := prog_6_method_13_code
def yX4_sureOf : MethodName := ⟨RX4, "sureOf", "(I)I"⟩
def RX5 : String := "DryLand$Papers"
def TX5 : u_T := fun k => match k with
  | 0 => ("DryLand$Papers", "founds", "[I", true)
  | 1 => ("DryLand$Papers", "mets", "[Z", true)
  | _ => ("DryLand$Papers", "count", "I", false)
def tyX5 : Nat → FieldType := fun k => match k with
  | 0 => .array .int
  | 1 => .array .boolean
  | _ => .int
theorem nmX5 : ∀ a, a < 3 → ∀ b, b < 3 → a ≠ b → (TX5 a).2.1 ≠ (TX5 b).2.1 := by decide +kernel
theorem tyX5_ok : ∀ k, k < 3 → parseFieldDescriptor (TX5 k).2.2.1 = some (tyX5 k) := by decide +kernel
abbrev cX5_init : ByteArray := prog_7_method_1_code
def yX5_init : MethodName := ⟨RX5, "<init>", "()V"⟩
abbrev cX5_addPaper : ByteArray := prog_7_method_2_code
def yX5_addPaper : MethodName := ⟨RX5, "addPaper", "(IZ)I"⟩
abbrev cX5_areThere : ByteArray := prog_7_method_3_code
def yX5_areThere : MethodName := ⟨RX5, "areThere", "(I)Z"⟩
abbrev cX5_hasPaper : ByteArray := prog_7_method_4_code
def yX5_hasPaper : MethodName := ⟨RX5, "hasPaper", "(I)Z"⟩
abbrev cX5_isRaid : ByteArray := prog_7_method_5_code
def yX5_isRaid : MethodName := ⟨RX5, "isRaid", "(I)Z"⟩
abbrev cX5_isUnmetRaid : ByteArray := prog_7_method_6_code
def yX5_isUnmetRaid : MethodName := ⟨RX5, "isUnmetRaid", "(I)Z"⟩
abbrev cX5_tellRaid : ByteArray := prog_7_method_7_code
def yX5_tellRaid : MethodName := ⟨RX5, "tellRaid", "(IZ)I"⟩
abbrev cX5_voidsIf : ByteArray := prog_7_method_8_code
def yX5_voidsIf : MethodName := ⟨RX5, "voidsIf", "(I)I"⟩
abbrev cX5_savedBy : ByteArray := prog_7_method_9_code
def yX5_savedBy : MethodName := ⟨RX5, "savedBy", "(I)I"⟩
abbrev cX5_worstRaid : ByteArray := prog_7_method_10_code
def yX5_worstRaid : MethodName := ⟨RX5, "worstRaid", "()I"⟩
def RX6 : String := "DryLand$Reader"
def TX6 : u_T := fun k => match k with
  | 0 => ("DryLand$Reader", "codes", "[I", true)
  | 1 => ("DryLand$Reader", "length", "I", false)
  | _ => ("DryLand$Reader", "place", "I", false)
def tyX6 : Nat → FieldType := fun k => match k with
  | 0 => .array .int
  | 1 => .int
  | _ => .int
theorem nmX6 : ∀ a, a < 3 → ∀ b, b < 3 → a ≠ b → (TX6 a).2.1 ≠ (TX6 b).2.1 := by decide +kernel
theorem tyX6_ok : ∀ k, k < 3 → parseFieldDescriptor (TX6 k).2.2.1 = some (tyX6 k) := by decide +kernel
abbrev cX6_init : ByteArray := prog_8_method_1_code
def yX6_init : MethodName := ⟨RX6, "<init>", "()V"⟩
abbrev cX6_readLine : ByteArray := prog_8_method_2_code
def yX6_readLine : MethodName := ⟨RX6, "readLine", "([II)LDryLand$Line;"⟩
abbrev cX6_readVerbAndKind : ByteArray := prog_8_method_3_code
def yX6_readVerbAndKind : MethodName := ⟨RX6, "readVerbAndKind", "(LDryLand$Line;)Z"⟩
abbrev cX6_readAbove : ByteArray := prog_8_method_4_code
def yX6_readAbove : MethodName := ⟨RX6, "readAbove", "(LDryLand$Line;)Z"⟩
abbrev cX6_readDays : ByteArray := prog_8_method_5_code
def yX6_readDays : MethodName := ⟨RX6, "readDays", "(LDryLand$Line;)Z"⟩
abbrev cX6_readLetters : ByteArray := prog_8_method_6_code
def yX6_readLetters : MethodName := ⟨RX6, "readLetters", "(LDryLand$Line;)Z"⟩
abbrev cX6_readLetter : ByteArray := prog_8_method_7_code
def yX6_readLetter : MethodName := ⟨RX6, "readLetter", "(LDryLand$Line;)Z"⟩
abbrev cX6_number : ByteArray := prog_8_method_8_code
def yX6_number : MethodName := ⟨RX6, "number", "()I"⟩
abbrev cX6_sign : ByteArray := prog_8_method_9_code
def yX6_sign : MethodName := ⟨RX6, "sign", "(I)Z"⟩
abbrev cX6_oneOf : ByteArray := prog_8_method_10_code
def yX6_oneOf : MethodName := ⟨RX6, "oneOf", "([I)I"⟩
def RX7 : String := "DryLand$Sheets"
def TX7 : u_T := fun k => match k with
  | 0 => ("DryLand$Sheets", "rows", "[[I", true)
  | 1 => ("DryLand$Sheets", "lanes", "[I", true)
  | 2 => ("DryLand$Sheets", "lengths", "[I", true)
  | 3 => ("DryLand$Sheets", "taken", "[I", true)
  | _ => ("DryLand$Sheets", "fault", "I", false)
def tyX7 : Nat → FieldType := fun k => match k with
  | 0 => .array (.array .int)
  | 1 => .array .int
  | 2 => .array .int
  | 3 => .array .int
  | _ => .int
theorem nmX7 : ∀ a, a < 5 → ∀ b, b < 5 → a ≠ b → (TX7 a).2.1 ≠ (TX7 b).2.1 := by decide +kernel
theorem tyX7_ok : ∀ k, k < 5 → parseFieldDescriptor (TX7 k).2.2.1 = some (tyX7 k) := by decide +kernel
abbrev cX7_init : ByteArray := prog_9_method_1_code
def yX7_init : MethodName := ⟨RX7, "<init>", "()V"⟩
abbrev cX7_isSheet : ByteArray := prog_9_method_2_code
def yX7_isSheet : MethodName := ⟨RX7, "isSheet", "(I)Z"⟩
abbrev cX7_isLane : ByteArray := prog_9_method_3_code
def yX7_isLane : MethodName := ⟨RX7, "isLane", "(I)Z"⟩
abbrev cX7_fail : ByteArray := prog_9_method_4_code
def yX7_fail : MethodName := ⟨RX7, "fail", "(I)I"⟩
abbrev cX7_renew : ByteArray := prog_9_method_5_code
def yX7_renew : MethodName := ⟨RX7, "renew", "(III)I"⟩
abbrev cX7_drop : ByteArray := prog_9_method_6_code
def yX7_drop : MethodName := ⟨RX7, "drop", "(I)I"⟩
abbrev cX7_write : ByteArray := prog_9_method_7_code
def yX7_write : MethodName := ⟨RX7, "write", "(III)I"⟩
abbrev cX7_cutToLane : ByteArray := prog_9_method_8_code
def yX7_cutToLane : MethodName := ⟨RX7, "cutToLane", "(II)I"⟩
abbrev cX7_take : ByteArray := prog_9_method_9_code
def yX7_take : MethodName := ⟨RX7, "take", "(IIZII)I"⟩
abbrev cX7_faultOfTaking : ByteArray := prog_9_method_10_code
def yX7_faultOfTaking : MethodName := ⟨RX7, "faultOfTaking", "(IIII)I"⟩
def RX8 : String := "DryLand$Slips"
def TX8 : u_T := fun k => match k with
  | 0 => ("DryLand$Slips", "hours", "[I", true)
  | 1 => ("DryLand$Slips", "by", "[I", true)
  | 2 => ("DryLand$Slips", "numbers", "[I", true)
  | 3 => ("DryLand$Slips", "days", "[I", true)
  | 4 => ("DryLand$Slips", "doctors", "I", false)
  | _ => ("DryLand$Slips", "count", "I", false)
def tyX8 : Nat → FieldType := fun k => match k with
  | 0 => .array .int
  | 1 => .array .int
  | 2 => .array .int
  | 3 => .array .int
  | 4 => .int
  | _ => .int
theorem nmX8 : ∀ a, a < 6 → ∀ b, b < 6 → a ≠ b → (TX8 a).2.1 ≠ (TX8 b).2.1 := by decide +kernel
theorem tyX8_ok : ∀ k, k < 6 → parseFieldDescriptor (TX8 k).2.2.1 = some (tyX8 k) := by decide +kernel
abbrev cX8_init : ByteArray := prog_10_method_1_code
def yX8_init : MethodName := ⟨RX8, "<init>", "()V"⟩
abbrev cX8_addDoctor : ByteArray := prog_10_method_2_code
def yX8_addDoctor : MethodName := ⟨RX8, "addDoctor", "(I)I"⟩
abbrev cX8_hasDoctor : ByteArray := prog_10_method_3_code
def yX8_hasDoctor : MethodName := ⟨RX8, "hasDoctor", "(I)Z"⟩
abbrev cX8_addSlip : ByteArray := prog_10_method_4_code
def yX8_addSlip : MethodName := ⟨RX8, "addSlip", "(III)I"⟩
abbrev cX8_countTwice : ByteArray := prog_10_method_5_code
def yX8_countTwice : MethodName := ⟨RX8, "countTwice", "()I"⟩
abbrev cX8_isUsedAhead : ByteArray := prog_10_method_6_code
def yX8_isUsedAhead : MethodName := ⟨RX8, "isUsedAhead", "(I)Z"⟩
abbrev cX8_tooManyOf : ByteArray := prog_10_method_7_code
def yX8_tooManyOf : MethodName := ⟨RX8, "tooManyOf", "(II)I"⟩
abbrev cX8_countOn : ByteArray := prog_10_method_8_code
def yX8_countOn : MethodName := ⟨RX8, "countOn", "(II)I"⟩
def RX9 : String := "DryLand$Towns"
def TX9 : u_T := fun k => match k with
  | 0 => ("DryLand$Towns", "habits", "[I", true)
  | 1 => ("DryLand$Towns", "stocks", "[I", true)
  | 2 => ("DryLand$Towns", "prices", "[I", true)
  | 3 => ("DryLand$Towns", "weeks", "[I", true)
  | 4 => ("DryLand$Towns", "drunk", "[I", true)
  | _ => ("DryLand$Towns", "count", "I", false)
def tyX9 : Nat → FieldType := fun k => match k with
  | 0 => .array .int
  | 1 => .array .int
  | 2 => .array .int
  | 3 => .array .int
  | 4 => .array .int
  | _ => .int
theorem nmX9 : ∀ a, a < 6 → ∀ b, b < 6 → a ≠ b → (TX9 a).2.1 ≠ (TX9 b).2.1 := by decide +kernel
theorem tyX9_ok : ∀ k, k < 6 → parseFieldDescriptor (TX9 k).2.2.1 = some (tyX9 k) := by decide +kernel
abbrev cX9_init : ByteArray := prog_11_method_1_code
def yX9_init : MethodName := ⟨RX9, "<init>", "()V"⟩
abbrev cX9_addTown : ByteArray := prog_11_method_2_code
def yX9_addTown : MethodName := ⟨RX9, "addTown", "(II)I"⟩
abbrev cX9_hasTown : ByteArray := prog_11_method_3_code
def yX9_hasTown : MethodName := ⟨RX9, "hasTown", "(I)Z"⟩
abbrev cX9_passWeek : ByteArray := prog_11_method_4_code
def yX9_passWeek : MethodName := ⟨RX9, "passWeek", "(II)I"⟩
abbrev cX9_nextPrice : ByteArray := prog_11_method_5_code
def yX9_nextPrice : MethodName := ⟨RX9, "nextPrice", "(III)I"⟩
def RX10 : String := "DryLand$Ways"
def TX10 : u_T := fun k => match k with
  | 0 => ("DryLand$Ways", "froms", "[I", true)
  | 1 => ("DryLand$Ways", "tos", "[I", true)
  | 2 => ("DryLand$Ways", "verbs", "[I", true)
  | 3 => ("DryLand$Ways", "kinds", "[I", true)
  | 4 => ("DryLand$Ways", "strengths", "[I", true)
  | 5 => ("DryLand$Ways", "whos", "[I", true)
  | 6 => ("DryLand$Ways", "open", "[Z", true)
  | 7 => ("DryLand$Ways", "toTable", "[I", true)
  | 8 => ("DryLand$Ways", "row", "[I", true)
  | _ => ("DryLand$Ways", "count", "I", false)
def tyX10 : Nat → FieldType := fun k => match k with
  | 0 => .array .int
  | 1 => .array .int
  | 2 => .array .int
  | 3 => .array .int
  | 4 => .array .int
  | 5 => .array .int
  | 6 => .array .boolean
  | 7 => .array .int
  | 8 => .array .int
  | _ => .int
theorem nmX10 : ∀ a, a < 10 → ∀ b, b < 10 → a ≠ b → (TX10 a).2.1 ≠ (TX10 b).2.1 := by decide +kernel
theorem tyX10_ok : ∀ k, k < 10 → parseFieldDescriptor (TX10 k).2.2.1 = some (tyX10 k) := by decide +kernel
abbrev cX10_init : ByteArray := prog_12_method_1_code
def yX10_init : MethodName := ⟨RX10, "<init>", "()V"⟩
abbrev cX10_addStep : ByteArray := prog_12_method_2_code
def yX10_addStep : MethodName := ⟨RX10, "addStep", "(IIIIII)I"⟩
abbrev cX10_isOpen : ByteArray := prog_12_method_3_code
def yX10_isOpen : MethodName := ⟨RX10, "isOpen", "(LDryLand$Act;II)Z"⟩
abbrev cX10_wouldStop : ByteArray := prog_12_method_4_code
def yX10_wouldStop : MethodName := ⟨RX10, "wouldStop", "(LDryLand$Act;LDryLand$Line;I)I"⟩
abbrev cX10_findLeast : ByteArray := prog_12_method_5_code
def yX10_findLeast : MethodName := ⟨RX10, "findLeast", "(LDryLand$Act;I)I"⟩
abbrev cX10_measure : ByteArray := prog_12_method_6_code
def yX10_measure : MethodName := ⟨RX10, "measure", "()V"⟩
abbrev cX10_walk : ByteArray := prog_12_method_7_code
def yX10_walk : MethodName := ⟨RX10, "walk", "(I)V"⟩
abbrev cX10_firstNearer : ByteArray := prog_12_method_8_code
def yX10_firstNearer : MethodName := ⟨RX10, "firstNearer", "(I)I"⟩
def RX11 : String := "DryLand"
def TX11 : u_T := fun k => match k with
  | 0 => ("DryLand", "sheets", "LDryLand$Sheets;", true)
  | 1 => ("DryLand", "reader", "LDryLand$Reader;", true)
  | 2 => ("DryLand", "act", "LDryLand$Act;", true)
  | 3 => ("DryLand", "ways", "LDryLand$Ways;", true)
  | 4 => ("DryLand", "slips", "LDryLand$Slips;", true)
  | 5 => ("DryLand", "nights", "LDryLand$Nights;", true)
  | 6 => ("DryLand", "casks", "LDryLand$Casks;", true)
  | 7 => ("DryLand", "papers", "LDryLand$Papers;", true)
  | 8 => ("DryLand", "courts", "LDryLand$Courts;", true)
  | 9 => ("DryLand", "towns", "LDryLand$Towns;", true)
  | _ => ("DryLand", "milesNow", "I", false)
def tyX11 : Nat → FieldType := fun k => match k with
  | 0 => .object "DryLand$Sheets"
  | 1 => .object "DryLand$Reader"
  | 2 => .object "DryLand$Act"
  | 3 => .object "DryLand$Ways"
  | 4 => .object "DryLand$Slips"
  | 5 => .object "DryLand$Nights"
  | 6 => .object "DryLand$Casks"
  | 7 => .object "DryLand$Papers"
  | 8 => .object "DryLand$Courts"
  | 9 => .object "DryLand$Towns"
  | _ => .int
theorem nmX11 : ∀ a, a < 11 → ∀ b, b < 11 → a ≠ b → (TX11 a).2.1 ≠ (TX11 b).2.1 := by decide +kernel
theorem tyX11_ok : ∀ k, k < 11 → parseFieldDescriptor (TX11 k).2.2.1 = some (tyX11 k) := by decide +kernel
abbrev cX11_init : ByteArray := prog_1_method_1_code
def yX11_init : MethodName := ⟨RX11, "<init>", "()V"⟩
abbrev cX11_text : ByteArray := prog_1_method_2_code
def yX11_text : MethodName := ⟨RX11, "text", "(IIII)I"⟩
abbrev cX11_strike : ByteArray := prog_1_method_3_code
def yX11_strike : MethodName := ⟨RX11, "strike", "(II)I"⟩
abbrev cX11_line : ByteArray := prog_1_method_4_code
def yX11_line : MethodName := ⟨RX11, "line", "(II)I"⟩
abbrev cX11_stops : ByteArray := prog_1_method_5_code
def yX11_stops : MethodName := ⟨RX11, "stops", "(IIIII)I"⟩
abbrev cX11_why : ByteArray := prog_1_method_6_code
def yX11_why : MethodName := ⟨RX11, "why", "(IIIII)I"⟩
abbrev cX11_force : ByteArray := prog_1_method_7_code
def yX11_force : MethodName := ⟨RX11, "force", "(I)I"⟩
abbrev cX11_step : ByteArray := prog_1_method_8_code
def yX11_step : MethodName := ⟨RX11, "step", "(IIIIII)I"⟩
abbrev cX11_least : ByteArray := prog_1_method_9_code
def yX11_least : MethodName := ⟨RX11, "least", "(II)I"⟩
abbrev cX11_more : ByteArray := prog_1_method_10_code
def yX11_more : MethodName := ⟨RX11, "more", "(IIIII)I"⟩
abbrev cX11_doctor : ByteArray := prog_1_method_11_code
def yX11_doctor : MethodName := ⟨RX11, "doctor", "(I)I"⟩
abbrev cX11_slip : ByteArray := prog_1_method_12_code
def yX11_slip : MethodName := ⟨RX11, "slip", "(III)I"⟩
abbrev cX11_twice : ByteArray := prog_1_method_13_code
def yX11_twice : MethodName := ⟨RX11, "twice", "()I"⟩
abbrev cX11_tooMany : ByteArray := prog_1_method_14_code
def yX11_tooMany : MethodName := ⟨RX11, "tooMany", "(II)I"⟩
abbrev cX11_agent : ByteArray := prog_1_method_15_code
def yX11_agent : MethodName := ⟨RX11, "agent", "(IIII)I"⟩
abbrev cX11_truck : ByteArray := prog_1_method_16_code
def yX11_truck : MethodName := ⟨RX11, "truck", "(IIIIII)I"⟩
abbrev cX11_came : ByteArray := prog_1_method_17_code
def yX11_came : MethodName := ⟨RX11, "came", "(II)I"⟩
abbrev cX11_meets : ByteArray := prog_1_method_18_code
def yX11_meets : MethodName := ⟨RX11, "meets", "(I)I"⟩
abbrev cX11_worlds : ByteArray := prog_1_method_19_code
def yX11_worlds : MethodName := ⟨RX11, "worlds", "()I"⟩
abbrev cX11_sure : ByteArray := prog_1_method_20_code
def yX11_sure : MethodName := ⟨RX11, "sure", "(II)I"⟩
abbrev cX11_cask : ByteArray := prog_1_method_21_code
def yX11_cask : MethodName := ⟨RX11, "cask", "(II)I"⟩
abbrev cX11_person : ByteArray := prog_1_method_22_code
def yX11_person : MethodName := ⟨RX11, "person", "()I"⟩
abbrev cX11_drank : ByteArray := prog_1_method_23_code
def yX11_drank : MethodName := ⟨RX11, "drank", "(III)I"⟩
abbrev cX11_fell : ByteArray := prog_1_method_24_code
def yX11_fell : MethodName := ⟨RX11, "fell", "(IZI)I"⟩
abbrev cX11_cut : ByteArray := prog_1_method_25_code
def yX11_cut : MethodName := ⟨RX11, "cut", "(II)I"⟩
abbrev cX11_knew : ByteArray := prog_1_method_26_code
def yX11_knew : MethodName := ⟨RX11, "knew", "(I)I"⟩
abbrev cX11_raid : ByteArray := prog_1_method_27_code
def yX11_raid : MethodName := ⟨RX11, "raid", "(Z)I"⟩
abbrev cX11_paper : ByteArray := prog_1_method_28_code
def yX11_paper : MethodName := ⟨RX11, "paper", "(I)I"⟩
abbrev cX11_met : ByteArray := prog_1_method_29_code
def yX11_met : MethodName := ⟨RX11, "met", "(IZ)I"⟩
abbrev cX11_voids : ByteArray := prog_1_method_30_code
def yX11_voids : MethodName := ⟨RX11, "voids", "()I"⟩
abbrev cX11_saved : ByteArray := prog_1_method_31_code
def yX11_saved : MethodName := ⟨RX11, "saved", "(I)I"⟩
abbrev cX11_worst : ByteArray := prog_1_method_32_code
def yX11_worst : MethodName := ⟨RX11, "worst", "()I"⟩
abbrev cX11_court : ByteArray := prog_1_method_33_code
def yX11_court : MethodName := ⟨RX11, "court", "(II)I"⟩
abbrev cX11_sue : ByteArray := prog_1_method_34_code
def yX11_sue : MethodName := ⟨RX11, "sue", "(III)I"⟩
abbrev cX11_heard : ByteArray := prog_1_method_35_code
def yX11_heard : MethodName := ⟨RX11, "heard", "(II)I"⟩
abbrev cX11_waiting : ByteArray := prog_1_method_36_code
def yX11_waiting : MethodName := ⟨RX11, "waiting", "(I)I"⟩
abbrev cX11_juror : ByteArray := prog_1_method_37_code
def yX11_juror : MethodName := ⟨RX11, "juror", "(II)I"⟩
abbrev cX11_dismiss : ByteArray := prog_1_method_38_code
def yX11_dismiss : MethodName := ⟨RX11, "dismiss", "()I"⟩
abbrev cX11_jury : ByteArray := prog_1_method_39_code
def yX11_jury : MethodName := ⟨RX11, "jury", "(II)J"⟩
abbrev cX11_miles : ByteArray := prog_1_method_40_code
def yX11_miles : MethodName := ⟨RX11, "miles", "(I)I"⟩
abbrev cX11_chase : ByteArray := prog_1_method_41_code
def yX11_chase : MethodName := ⟨RX11, "chase", "(IIIIIII)I"⟩
abbrev cX11_town : ByteArray := prog_1_method_42_code
def yX11_town : MethodName := ⟨RX11, "town", "(II)I"⟩
abbrev cX11_week : ByteArray := prog_1_method_43_code
def yX11_week : MethodName := ⟨RX11, "week", "(II)I"⟩
abbrev cX11_ofTown : ByteArray := prog_1_method_44_code
def yX11_ofTown : MethodName := ⟨RX11, "ofTown", "(II)I"⟩
abbrev cX11_sheet : ByteArray := prog_1_method_45_code
def yX11_sheet : MethodName := ⟨RX11, "sheet", "(III)I"⟩
abbrev cX11_lose : ByteArray := prog_1_method_46_code
def yX11_lose : MethodName := ⟨RX11, "lose", "(I)I"⟩
abbrev cX11_put : ByteArray := prog_1_method_47_code
def yX11_put : MethodName := ⟨RX11, "put", "(III)I"⟩
abbrev cX11_cell : ByteArray := prog_1_method_48_code
def yX11_cell : MethodName := ⟨RX11, "cell", "(III)J"⟩
abbrev cX11_tell : ByteArray := prog_1_method_49_code
def yX11_tell : MethodName := ⟨RX11, "tell", "(I)I"⟩
abbrev cX11_hang : ByteArray := prog_1_method_50_code
def yX11_hang : MethodName := ⟨RX11, "hang", "(I)I"⟩
abbrev cX11_as : ByteArray := prog_1_method_51_code
def yX11_as : MethodName := ⟨RX11, "as", "(II)I"⟩
abbrev cX11_trace : ByteArray := prog_1_method_52_code
def yX11_trace : MethodName := ⟨RX11, "trace", "()I"⟩
abbrev cX11_fault : ByteArray := prog_1_method_53_code
def yX11_fault : MethodName := ⟨RX11, "fault", "()I"⟩
abbrev cX11_many : ByteArray := prog_1_method_54_code
def yX11_many : MethodName := ⟨RX11, "many", "(I)I"⟩
abbrev cX11_within : ByteArray := prog_1_method_55_code
def yX11_within : MethodName := ⟨RX11, "within", "(III)Z"⟩
abbrev cX11_isDay : ByteArray := prog_1_method_56_code
def yX11_isDay : MethodName := ⟨RX11, "isDay", "(I)Z"⟩
abbrev cX11_isDeed : ByteArray := prog_1_method_57_code
def yX11_isDeed : MethodName := ⟨RX11, "isDeed", "(IIII)Z"⟩
abbrev cX11_isSea : ByteArray := prog_1_method_58_code
def yX11_isSea : MethodName := ⟨RX11, "isSea", "(II)Z"⟩
def RX12 : String := "DryLandModel"
def TX12 : u_T := fun k => match k with
  | 0 => ("DryLandModel", "fault", "I", false)
  | 1 => ("DryLandModel", "trace", "I", false)
  | 2 => ("DryLandModel", "lanes", "[I", true)
  | 3 => ("DryLandModel", "sheetLong", "[I", true)
  | 4 => ("DryLandModel", "cells", "[I", true)
  | 5 => ("DryLandModel", "lines", "I", false)
  | 6 => ("DryLandModel", "verbs", "[I", true)
  | 7 => ("DryLandModel", "kinds", "[I", true)
  | 8 => ("DryLandModel", "above", "[I", true)
  | 9 => ("DryLandModel", "fromDay", "[I", true)
  | 10 => ("DryLandModel", "toDay", "[I", true)
  | 11 => ("DryLandModel", "letters", "[I", true)
  | 12 => ("DryLandModel", "struck", "[I", true)
  | 13 => ("DryLandModel", "at", "I", false)
  | 14 => ("DryLandModel", "end", "I", false)
  | 15 => ("DryLandModel", "isWrong", "Z", false)
  | 16 => ("DryLandModel", "steps", "I", false)
  | 17 => ("DryLandModel", "stepFrom", "[I", true)
  | 18 => ("DryLandModel", "stepTo", "[I", true)
  | 19 => ("DryLandModel", "stepVerb", "[I", true)
  | 20 => ("DryLandModel", "stepKind", "[I", true)
  | 21 => ("DryLandModel", "stepStrength", "[I", true)
  | 22 => ("DryLandModel", "stepWho", "[I", true)
  | 23 => ("DryLandModel", "far", "[I", true)
  | 24 => ("DryLandModel", "way", "[I", true)
  | 25 => ("DryLandModel", "doctors", "I", false)
  | 26 => ("DryLandModel", "hours", "[I", true)
  | 27 => ("DryLandModel", "slips", "I", false)
  | 28 => ("DryLandModel", "slipDoctor", "[I", true)
  | 29 => ("DryLandModel", "slipNumber", "[I", true)
  | 30 => ("DryLandModel", "slipDay", "[I", true)
  | 31 => ("DryLandModel", "agents", "I", false)
  | 32 => ("DryLandModel", "agentLong", "[I", true)
  | 33 => ("DryLandModel", "agentRow", "[I", true)
  | 34 => ("DryLandModel", "trucks", "I", false)
  | 35 => ("DryLandModel", "truckHour", "[I", true)
  | 36 => ("DryLandModel", "truckCame", "[I", true)
  | 37 => ("DryLandModel", "truckLong", "[I", true)
  | 38 => ("DryLandModel", "truckRow", "[I", true)
  | 39 => ("DryLandModel", "metBy", "[I", true)
  | 40 => ("DryLandModel", "casks", "I", false)
  | 41 => ("DryLandModel", "caskKind", "[I", true)
  | 42 => ("DryLandModel", "caskStrength", "[I", true)
  | 43 => ("DryLandModel", "persons", "I", false)
  | 44 => ("DryLandModel", "facts", "I", false)
  | 45 => ("DryLandModel", "factPerson", "[I", true)
  | 46 => ("DryLandModel", "factCask", "[I", true)
  | 47 => ("DryLandModel", "isIll", "[Z", true)
  | 48 => ("DryLandModel", "factDay", "[I", true)
  | 49 => ("DryLandModel", "drunk", "[I", true)
  | 50 => ("DryLandModel", "ill", "I", false)
  | 51 => ("DryLandModel", "well", "I", false)
  | 52 => ("DryLandModel", "cuts", "I", false)
  | 53 => ("DryLandModel", "fewest", "I", false)
  | 54 => ("DryLandModel", "inAll", "I", false)
  | 55 => ("DryLandModel", "inSome", "I", false)
  | 56 => ("DryLandModel", "papers", "I", false)
  | 57 => ("DryLandModel", "foundBy", "[I", true)
  | 58 => ("DryLandModel", "isMet", "[Z", true)
  | 59 => ("DryLandModel", "judges", "I", false)
  | 60 => ("DryLandModel", "minutesADay", "I", false)
  | 61 => ("DryLandModel", "cases", "I", false)
  | 62 => ("DryLandModel", "caseMinutes", "[I", true)
  | 63 => ("DryLandModel", "caseDay", "[I", true)
  | 64 => ("DryLandModel", "caseRank", "[I", true)
  | 65 => ("DryLandModel", "heardOn", "[I", true)
  | 66 => ("DryLandModel", "heardBy", "[I", true)
  | 67 => ("DryLandModel", "jurors", "I", false)
  | 68 => ("DryLandModel", "oddsUp", "[I", true)
  | 69 => ("DryLandModel", "oddsDown", "[I", true)
  | 70 => ("DryLandModel", "miles", "I", false)
  | 71 => ("DryLandModel", "towns", "I", false)
  | 72 => ("DryLandModel", "habit", "[I", true)
  | 73 => ("DryLandModel", "stock", "[I", true)
  | 74 => ("DryLandModel", "price", "[I", true)
  | 75 => ("DryLandModel", "weeks", "[I", true)
  | _ => ("DryLandModel", "drunkAll", "[I", true)
def tyX12 : Nat → FieldType := fun k => match k with
  | 0 => .int
  | 1 => .int
  | 2 => .array .int
  | 3 => .array .int
  | 4 => .array .int
  | 5 => .int
  | 6 => .array .int
  | 7 => .array .int
  | 8 => .array .int
  | 9 => .array .int
  | 10 => .array .int
  | 11 => .array .int
  | 12 => .array .int
  | 13 => .int
  | 14 => .int
  | 15 => .boolean
  | 16 => .int
  | 17 => .array .int
  | 18 => .array .int
  | 19 => .array .int
  | 20 => .array .int
  | 21 => .array .int
  | 22 => .array .int
  | 23 => .array .int
  | 24 => .array .int
  | 25 => .int
  | 26 => .array .int
  | 27 => .int
  | 28 => .array .int
  | 29 => .array .int
  | 30 => .array .int
  | 31 => .int
  | 32 => .array .int
  | 33 => .array .int
  | 34 => .int
  | 35 => .array .int
  | 36 => .array .int
  | 37 => .array .int
  | 38 => .array .int
  | 39 => .array .int
  | 40 => .int
  | 41 => .array .int
  | 42 => .array .int
  | 43 => .int
  | 44 => .int
  | 45 => .array .int
  | 46 => .array .int
  | 47 => .array .boolean
  | 48 => .array .int
  | 49 => .array .int
  | 50 => .int
  | 51 => .int
  | 52 => .int
  | 53 => .int
  | 54 => .int
  | 55 => .int
  | 56 => .int
  | 57 => .array .int
  | 58 => .array .boolean
  | 59 => .int
  | 60 => .int
  | 61 => .int
  | 62 => .array .int
  | 63 => .array .int
  | 64 => .array .int
  | 65 => .array .int
  | 66 => .array .int
  | 67 => .int
  | 68 => .array .int
  | 69 => .array .int
  | 70 => .int
  | 71 => .int
  | 72 => .array .int
  | 73 => .array .int
  | 74 => .array .int
  | 75 => .array .int
  | _ => .array .int
theorem nmX12 : ∀ a, a < 77 → ∀ b, b < 77 → a ≠ b → (TX12 a).2.1 ≠ (TX12 b).2.1 := by decide +kernel
theorem tyX12_ok : ∀ k, k < 77 → parseFieldDescriptor (TX12 k).2.2.1 = some (tyX12 k) := by decide +kernel
abbrev cX12_init : ByteArray := prog_14_method_1_code
def yX12_init : MethodName := ⟨RX12, "<init>", "()V"⟩
abbrev cX12_fails : ByteArray := prog_14_method_3_code
def yX12_fails : MethodName := ⟨RX12, "fails", "(I)I"⟩
abbrev cX12_lost : ByteArray := prog_14_method_4_code
def yX12_lost : MethodName := ⟨RX12, "lost", "(I)J"⟩
abbrev cX12_within : ByteArray := prog_14_method_5_code
def yX12_within : MethodName := ⟨RX12, "within", "(III)Z"⟩
abbrev cX12_isDay : ByteArray := prog_14_method_6_code
def yX12_isDay : MethodName := ⟨RX12, "isDay", "(I)Z"⟩
abbrev cX12_isSheet : ByteArray := prog_14_method_7_code
def yX12_isSheet : MethodName := ⟨RX12, "isSheet", "(I)Z"⟩
abbrev cX12_isLane : ByteArray := prog_14_method_8_code
def yX12_isLane : MethodName := ⟨RX12, "isLane", "(I)Z"⟩
abbrev cX12_against : ByteArray := prog_14_method_9_code
def yX12_against : MethodName := ⟨RX12, "against", "(IIII)I"⟩
abbrev cX12_verbOf : ByteArray := prog_14_method_10_code
def yX12_verbOf : MethodName := ⟨RX12, "verbOf", "(I)I"⟩
abbrev cX12_letterOf : ByteArray := prog_14_method_11_code
def yX12_letterOf : MethodName := ⟨RX12, "letterOf", "(I)I"⟩
abbrev cX12_codeAt : ByteArray := prog_14_method_12_code
def yX12_codeAt : MethodName := ⟨RX12, "codeAt", "()I"⟩
abbrev cX12_readNumber : ByteArray := prog_14_method_13_code
def yX12_readNumber : MethodName := ⟨RX12, "readNumber", "()I"⟩
abbrev cX12_readCode : ByteArray := prog_14_method_14_code
def yX12_readCode : MethodName := ⟨RX12, "readCode", "(I)V"⟩
abbrev cX12_read : ByteArray := prog_14_method_15_code
def yX12_read : MethodName := ⟨RX12, "read", "(II)I"⟩
abbrev cX12_copyLine : ByteArray := prog_14_method_16_code
def yX12_copyLine : MethodName := ⟨RX12, "copyLine", "(II)V"⟩
abbrev cX12_text : ByteArray := prog_14_method_17_code
def yX12_text : MethodName := ⟨RX12, "text", "(IIII)I"⟩
abbrev cX12_isLine : ByteArray := prog_14_method_18_code
def yX12_isLine : MethodName := ⟨RX12, "isLine", "(I)Z"⟩
abbrev cX12_strike : ByteArray := prog_14_method_19_code
def yX12_strike : MethodName := ⟨RX12, "strike", "(II)I"⟩
abbrev cX12_line : ByteArray := prog_14_method_20_code
def yX12_line : MethodName := ⟨RX12, "line", "(II)I"⟩
abbrev cX12_isInForce : ByteArray := prog_14_method_21_code
def yX12_isInForce : MethodName := ⟨RX12, "isInForce", "(II)Z"⟩
abbrev cX12_doesStop : ByteArray := prog_14_method_22_code
def yX12_doesStop : MethodName := ⟨RX12, "doesStop", "(IIIIII)Z"⟩
abbrev cX12_isDeed : ByteArray := prog_14_method_23_code
def yX12_isDeed : MethodName := ⟨RX12, "isDeed", "(IIII)Z"⟩
abbrev cX12_whyOf : ByteArray := prog_14_method_24_code
def yX12_whyOf : MethodName := ⟨RX12, "whyOf", "(IIIII)I"⟩
abbrev cX12_stops : ByteArray := prog_14_method_25_code
def yX12_stops : MethodName := ⟨RX12, "stops", "(IIIII)I"⟩
abbrev cX12_why : ByteArray := prog_14_method_26_code
def yX12_why : MethodName := ⟨RX12, "why", "(IIIII)I"⟩
abbrev cX12_force : ByteArray := prog_14_method_27_code
def yX12_force : MethodName := ⟨RX12, "force", "(I)I"⟩
abbrev cX12_step : ByteArray := prog_14_method_28_code
def yX12_step : MethodName := ⟨RX12, "step", "(IIIIII)I"⟩
abbrev cX12_isFree : ByteArray := prog_14_method_29_code
def yX12_isFree : MethodName := ⟨RX12, "isFree", "(II)Z"⟩
abbrev cX12_findWay : ByteArray := prog_14_method_30_code
def yX12_findWay : MethodName := ⟨RX12, "findWay", "(I)I"⟩
abbrev cX12_least : ByteArray := prog_14_method_31_code
def yX12_least : MethodName := ⟨RX12, "least", "(II)I"⟩
abbrev cX12_more : ByteArray := prog_14_method_32_code
def yX12_more : MethodName := ⟨RX12, "more", "(IIIII)I"⟩
abbrev cX12_isDoctor : ByteArray := prog_14_method_33_code
def yX12_isDoctor : MethodName := ⟨RX12, "isDoctor", "(I)Z"⟩
abbrev cX12_doctor : ByteArray := prog_14_method_34_code
def yX12_doctor : MethodName := ⟨RX12, "doctor", "(I)I"⟩
abbrev cX12_slip : ByteArray := prog_14_method_35_code
def yX12_slip : MethodName := ⟨RX12, "slip", "(III)I"⟩
abbrev cX12_twice : ByteArray := prog_14_method_36_code
def yX12_twice : MethodName := ⟨RX12, "twice", "()I"⟩
abbrev cX12_isTooMany : ByteArray := prog_14_method_37_code
def yX12_isTooMany : MethodName := ⟨RX12, "isTooMany", "(II)Z"⟩
abbrev cX12_tooMany : ByteArray := prog_14_method_38_code
def yX12_tooMany : MethodName := ⟨RX12, "tooMany", "(II)I"⟩
abbrev cX12_arePlaces : ByteArray := prog_14_method_39_code
def yX12_arePlaces : MethodName := ⟨RX12, "arePlaces", "(II)Z"⟩
abbrev cX12_agent : ByteArray := prog_14_method_40_code
def yX12_agent : MethodName := ⟨RX12, "agent", "(IIII)I"⟩
abbrev cX12_truck : ByteArray := prog_14_method_41_code
def yX12_truck : MethodName := ⟨RX12, "truck", "(IIIIII)I"⟩
abbrev cX12_isTruck : ByteArray := prog_14_method_42_code
def yX12_isTruck : MethodName := ⟨RX12, "isTruck", "(I)Z"⟩
abbrev cX12_came : ByteArray := prog_14_method_43_code
def yX12_came : MethodName := ⟨RX12, "came", "(II)I"⟩
abbrev cX12_agentAt : ByteArray := prog_14_method_44_code
def yX12_agentAt : MethodName := ⟨RX12, "agentAt", "(II)I"⟩
abbrev cX12_doMeet : ByteArray := prog_14_method_45_code
def yX12_doMeet : MethodName := ⟨RX12, "doMeet", "(II)Z"⟩
abbrev cX12_meeting : ByteArray := prog_14_method_46_code
def yX12_meeting : MethodName := ⟨RX12, "meeting", "(I)I"⟩
abbrev cX12_meets : ByteArray := prog_14_method_47_code
def yX12_meets : MethodName := ⟨RX12, "meets", "(I)I"⟩
abbrev cX12_layMeets : ByteArray := prog_14_method_48_code
def yX12_layMeets : MethodName := ⟨RX12, "layMeets", "()V"⟩
abbrev cX12_isWorld : ByteArray := prog_14_method_49_code
def yX12_isWorld : MethodName := ⟨RX12, "isWorld", "(I)Z"⟩
abbrev cX12_worlds : ByteArray := prog_14_method_50_code
def yX12_worlds : MethodName := ⟨RX12, "worlds", "()I"⟩
abbrev cX12_sure : ByteArray := prog_14_method_51_code
def yX12_sure : MethodName := ⟨RX12, "sure", "(II)I"⟩
abbrev cX12_isCask : ByteArray := prog_14_method_52_code
def yX12_isCask : MethodName := ⟨RX12, "isCask", "(I)Z"⟩
abbrev cX12_isPerson : ByteArray := prog_14_method_53_code
def yX12_isPerson : MethodName := ⟨RX12, "isPerson", "(I)Z"⟩
abbrev cX12_cask : ByteArray := prog_14_method_54_code
def yX12_cask : MethodName := ⟨RX12, "cask", "(II)I"⟩
abbrev cX12_person : ByteArray := prog_14_method_55_code
def yX12_person : MethodName := ⟨RX12, "person", "()I"⟩
abbrev cX12_tells : ByteArray := prog_14_method_56_code
def yX12_tells : MethodName := ⟨RX12, "tells", "(IIZI)I"⟩
abbrev cX12_drank : ByteArray := prog_14_method_57_code
def yX12_drank : MethodName := ⟨RX12, "drank", "(III)I"⟩
abbrev cX12_fell : ByteArray := prog_14_method_58_code
def yX12_fell : MethodName := ⟨RX12, "fell", "(IZI)I"⟩
abbrev cX12_layFacts : ByteArray := prog_14_method_59_code
def yX12_layFacts : MethodName := ⟨RX12, "layFacts", "(I)V"⟩
abbrev cX12_sizeOf : ByteArray := prog_14_method_60_code
def yX12_sizeOf : MethodName := ⟨RX12, "sizeOf", "(I)I"⟩
abbrev cX12_isCut : ByteArray := prog_14_method_61_code
def yX12_isCut : MethodName := ⟨RX12, "isCut", "(I)Z"⟩
abbrev cX12_findCuts : ByteArray := prog_14_method_62_code
def yX12_findCuts : MethodName := ⟨RX12, "findCuts", "(I)V"⟩
abbrev cX12_cut : ByteArray := prog_14_method_63_code
def yX12_cut : MethodName := ⟨RX12, "cut", "(II)I"⟩
abbrev cX12_isAnyKnown : ByteArray := prog_14_method_64_code
def yX12_isAnyKnown : MethodName := ⟨RX12, "isAnyKnown", "(I)Z"⟩
abbrev cX12_knew : ByteArray := prog_14_method_65_code
def yX12_knew : MethodName := ⟨RX12, "knew", "(I)I"⟩
abbrev cX12_raid : ByteArray := prog_14_method_66_code
def yX12_raid : MethodName := ⟨RX12, "raid", "(Z)I"⟩
abbrev cX12_paper : ByteArray := prog_14_method_67_code
def yX12_paper : MethodName := ⟨RX12, "paper", "(I)I"⟩
abbrev cX12_isPaper : ByteArray := prog_14_method_68_code
def yX12_isPaper : MethodName := ⟨RX12, "isPaper", "(I)Z"⟩
abbrev cX12_met : ByteArray := prog_14_method_69_code
def yX12_met : MethodName := ⟨RX12, "met", "(IZ)I"⟩
abbrev cX12_voidsWith : ByteArray := prog_14_method_70_code
def yX12_voidsWith : MethodName := ⟨RX12, "voidsWith", "(I)I"⟩
abbrev cX12_voids : ByteArray := prog_14_method_71_code
def yX12_voids : MethodName := ⟨RX12, "voids", "()I"⟩
abbrev cX12_countOf : ByteArray := prog_14_method_72_code
def yX12_countOf : MethodName := ⟨RX12, "countOf", "(I)I"⟩
abbrev cX12_savedBy : ByteArray := prog_14_method_73_code
def yX12_savedBy : MethodName := ⟨RX12, "savedBy", "(I)I"⟩
abbrev cX12_saved : ByteArray := prog_14_method_74_code
def yX12_saved : MethodName := ⟨RX12, "saved", "(I)I"⟩
abbrev cX12_worst : ByteArray := prog_14_method_75_code
def yX12_worst : MethodName := ⟨RX12, "worst", "()I"⟩
abbrev cX12_nextCase : ByteArray := prog_14_method_76_code
def yX12_nextCase : MethodName := ⟨RX12, "nextCase", "(II)I"⟩
abbrev cX12_hear : ByteArray := prog_14_method_77_code
def yX12_hear : MethodName := ⟨RX12, "hear", "()I"⟩
abbrev cX12_court : ByteArray := prog_14_method_78_code
def yX12_court : MethodName := ⟨RX12, "court", "(II)I"⟩
abbrev cX12_sue : ByteArray := prog_14_method_79_code
def yX12_sue : MethodName := ⟨RX12, "sue", "(III)I"⟩
abbrev cX12_heard : ByteArray := prog_14_method_80_code
def yX12_heard : MethodName := ⟨RX12, "heard", "(II)I"⟩
abbrev cX12_waiting : ByteArray := prog_14_method_81_code
def yX12_waiting : MethodName := ⟨RX12, "waiting", "(I)I"⟩
abbrev cX12_juror : ByteArray := prog_14_method_82_code
def yX12_juror : MethodName := ⟨RX12, "juror", "(II)I"⟩
abbrev cX12_dismiss : ByteArray := prog_14_method_83_code
def yX12_dismiss : MethodName := ⟨RX12, "dismiss", "()I"⟩
abbrev cX12_jury : ByteArray := prog_14_method_84_code
def yX12_jury : MethodName := ⟨RX12, "jury", "(II)J"⟩
abbrev cX12_miles : ByteArray := prog_14_method_85_code
def yX12_miles : MethodName := ⟨RX12, "miles", "(I)I"⟩
abbrev cX12_size : ByteArray := prog_14_method_86_code
def yX12_size : MethodName := ⟨RX12, "size", "(I)I"⟩
abbrev cX12_chase : ByteArray := prog_14_method_87_code
def yX12_chase : MethodName := ⟨RX12, "chase", "(IIIIIII)I"⟩
abbrev cX12_town : ByteArray := prog_14_method_88_code
def yX12_town : MethodName := ⟨RX12, "town", "(II)I"⟩
abbrev cX12_week : ByteArray := prog_14_method_89_code
def yX12_week : MethodName := ⟨RX12, "week", "(II)I"⟩
abbrev cX12_ofTown : ByteArray := prog_14_method_90_code
def yX12_ofTown : MethodName := ⟨RX12, "ofTown", "(II)I"⟩
abbrev cX12_sheet : ByteArray := prog_14_method_91_code
def yX12_sheet : MethodName := ⟨RX12, "sheet", "(III)I"⟩
abbrev cX12_lose : ByteArray := prog_14_method_92_code
def yX12_lose : MethodName := ⟨RX12, "lose", "(I)I"⟩
abbrev cX12_put : ByteArray := prog_14_method_93_code
def yX12_put : MethodName := ⟨RX12, "put", "(III)I"⟩
abbrev cX12_cell : ByteArray := prog_14_method_94_code
def yX12_cell : MethodName := ⟨RX12, "cell", "(III)J"⟩
abbrev cX12_begins : ByteArray := prog_14_method_95_code
def yX12_begins : MethodName := ⟨RX12, "begins", "(I)V"⟩
abbrev cX12_factsOf : ByteArray := prog_14_method_96_code
def yX12_factsOf : MethodName := ⟨RX12, "factsOf", "(I)I"⟩
abbrev cX12_tell : ByteArray := prog_14_method_97_code
def yX12_tell : MethodName := ⟨RX12, "tell", "(I)I"⟩
abbrev cX12_hang : ByteArray := prog_14_method_98_code
def yX12_hang : MethodName := ⟨RX12, "hang", "(I)I"⟩
abbrev cX12_as : ByteArray := prog_14_method_99_code
def yX12_as : MethodName := ⟨RX12, "as", "(II)I"⟩
abbrev cX12_trace : ByteArray := prog_14_method_100_code
def yX12_trace : MethodName := ⟨RX12, "trace", "()I"⟩
abbrev cX12_fault : ByteArray := prog_14_method_101_code
def yX12_fault : MethodName := ⟨RX12, "fault", "()I"⟩
abbrev cX12_many : ByteArray := prog_14_method_102_code
def yX12_many : MethodName := ⟨RX12, "many", "(I)I"⟩
def RJ6 : String := "java/lang/Integer"
abbrev cJ6_bitCount_0f7a4 : ByteArray := prog_15_method_49_code
def yJ6_bitCount_0f7a4 : MethodName := ⟨RJ6, "bitCount", "(I)I"⟩
def RJ9 : String := "java/lang/Math"
abbrev cJ9_abs_0f7a4 : ByteArray := prog_16_method_59_code
def yJ9_abs_0f7a4 : MethodName := ⟨RJ9, "abs", "(I)I"⟩
abbrev cJ9_max_7cf53 : ByteArray := prog_16_method_65_code
def yJ9_max_7cf53 : MethodName := ⟨RJ9, "max", "(II)I"⟩
abbrev cJ9_min_7cf53 : ByteArray := prog_16_method_69_code
def yJ9_min_7cf53 : MethodName := ⟨RJ9, "min", "(II)I"⟩
def RJ10 : String := "java/lang/System"
def RJ7 : String := "java/util/Arrays"
abbrev cJ7_fill_53178 : ByteArray := prog_18_method_103_code
def yJ7_fill_53178 : MethodName := ⟨RJ7, "fill", "([II)V"⟩
def RL : String := "DryLandLaw"
abbrev cL_law : ByteArray := code
def yL_law : MethodName := ⟨RL, "law", "([I)Z"⟩
abbrev vwCl : List vw_C := [(RX0, TX0, 2), (RX1, TX1, 13), (RX2, TX2, 13), (RX3, TX3, 7), (RX4, TX4, 9), (RX5, TX5, 3), (RX6, TX6, 3), (RX7, TX7, 5), (RX8, TX8, 6), (RX9, TX9, 6), (RX10, TX10, 10), (RX11, TX11, 11), (RX12, TX12, 77)]
end
section
/-! THE ABSTRACT MACHINE: cells numbered as they are made, from 5 on (0 the script, 1 .. 4 Reader's tables); ints, longs, references apart -/
abbrev Hp (S : Type) : Type := Nat × (Nat → Nat → Int32) × (Nat → Nat → Int64) × S
abbrev AI : Type := Instr × Nat × List Nat × List (Int32 × Nat)
abbrev LV : Type := List (Option Value)
def gl : LV → Nat → Option Value
  | [], _ => none
  | a :: _, 0 => a
  | _ :: t, n + 1 => gl t n
def sl : LV → Nat → Option Value → LV
  | [], 0, v => [v]
  | [], n + 1, v => none :: sl [] n v
  | _ :: t, 0, v => v :: t
  | a :: t, n + 1, v => a :: sl t n v
/-- the slot ahead holds no long -/
def nl (ls : LV) : Nat → Bool
  | 0 => true
  | j + 1 => match gl ls j with
    | some (.long _) => false
    | _ => true
def ents : List Value → LV
  | [] => []
  | .long x :: r => some (.long x) :: none :: ents r
  | v :: r => some v :: ents r
def pI {α : Type} (st : List Value) (bad : α) (f : Int32 → List Value → α) : α := match st with
  | .int x :: r => f x r
  | _ => bad
def pII {α : Type} (st : List Value) (bad : α) (f : Int32 → Int32 → List Value → α) : α := match st with
  | .int y :: .int x :: r => f x y r
  | _ => bad
def pJ {α : Type} (st : List Value) (bad : α) (f : Int64 → List Value → α) : α := match st with
  | .long x :: r => f x r
  | _ => bad
def pJJ {α : Type} (st : List Value) (bad : α) (f : Int64 → Int64 → List Value → α) : α := match st with
  | .long y :: .long x :: r => f x y r
  | _ => bad
def pR {α : Type} (st : List Value) (bad : α) (f : Nat → List Value → α) : α := match st with
  | .ref a :: r => f a r
  | _ => bad
def pO {α : Type} (st : List Value) (bad : α) (fn : List Value → α) (f : Nat → List Value → α) : α := match st with
  | .null :: r => fn r
  | .ref a :: r => f a r
  | _ => bad
def pIR {α : Type} (st : List Value) (bad : α) (f : Int32 → Nat → List Value → α) : α := match st with
  | .int i :: .ref a :: r => f i a r
  | _ => bad
def pIIR {α : Type} (st : List Value) (bad : α) (f : Int32 → Int32 → Nat → List Value → α) : α := match st with
  | .int x :: .int i :: .ref a :: r => f x i a r
  | _ => bad
def pJR {α : Type} (st : List Value) (bad : α) (f : Int64 → Nat → List Value → α) : α := match st with
  | .long x :: .ref a :: r => f x a r
  | _ => bad
def pRR {α : Type} (st : List Value) (bad : α) (f : Nat → Nat → List Value → α) : α := match st with
  | .ref v :: .ref a :: r => f v a r
  | _ => bad
def pRIR {α : Type} (st : List Value) (bad : α) (f : Nat → Int32 → Nat → List Value → α) : α := match st with
  | .ref v :: .int i :: .ref a :: r => f v i a r
  | _ => bad
def pCpy {α : Type} (st : List Value) (bad : α) (f : Int32 → Int32 → Nat → Int32 → Nat → List Value → α) : α := match st with
  | .int n :: .int dp :: .ref a :: .int sp :: .ref a0 :: r => f n dp a sp a0 r
  | _ => bad
def oel {α : Type} (o : Option Nat) (a : α) (f : Nat → α) : α := match o with
  | none => a
  | some x => f x
def glv {α : Type} (o : Option Value) (bad : α) (f : Value → α) : α := match o with
  | some v => f v
  | none => bad
def rI {α : Type} (o : Option Value) (bad : α) (f : Int32 → α) : α := match o with
  | some (.int x) => f x
  | _ => bad
def rJ {α : Type} (o : Option Value) (bad : α) (f : Int64 → α) : α := match o with
  | some (.long x) => f x
  | _ => bad
def rO {α : Type} (o : Option Value) (bad : α) (fn : α) (f : Nat → α) : α := match o with
  | some .null => fn
  | some (.ref x) => f x
  | _ => bad
def rV {α : Type} (o : Option Value) (bad : α) (f : α) : α := match o with
  | none => f
  | _ => bad
def swt {α : Type} (x : Int32) : List (Int32 × Nat) → (Nat → α) → α → α
  | [], _, d => d
  | (v, t) :: r, f, d => if x = v then f t else swt x r f d
def tk : Nat → List Value → List Value → Option (List Value × List Value)
  | 0, acc, st => some (acc, st)
  | _ + 1, _, [] => none
  | n + 1, acc, v :: st => tk n (v :: acc) st
def csum : List Value → Nat
  | [] => 0
  | v :: r => v.category + csum r
def tkm {α : Type} (o : Option (List Value × List Value)) (bad : α) (f : List Value → List Value → α) : α := match o with
  | some (a, r) => bif Nat.ble (csum r) 8 then f a r else bad
  | none => bad
def b01 (x : Int32) : Bool := decide (x = 0) || decide (x = 1)
def gn : List Nat → Nat → Nat
  | [], _ => 0
  | a :: _, 0 => a
  | _ :: t, n + 1 => gn t n
def gll : List (List Nat) → Nat → List Nat
  | [], _ => []
  | a :: _, 0 => a
  | _ :: t, n + 1 => gll t n
def gp : List (Nat × Nat) → Nat → Nat × Nat
  | [], _ => (99, 0)
  | a :: _, 0 => a
  | _ :: t, n + 1 => gp t n
def lk : List (Nat × AI) → Nat → Option AI
  | [], _ => none
  | (q, a) :: t, pc => bif Nat.beq q pc then some a else lk t pc
/-- kind and length of each cell: 0 int[], 1 boolean[], 2 Line[], 3 int[][], 4 + c an object of class c -/
def shl : List (Nat × Nat) := [(0, 0), (0, 4), (0, 5), (0, 10), (0, 4), (15, 11), (11, 5), (3, 4), (0, 60), (0, 60), (0, 60), (0, 60), (0, 4), (0, 4), (0, 60), (10, 3), (0, 60), (4, 2), (2, 24), (14, 10), (0, 24), (0, 24), (0, 24), (0, 24), (0, 24), (0, 24), (1, 24), (0, 12), (0, 11), (12, 6), (0, 6), (0, 40), (0, 40), (0, 40), (8, 9), (3, 8), (0, 12), (0, 12), (0, 12), (0, 12), (0, 12), (0, 12), (0, 12), (0, 12), (0, 8), (3, 12), (0, 12), (0, 12), (0, 12), (0, 12), (0, 12), (0, 12), (0, 12), (0, 12), (0, 12), (0, 12), (0, 12), (0, 12), (0, 12), (0, 12), (0, 12), (0, 12), (5, 13), (0, 12), (0, 12), (0, 60), (0, 60), (0, 60), (0, 60), (0, 12), (0, 12), (9, 3), (0, 24), (1, 24), (6, 13), (0, 30), (0, 30), (0, 30), (0, 30), (0, 30), (13, 6), (0, 6), (0, 6), (0, 6), (0, 6), (0, 6), (16, 77), (0, 4), (0, 4), (0, 240), (0, 25), (0, 25), (0, 25), (0, 25), (0, 25), (0, 25), (0, 25), (0, 24), (0, 24), (0, 24), (0, 24), (0, 24), (0, 24), (0, 12), (0, 12), (0, 6), (0, 40), (0, 40), (0, 40), (0, 8), (0, 96), (0, 12), (0, 12), (0, 12), (0, 144), (0, 12), (0, 12), (0, 12), (0, 60), (0, 60), (1, 60), (0, 60), (0, 12), (0, 24), (1, 24), (0, 30), (0, 30), (0, 30), (0, 30), (0, 30), (0, 12), (0, 12), (0, 6), (0, 6), (0, 6), (0, 6), (0, 6)]
def shT (L a : Nat) : Nat × Nat := bif Nat.beq a 0 then (0, L) else bif Nat.blt a 137 then gp shl a else (7, 7)
def ftT : List (List Nat) := [[2, 0], [2, 2, 2, 2, 2, 2, 2, 2, 0, 0, 0, 0, 0], [2, 2, 2, 2, 2, 0, 0, 0, 0, 0, 1, 1, 1], [0, 0, 0, 0, 0, 0, 0], [2, 2, 2, 2, 2, 2, 2, 0, 0], [2, 2, 0], [2, 0, 0], [2, 2, 2, 2, 0], [2, 2, 2, 2, 0, 0], [2, 2, 2, 2, 2, 0], [2, 2, 2, 2, 2, 2, 2, 2, 2, 0], [2, 2, 2, 2, 2, 2, 2, 2, 2, 2, 0], [0, 0, 2, 2, 2, 0, 2, 2, 2, 2, 2, 2, 2, 0, 0, 3, 0, 2, 2, 2, 2, 2, 2, 2, 2, 0, 2, 0, 2, 2, 2, 0, 2, 2, 0, 2, 2, 2, 2, 2, 0, 2, 2, 0, 0, 2, 2, 2, 2, 2, 0, 0, 0, 0, 0, 0, 0, 2, 2, 0, 0, 0, 2, 2, 2, 2, 2, 0, 2, 2, 0, 0, 2, 2, 2, 2, 2]]
def Rt : List (List Nat) := [[], [], [], [], [], [6, 15, 17, 19, 29, 34, 62, 71, 74, 80], [7, 12, 13, 14], [8, 9, 10, 11], [], [], [], [], [], [], [], [16], [], [18], [], [20, 21, 22, 23, 24, 25, 26, 27, 28], [], [], [], [], [], [], [], [], [], [30, 31, 32, 33], [], [], [], [], [35, 44, 45, 58, 59, 60, 61], [36, 37, 38, 39, 40, 41, 42, 43], [], [], [], [], [], [], [], [], [], [46, 47, 48, 49, 50, 51, 52, 53, 54, 55, 56, 57], [], [], [], [], [], [], [], [], [], [], [], [], [], [], [], [], [63, 64, 65, 66, 67, 68, 69, 70], [], [], [], [], [], [], [], [], [72, 73], [], [], [75, 76, 77, 78, 79], [], [], [], [], [], [81, 82, 83, 84, 85], [], [], [], [], [], [0, 0, 87, 88, 89, 0, 90, 91, 92, 93, 94, 95, 96, 0, 0, 0, 0, 97, 98, 99, 100, 101, 102, 103, 104, 0, 105, 0, 106, 107, 108, 0, 109, 110, 0, 111, 112, 113, 114, 115, 0, 116, 117, 0, 0, 118, 119, 120, 121, 122, 0, 0, 0, 0, 0, 0, 0, 123, 124, 0, 0, 0, 125, 126, 127, 128, 129, 0, 130, 131, 0, 0, 132, 133, 134, 135, 136], [], [], [], [], [], [], [], [], [], [], [], [], [], [], [], [], [], [], [], [], [], [], [], [], [], [], [], [], [], [], [], [], [], [], [], [], [], [], [], [], [], [], [], [], [], [], [], [], [], []]
def Rc (a i : Nat) : Option Nat := match gn (gll Rt a) i with
  | 0 => none
  | v + 1 => some (v + 1)
/-- the order in which references are laid by the constructors -/
def Rw : List (Nat × Nat × Nat) := [(7, 0, 8), (7, 1, 9), (7, 2, 10), (7, 3, 11), (6, 0, 7), (6, 1, 12), (6, 2, 13), (6, 3, 14), (5, 0, 6), (15, 0, 16), (5, 1, 15), (17, 0, 18), (5, 2, 17), (19, 0, 20), (19, 1, 21), (19, 2, 22), (19, 3, 23), (19, 4, 24), (19, 5, 25), (19, 6, 26), (19, 7, 27), (19, 8, 28), (5, 3, 19), (29, 0, 30), (29, 1, 31), (29, 2, 32), (29, 3, 33), (5, 4, 29), (35, 0, 36), (35, 1, 37), (35, 2, 38), (35, 3, 39), (35, 4, 40), (35, 5, 41), (35, 6, 42), (35, 7, 43), (34, 0, 35), (34, 1, 44), (45, 0, 46), (45, 1, 47), (45, 2, 48), (45, 3, 49), (45, 4, 50), (45, 5, 51), (45, 6, 52), (45, 7, 53), (45, 8, 54), (45, 9, 55), (45, 10, 56), (45, 11, 57), (34, 2, 45), (34, 3, 58), (34, 4, 59), (34, 5, 60), (34, 6, 61), (5, 5, 34), (62, 0, 63), (62, 1, 64), (62, 2, 65), (62, 3, 66), (62, 4, 67), (62, 5, 68), (62, 6, 69), (62, 7, 70), (5, 6, 62), (71, 0, 72), (71, 1, 73), (5, 7, 71), (74, 0, 75), (74, 1, 76), (74, 2, 77), (74, 3, 78), (74, 4, 79), (5, 8, 74), (80, 0, 81), (80, 1, 82), (80, 2, 83), (80, 3, 84), (80, 4, 85), (5, 9, 80), (86, 2, 87), (86, 3, 88), (86, 4, 89), (86, 6, 90), (86, 7, 91), (86, 8, 92), (86, 9, 93), (86, 10, 94), (86, 11, 95), (86, 12, 96), (86, 17, 97), (86, 18, 98), (86, 19, 99), (86, 20, 100), (86, 21, 101), (86, 22, 102), (86, 23, 103), (86, 24, 104), (86, 26, 105), (86, 28, 106), (86, 29, 107), (86, 30, 108), (86, 32, 109), (86, 33, 110), (86, 35, 111), (86, 36, 112), (86, 37, 113), (86, 38, 114), (86, 39, 115), (86, 41, 116), (86, 42, 117), (86, 45, 118), (86, 46, 119), (86, 47, 120), (86, 48, 121), (86, 49, 122), (86, 57, 123), (86, 58, 124), (86, 62, 125), (86, 63, 126), (86, 64, 127), (86, 65, 128), (86, 66, 129), (86, 68, 130), (86, 69, 131), (86, 72, 132), (86, 73, 133), (86, 74, 134), (86, 75, 135), (86, 76, 136)]
def okT (L θ n a tg : Nat) : Bool := Nat.beq (shT L a).1 tg && (Nat.blt a θ || Nat.blt a n)
def upR (I : Nat → Nat → Int32) (a : Nat) (f : Nat → Int32) : Nat → Nat → Int32 := fun b => if b = a then f else I b
def upJ (J : Nat → Nat → Int64) (a k : Nat) (x : Int64) : Nat → Nat → Int64 := fun b j => if b = a ∧ j = k then x else J b j
abbrev hI {S : Type} (h : Hp S) (a : Nat) (f : Nat → Int32) : Hp S := (h.1, upR h.2.1 a f, h.2.2.1, h.2.2.2)
abbrev hJ {S : Type} (h : Hp S) (a k : Nat) (x : Int64) : Hp S := (h.1, h.2.1, upJ h.2.2.1 a k x, h.2.2.2)
abbrev hR {S : Type} (h : Hp S) (r : S) : Hp S := (h.1, h.2.1, h.2.2.1, r)
abbrev hN {S : Type} (h : Hp S) (n : Nat) : Hp S := (h.1 + n, h.2)
def vLOST : Int64 := (-9223372036854775808 : Int64)
def stv (xs : Nat → Int32) (a i : Nat) : Int32 := match a with
  | 0 => xs i
  | 1 => [109, 115, 99, 107].getD i 0
  | 2 => [48, 49, 50, 51, 42].getD i 0
  | 3 => [48, 49, 50, 51, 52, 53, 54, 55, 56, 57].getD i 0
  | _ => [100, 112, 101, 118].getD i 0
/-- an int of a row -/
def rdI (xs : Nat → Int32) (I : Nat → Nat → Int32) (a i : Nat) : Int32 := bif Nat.blt a 5 then stv xs a i else I a i
/-- references of new int[n][m] -/
def wrm {S : Type} (wr : S → Nat → Nat → Nat → Option S) (a : Nat) : Nat → S → Option S
  | 0, s => some s
  | n + 1, s => (wrm wr a n s).bind (fun t => wr t a n (a + 1 + n))
def shm (L a m : Nat) : Nat → Bool
  | 0 => true
  | n + 1 => shm L a m n && (Nat.beq (shT L (a + 1 + n)).1 0 && Nat.beq (shT L (a + 1 + n)).2 m)
def oS {α S : Type} (o : Option S) (bad : α) (f : S → α) : α := match o with
  | some x => f x
  | none => bad
def ax (l : List Nat) (k : Nat) : Nat := gn l k
def kv (l : List (Int32 × Nat)) : Int32 := match l with
  | (v, _) :: _ => v
  | [] => 0
/-- one step, into any type: no (stuck), k (goes on), c (a call), rt (the end) -/
def stp {α S : Type} (L : Nat) (xs : Nat → Int32) (θ : Nat) (rd : S → Nat → Nat → Option Nat) (wr : S → Nat → Nat → Nat → Option S) (no : α) (k : Nat → LV → List Value → Hp S → α) (c : Nat → List Value → Hp S → (Option Value → Hp S → α) → α) (rt : Option Value → Hp S → α)
    (ai : AI) (pc : Nat) (ls : LV) (st : List Value) (h : Hp S) : α := match ai.1 with
  | .iconst _ => k (pc + 1) ls (.int (kv ai.2.2.2) :: st) h
  | .bipush _ => k (pc + 2) ls (.int (kv ai.2.2.2) :: st) h
  | .sipush _ => k (pc + 3) ls (.int (kv ai.2.2.2) :: st) h
  | .ldc_w _ => k (pc + 3) ls (.int (kv ai.2.2.2) :: st) h
  | .lconst _ => k (pc + 1) ls (.long (bif Nat.beq (ax ai.2.2.1 0) 0 then 0 else 1) :: st) h
  | .ldc2_w _ => k (pc + 3) ls (.long vLOST :: st) h
  | .aconst_null => k (pc + 1) ls (.null :: st) h
  | .iload _ => rI (gl ls (ax ai.2.2.1 0)) no fun x => k (pc + 2) ls (.int x :: st) h
  | .iload_n _ => rI (gl ls (ax ai.2.2.1 0)) no fun x => k (pc + 1) ls (.int x :: st) h
  | .lload _ => rJ (gl ls (ax ai.2.2.1 0)) no fun x => k (pc + 2) ls (.long x :: st) h
  | .lload_n _ => rJ (gl ls (ax ai.2.2.1 0)) no fun x => k (pc + 1) ls (.long x :: st) h
  | .aload _ => rO (gl ls (ax ai.2.2.1 0)) no (k (pc + 2) ls (.null :: st) h) fun x => k (pc + 2) ls (.ref x :: st) h
  | .aload_n _ => rO (gl ls (ax ai.2.2.1 0)) no (k (pc + 1) ls (.null :: st) h) fun x => k (pc + 1) ls (.ref x :: st) h
  | .istore _ => pI st no fun x r => bif nl ls (ax ai.2.2.1 0) then k (pc + 2) (sl ls (ax ai.2.2.1 0) (some (.int x))) r h else no
  | .istore_n _ => pI st no fun x r => bif nl ls (ax ai.2.2.1 0) then k (pc + 1) (sl ls (ax ai.2.2.1 0) (some (.int x))) r h else no
  | .lstore _ => pJ st no fun x r => bif nl ls (ax ai.2.2.1 0) then k (pc + 2) (sl (sl ls (ax ai.2.2.1 0 + 1) none) (ax ai.2.2.1 0) (some (.long x))) r h else no
  | .lstore_n _ => pJ st no fun x r => bif nl ls (ax ai.2.2.1 0) then k (pc + 1) (sl (sl ls (ax ai.2.2.1 0 + 1) none) (ax ai.2.2.1 0) (some (.long x))) r h else no
  | .astore _ => pO st no (fun r => bif nl ls (ax ai.2.2.1 0) then k (pc + 2) (sl ls (ax ai.2.2.1 0) (some .null)) r h else no) fun x r => bif nl ls (ax ai.2.2.1 0) then k (pc + 2) (sl ls (ax ai.2.2.1 0) (some (.ref x))) r h else no
  | .astore_n _ => pO st no (fun r => bif nl ls (ax ai.2.2.1 0) then k (pc + 1) (sl ls (ax ai.2.2.1 0) (some .null)) r h else no) fun x r => bif nl ls (ax ai.2.2.1 0) then k (pc + 1) (sl ls (ax ai.2.2.1 0) (some (.ref x))) r h else no
  | .iinc _ _ => rI (gl ls (ax ai.2.2.1 0)) no fun x => bif nl ls (ax ai.2.2.1 0) then k (pc + 3) (sl ls (ax ai.2.2.1 0) (some (.int (x + kv ai.2.2.2)))) st h else no
  | .iadd => pII st no fun x y r => k (pc + 1) ls (.int (x + y) :: r) h
  | .isub => pII st no fun x y r => k (pc + 1) ls (.int (x - y) :: r) h
  | .imul => pII st no fun x y r => k (pc + 1) ls (.int (x * y) :: r) h
  | .iand => pII st no fun x y r => k (pc + 1) ls (.int (x &&& y) :: r) h
  | .ior => pII st no fun x y r => k (pc + 1) ls (.int (x ||| y) :: r) h
  | .ixor => pII st no fun x y r => k (pc + 1) ls (.int (x ^^^ y) :: r) h
  | .idiv => pII st no fun x y r => if y = 0 then no else k (pc + 1) ls (.int (x / y) :: r) h
  | .irem => pII st no fun x y r => if y = 0 then no else k (pc + 1) ls (.int (x - x / y * y) :: r) h
  | .ineg => pI st no fun x r => k (pc + 1) ls (.int (-x) :: r) h
  | .ishl => pII st no fun x y r => k (pc + 1) ls (.int (x <<< (y &&& 31)) :: r) h
  | .ishr => pII st no fun x y r => k (pc + 1) ls (.int (x >>> (y &&& 31)) :: r) h
  | .iushr => pII st no fun x y r => k (pc + 1) ls (.int (x.toUInt32 >>> (y.toUInt32 &&& Int32.toUInt32 31)).toInt32 :: r) h
  | .i2l => pI st no fun x r => k (pc + 1) ls (.long x.toInt64 :: r) h
  | .i2b => pI st no fun x r => k (pc + 1) ls (.int x.toInt8.toInt32 :: r) h
  | .i2s => pI st no fun x r => k (pc + 1) ls (.int x.toInt16.toInt32 :: r) h
  | .lmul => pJJ st no fun x y r => k (pc + 1) ls (.long (x * y) :: r) h
  | .lsub => pJJ st no fun x y r => k (pc + 1) ls (.long (x - y) :: r) h
  | .ldiv => pJJ st no fun x y r => if y = 0 then no else k (pc + 1) ls (.long (x / y) :: r) h
  | .lrem => pJJ st no fun x y r => if y = 0 then no else k (pc + 1) ls (.long (x - x / y * y) :: r) h
  | .lcmp => pJJ st no fun x y r => k (pc + 1) ls (.int (lg_cmp x y) :: r) h
  | .dup => match st with
    | .int x :: r => k (pc + 1) ls (.int x :: .int x :: r) h
    | .ref x :: r => k (pc + 1) ls (.ref x :: .ref x :: r) h
    | _ => no
  | .dup2 => match st with
    | .int x :: .ref y :: r => k (pc + 1) ls (.int x :: .ref y :: .int x :: .ref y :: r) h
    | _ => no
  | .ifCond .eq _ => pI st no fun x r => if x = 0 then k (ax ai.2.2.1 0) ls r h else k (pc + 3) ls r h
  | .ifCond .ne _ => pI st no fun x r => if ¬ x = 0 then k (ax ai.2.2.1 0) ls r h else k (pc + 3) ls r h
  | .ifCond .lt _ => pI st no fun x r => if x < 0 then k (ax ai.2.2.1 0) ls r h else k (pc + 3) ls r h
  | .ifCond .ge _ => pI st no fun x r => if 0 ≤ x then k (ax ai.2.2.1 0) ls r h else k (pc + 3) ls r h
  | .ifCond .gt _ => pI st no fun x r => if 0 < x then k (ax ai.2.2.1 0) ls r h else k (pc + 3) ls r h
  | .ifCond .le _ => pI st no fun x r => if x ≤ 0 then k (ax ai.2.2.1 0) ls r h else k (pc + 3) ls r h
  | .if_icmp .eq _ => pII st no fun x y r => if x = y then k (ax ai.2.2.1 0) ls r h else k (pc + 3) ls r h
  | .if_icmp .ne _ => pII st no fun x y r => if ¬ x = y then k (ax ai.2.2.1 0) ls r h else k (pc + 3) ls r h
  | .if_icmp .lt _ => pII st no fun x y r => if x < y then k (ax ai.2.2.1 0) ls r h else k (pc + 3) ls r h
  | .if_icmp .ge _ => pII st no fun x y r => if y ≤ x then k (ax ai.2.2.1 0) ls r h else k (pc + 3) ls r h
  | .if_icmp .gt _ => pII st no fun x y r => if y < x then k (ax ai.2.2.1 0) ls r h else k (pc + 3) ls r h
  | .if_icmp .le _ => pII st no fun x y r => if x ≤ y then k (ax ai.2.2.1 0) ls r h else k (pc + 3) ls r h
  | .ifnull _ => pO st no (fun r => k (ax ai.2.2.1 0) ls r h) fun _ r => k (pc + 3) ls r h
  | .ifnonnull _ => pO st no (fun r => k (pc + 3) ls r h) fun _ r => k (ax ai.2.2.1 0) ls r h
  | .goto _ => k (ax ai.2.2.1 0) ls st h
  | .tableswitch _ _ _ _ => pI st no fun x r => swt x ai.2.2.2 (fun t => k t ls r h) (k (ax ai.2.2.1 0) ls r h)
  | .lookupswitch _ _ => pI st no fun x r => swt x ai.2.2.2 (fun t => k t ls r h) (k (ax ai.2.2.1 0) ls r h)
  | .getstatic _ => k (pc + 3) ls (.ref (ax ai.2.2.1 0) :: st) h
  | .getfield _ => pR st no fun a r => bif okT L θ h.1 a (4 + ax ai.2.2.1 0) then
      (match ax ai.2.2.1 2 with
        | 1 => k (pc + 3) ls (.long (h.2.2.1 a (ax ai.2.2.1 1)) :: r) h
        | 2 => oel (rd h.2.2.2 a (ax ai.2.2.1 1)) (k (pc + 3) ls (.null :: r) h) fun v => k (pc + 3) ls (.ref v :: r) h
        | _ => k (pc + 3) ls (.int (h.2.1 a (ax ai.2.2.1 1)) :: r) h) else no
  | .putfield _ => match ax ai.2.2.1 2 with
      | 1 => pJR st no fun x a r => bif okT L θ h.1 a (4 + ax ai.2.2.1 0) then k (pc + 3) ls r (hJ h a (ax ai.2.2.1 1) x) else no
      | 2 => pRR st no fun v a r => bif okT L θ h.1 a (4 + ax ai.2.2.1 0) then oS (wr h.2.2.2 a (ax ai.2.2.1 1) v) no (fun s => k (pc + 3) ls r (hR h s)) else no
      | 3 => (match st with
          | .int x :: .ref a :: r => bif okT L θ h.1 a (4 + ax ai.2.2.1 0) && b01 x then k (pc + 3) ls r (hI h a (upd (h.2.1 a) (ax ai.2.2.1 1) x)) else no
          | _ => no)
      | _ => pIR st no fun x a r => bif okT L θ h.1 a (4 + ax ai.2.2.1 0) then k (pc + 3) ls r (hI h a (upd (h.2.1 a) (ax ai.2.2.1 1) x)) else no
  | .arraylength => pR st no fun a r => bif (Nat.ble (shT L a).1 3) && (Nat.blt a θ || Nat.blt a h.1) then k (pc + 1) ls (.int (Int32.ofNat (shT L a).2) :: r) h else no
  | .iaload => pIR st no fun i a r => bif okT L θ h.1 a 0 then (if i < 0 ∨ (shT L a).2 ≤ i.toNatClampNeg then no else k (pc + 1) ls (.int (rdI xs h.2.1 a i.toNatClampNeg) :: r) h) else no
  | .baload => pIR st no fun i a r => bif okT L θ h.1 a 1 then (if i < 0 ∨ (shT L a).2 ≤ i.toNatClampNeg then no else k (pc + 1) ls (.int (h.2.1 a i.toNatClampNeg) :: r) h) else no
  | .aaload => pIR st no fun i a r => bif (okT L θ h.1 a 2 || okT L θ h.1 a 3) then (if i < 0 ∨ (shT L a).2 ≤ i.toNatClampNeg then no else oel (rd h.2.2.2 a i.toNatClampNeg) (k (pc + 1) ls (.null :: r) h) fun v => k (pc + 1) ls (.ref v :: r) h) else no
  | .iastore => pIIR st no fun x i a r => bif okT L θ h.1 a 0 && Nat.ble 5 a then (if i < 0 ∨ (shT L a).2 ≤ i.toNatClampNeg then no else k (pc + 1) ls r (hI h a (upd (h.2.1 a) i.toNatClampNeg x))) else no
  | .bastore => pIIR st no fun x i a r => bif okT L θ h.1 a 1 then (if i < 0 ∨ (shT L a).2 ≤ i.toNatClampNeg then no else k (pc + 1) ls r (hI h a (upd (h.2.1 a) i.toNatClampNeg (vp_nar .boolean x)))) else no
  | .aastore => pRIR st no fun v i a r => bif okT L θ h.1 a 2 && okT L θ h.1 v 7 then (if i < 0 ∨ (shT L a).2 ≤ i.toNatClampNeg then no else oS (wr h.2.2.2 a i.toNatClampNeg v) no (fun s => k (pc + 1) ls r (hR h s))) else no
  | .new _ => bif Nat.beq (shT L h.1).1 (4 + ax ai.2.2.1 0) then k (pc + 3) ls (.ref h.1 :: st) (hN h 1) else no
  | .newarray _ => pI st no fun n r => bif Nat.beq (shT L h.1).1 (ax ai.2.2.1 0) && (Nat.beq (shT L h.1).2 n.toNatClampNeg && decide (¬ n < 0)) then k (pc + 2) ls (.ref h.1 :: r) (hN h 1) else no
  | .anewarray _ => pI st no fun n r => bif Nat.beq (shT L h.1).1 2 && (Nat.beq (shT L h.1).2 n.toNatClampNeg && decide (¬ n < 0)) then k (pc + 3) ls (.ref h.1 :: r) (hN h 1) else no
  | .multianewarray _ _ => pII st no fun n m r => bif (Nat.beq (shT L h.1).1 3 && (Nat.beq (shT L h.1).2 n.toNatClampNeg && decide (¬ n < 0))) && (shm L h.1 m.toNatClampNeg n.toNatClampNeg && decide (¬ m < 0)) then
      oS (wrm wr h.1 n.toNatClampNeg h.2.2.2) no (fun s => k (pc + 4) ls (.ref h.1 :: r) (hR (hN h (1 + n.toNatClampNeg)) s)) else no
  | .invokevirtual _ => tkm (tk (ax ai.2.2.1 1) [] st) no fun as r => (match as with
      | .ref b :: _ => bif okT L θ h.1 b (4 + ax ai.2.2.1 3) then
          (match ax ai.2.2.1 2 with
            | 0 => c (ax ai.2.2.1 0) as h fun v h1 => rV v no (k (pc + 3) ls r h1)
            | 1 => c (ax ai.2.2.1 0) as h fun v h1 => rI v no fun x => k (pc + 3) ls (.int x :: r) h1
            | 2 => c (ax ai.2.2.1 0) as h fun v h1 => rJ v no fun x => k (pc + 3) ls (.long x :: r) h1
            | _ => c (ax ai.2.2.1 0) as h fun v h1 => rO v no (k (pc + 3) ls (.null :: r) h1) fun x => k (pc + 3) ls (.ref x :: r) h1) else no
      | _ => no)
  | .invokestatic _ => match ai.2.2.1 with
      | [] => pCpy st no fun n dp a sp a0 r => bif okT L θ h.1 a 0 && (Nat.ble 5 a && (okT L θ h.1 a0 0 && (Nat.ble 5 a0 && Nat.ble (csum r) 8))) then (if (sp < 0 ∨ dp < 0 ∨ n < 0) ∨ (shT L a0).2 < sp.toNatClampNeg + n.toNatClampNeg ∨ (shT L a).2 < dp.toNatClampNeg + n.toNatClampNeg then no else
          k (pc + 3) ls r (hI h a (va_cpy (h.2.1 a0) (h.2.1 a) sp.toNatClampNeg dp.toNatClampNeg n.toNatClampNeg))) else no
      | _ => tkm (tk (ax ai.2.2.1 1) [] st) no fun as r => (match ax ai.2.2.1 2 with
            | 0 => c (ax ai.2.2.1 0) as h fun v h1 => rV v no (k (pc + 3) ls r h1)
            | 1 => c (ax ai.2.2.1 0) as h fun v h1 => rI v no fun x => k (pc + 3) ls (.int x :: r) h1
            | 2 => c (ax ai.2.2.1 0) as h fun v h1 => rJ v no fun x => k (pc + 3) ls (.long x :: r) h1
            | _ => c (ax ai.2.2.1 0) as h fun v h1 => rO v no (k (pc + 3) ls (.null :: r) h1) fun x => k (pc + 3) ls (.ref x :: r) h1)
  | .invokespecial _ => match ai.2.2.1 with
      | [] => pR st no fun _ r => k (pc + 3) ls r h
      | _ => tkm (tk (ax ai.2.2.1 1) [] st) no fun as r => (match as with
          | .ref _ :: _ => c (ax ai.2.2.1 0) as h fun v h1 => rV v no (k (pc + 3) ls r h1)
          | _ => no)
  | .ireturn => match st with
      | [.int x] => bif Nat.beq (ax ai.2.2.1 0) 0 || b01 x then rt (some (.int x)) h else no
      | _ => no
  | .lreturn => match st with
      | [.long x] => rt (some (.long x)) h
      | _ => no
  | .areturn => match st with
      | [.ref x] => rt (some (.ref x)) h
      | [.null] => rt (some .null) h
      | _ => no
  | .return_ => match st with
      | [] => rt none h
      | _ => no
  | _ => no
end
section
/-! what one step gives in one type it gives, related, in another -/
theorem bf_rel {α β : Type} {ρ : α → β → Prop} {b : Bool} {x y : α} {x' y' : β} (h1 : ρ x x') (h2 : ρ y y') : ρ (bif b then x else y) (bif b then x' else y') := by
  cases b
  · exact h2
  · exact h1
theorem if_rel {α β : Type} {ρ : α → β → Prop} {c : Prop} [Decidable c] {x y : α} {x' y' : β} (h1 : ρ x x') (h2 : ρ y y') : ρ (if c then x else y) (if c then x' else y') := by
  by_cases h : c
  · rw [if_pos h, if_pos h]
    exact h1
  · rw [if_neg h, if_neg h]
    exact h2
theorem swt_rel {α β : Type} {ρ : α → β → Prop} {x : Int32} {f : Nat → α} {f' : Nat → β} {d : α} {d' : β} (hf : ∀ t, ρ (f t) (f' t)) (hd : ρ d d') : ∀ l : List (Int32 × Nat), ρ (swt x l f d) (swt x l f' d')
  | [] => hd
  | (v, t) :: r => by
    unfold swt
    exact if_rel (hf t) (swt_rel hf hd r)
set_option maxHeartbeats 4000000 in
set_option maxRecDepth 100000 in
theorem stp_rel {α β S : Type} (ρ : α → β → Prop) {L : Nat} {xs : Nat → Int32} {θ : Nat} {rd : S → Nat → Nat → Option Nat} {wr : S → Nat → Nat → Nat → Option S} {no : α} {no' : β} {k : Nat → LV → List Value → Hp S → α} {k' : Nat → LV → List Value → Hp S → β}
    {c : Nat → List Value → Hp S → (Option Value → Hp S → α) → α} {c' : Nat → List Value → Hp S → (Option Value → Hp S → β) → β} {rt : Option Value → Hp S → α} {rt' : Option Value → Hp S → β}
    (hno : ρ no no') (hk : ∀ pc ls st h, ρ (k pc ls st h) (k' pc ls st h)) (hc : ∀ M as h f f', (∀ v h1, ρ (f v h1) (f' v h1)) → ρ (c M as h f) (c' M as h f')) (hr : ∀ v h, ρ (rt v h) (rt' v h))
    (ai : AI) (pc : Nat) (ls : LV) (st : List Value) (h : Hp S) : ρ (stp L xs θ rd wr no k c rt ai pc ls st h) (stp L xs θ rd wr no' k' c' rt' ai pc ls st h) := by
  have qI : ∀ (v : Option Value) (f : Int32 → α) (f' : Int32 → β), (∀ x, ρ (f x) (f' x)) → ρ (rI v no f) (rI v no' f') := by
    intro v f f' hf
    unfold rI
    split
    · exact hf _
    · exact hno
  have qJ : ∀ (v : Option Value) (f : Int64 → α) (f' : Int64 → β), (∀ x, ρ (f x) (f' x)) → ρ (rJ v no f) (rJ v no' f') := by
    intro v f f' hf
    unfold rJ
    split
    · exact hf _
    · exact hno
  have qO : ∀ (v : Option Value) (n : α) (n' : β) (f : Nat → α) (f' : Nat → β), ρ n n' → (∀ x, ρ (f x) (f' x)) → ρ (rO v no n f) (rO v no' n' f') := by
    intro v n n' f f' hn hf
    unfold rO
    split
    · exact hn
    · exact hf _
    · exact hno
  have qV : ∀ (v : Option Value) (n : α) (n' : β), ρ n n' → ρ (rV v no n) (rV v no' n') := by
    intro v n n' hn
    unfold rV
    split
    · exact hn
    · exact hno
  have qS : ∀ (o : Option S) (f : S → α) (f' : S → β), (∀ x, ρ (f x) (f' x)) → ρ (oS o no f) (oS o no' f') := by
    intro v f f' hf
    unfold oS
    split
    · exact hf _
    · exact hno
  have qE : ∀ (o : Option Nat) (n : α) (n' : β) (f : Nat → α) (f' : Nat → β), ρ n n' → (∀ x, ρ (f x) (f' x)) → ρ (oel o n f) (oel o n' f') := by
    intro v n n' f f' hn hf
    unfold oel
    split
    · exact hn
    · exact hf _
  obtain ⟨i, len, a, sw⟩ := ai
  cases i
  case ifCond cd off => cases cd <;> (unfold stp; dsimp only; unfold pI; split; exact if_rel (hk _ _ _ _) (hk _ _ _ _); exact hno)
  case if_icmp cd off => cases cd <;> (unfold stp; dsimp only; unfold pII; split; exact if_rel (hk _ _ _ _) (hk _ _ _ _); exact hno)
  all_goals (unfold stp; dsimp only)
  all_goals first
    | exact hno
    | exact hk _ _ _ _
    | exact qI _ _ _ (fun _ => hk _ _ _ _)
    | exact qJ _ _ _ (fun _ => hk _ _ _ _)
    | exact qO _ _ _ _ _ (hk _ _ _ _) (fun _ => hk _ _ _ _)
    | exact qI _ _ _ (fun _ => bf_rel (hk _ _ _ _) hno)
    | (unfold pI; split; exact hk _ _ _ _; exact hno)
    | (unfold pII; split; exact hk _ _ _ _; exact hno)
    | (unfold pJJ; split; exact hk _ _ _ _; exact hno)
    | (unfold pII; split; exact if_rel hno (hk _ _ _ _); exact hno)
    | (unfold pJJ; split; exact if_rel hno (hk _ _ _ _); exact hno)
    | (unfold pI; split; exact bf_rel (hk _ _ _ _) hno; exact hno)
    | (unfold pJ; split; exact bf_rel (hk _ _ _ _) hno; exact hno)
    | (unfold pO; split; exact bf_rel (hk _ _ _ _) hno; exact bf_rel (hk _ _ _ _) hno; exact hno)
    | (unfold pO; split; exact hk _ _ _ _; exact hk _ _ _ _; exact hno)
    | (unfold pI; split; exact swt_rel (fun _ => hk _ _ _ _) (hk _ _ _ _) _; exact hno)
    | (unfold pIR; split; exact bf_rel (if_rel hno (hk _ _ _ _)) hno; exact hno)
    | (unfold pIR; split; exact bf_rel (if_rel hno (qE _ _ _ _ _ (hk _ _ _ _) (fun _ => hk _ _ _ _))) hno; exact hno)
    | (unfold pIIR; split; exact bf_rel (if_rel hno (hk _ _ _ _)) hno; exact hno)
    | (unfold pRIR; split; exact bf_rel (if_rel hno (qS _ _ _ (fun _ => hk _ _ _ _))) hno; exact hno)
    | (unfold pR; split; exact bf_rel (hk _ _ _ _) hno; exact hno)
    | exact bf_rel (hk _ _ _ _) hno
    | (unfold pII; split; exact bf_rel (qS _ _ _ (fun _ => hk _ _ _ _)) hno; exact hno)
    | (split; exact hk _ _ _ _; exact hk _ _ _ _; exact hno)
    | (split; exact hk _ _ _ _; exact hno)
    | (split; exact bf_rel (hr _ _) hno; exact hno)
    | (split; exact hr _ _; exact hr _ _; exact hno)
    | (split; exact hr _ _; exact hno)
    | skip
  case getfield ix =>
    unfold pR
    split
    · refine bf_rel ?_ hno
      split
      · exact hk _ _ _ _
      · exact qE _ _ _ _ _ (hk _ _ _ _) (fun _ => hk _ _ _ _)
      · exact hk _ _ _ _
    · exact hno
  case putfield ix =>
    split
    · unfold pJR; split; exact bf_rel (hk _ _ _ _) hno; exact hno
    · unfold pRR; split; exact bf_rel (qS _ _ _ (fun _ => hk _ _ _ _)) hno; exact hno
    · split; exact bf_rel (hk _ _ _ _) hno; exact hno
    · unfold pIR; split; exact bf_rel (hk _ _ _ _) hno; exact hno
  case invokevirtual ix =>
    unfold tkm
    split
    · refine bf_rel ?_ hno
      dsimp only
      split
      · refine bf_rel ?_ hno
        try dsimp only
        split
        · exact hc _ _ _ _ _ (fun _ _ => qV _ _ _ (hk _ _ _ _))
        · exact hc _ _ _ _ _ (fun _ _ => qI _ _ _ (fun _ => hk _ _ _ _))
        · exact hc _ _ _ _ _ (fun _ _ => qJ _ _ _ (fun _ => hk _ _ _ _))
        · exact hc _ _ _ _ _ (fun _ _ => qO _ _ _ _ _ (hk _ _ _ _) (fun _ => hk _ _ _ _))
      · exact hno
    · exact hno
  case invokestatic ix =>
    split
    · unfold pCpy; split; exact bf_rel (if_rel hno (hk _ _ _ _)) hno; exact hno
    · unfold tkm
      split
      · refine bf_rel ?_ hno
        try dsimp only
        split
        · exact hc _ _ _ _ _ (fun _ _ => qV _ _ _ (hk _ _ _ _))
        · exact hc _ _ _ _ _ (fun _ _ => qI _ _ _ (fun _ => hk _ _ _ _))
        · exact hc _ _ _ _ _ (fun _ _ => qJ _ _ _ (fun _ => hk _ _ _ _))
        · exact hc _ _ _ _ _ (fun _ _ => qO _ _ _ _ _ (hk _ _ _ _) (fun _ => hk _ _ _ _))
      · exact hno
  case invokespecial ix =>
    split
    · unfold pR; split; exact hk _ _ _ _; exact hno
    · unfold tkm
      split
      · refine bf_rel ?_ hno
        try dsimp only
        split
        · exact hc _ _ _ _ _ (fun _ _ => qV _ _ _ (hk _ _ _ _))
        · exact hno
      · exact hno
end
section
/-! runs, and what comes of them -/
def run {S : Type} (cd : Nat → List (Nat × AI)) (L : Nat) (xs : Nat → Int32) (θ : Nat) (rd : S → Nat → Nat → Option Nat) (wr : S → Nat → Nat → Nat → Option S) : Nat → Nat → Nat → LV → List Value → Hp S → Option (Option Value × Hp S)
  | 0, _, _, _, _, _ => none
  | n + 1, M, pc, ls, st, h => match lk (cd M) pc with
    | none => none
    | some ai => stp L xs θ rd wr none (fun pc ls st h => run cd L xs θ rd wr n M pc ls st h) (fun M' as h f => (run cd L xs θ rd wr n M' 0 (ents as) [] h).bind (fun q => f q.1 q.2)) (fun v h => some (v, h)) ai pc ls st h
section EV
variable {S : Type} {cd : Nat → List (Nat × AI)} {L : Nat} {xs : Nat → Int32} {θ : Nat} {rd : S → Nat → Nat → Option Nat} {wr : S → Nat → Nat → Nat → Option S}
theorem run_succ : ∀ (n M pc : Nat) (ls : LV) (st : List Value) (h : Hp S) (q : Option Value × Hp S), run cd L xs θ rd wr n M pc ls st h = some q → run cd L xs θ rd wr (n + 1) M pc ls st h = some q := by
  intro n
  induction n with
  | zero => intro M pc ls st h q hq; cases hq
  | succ n ih =>
    intro M pc ls st h q hq
    rw [run] at hq ⊢
    cases hl : lk (cd M) pc with
    | none => rw [hl] at hq; cases hq
    | some ai =>
      rw [hl] at hq
      dsimp only at hq ⊢
      have := stp_rel (S := S) (fun (x y : Option (Option Value × Hp S)) => ∀ q, x = some q → y = some q) (L := L) (xs := xs) (θ := θ) (rd := rd) (wr := wr) (no := none) (no' := none) (k := fun pc ls st h => run cd L xs θ rd wr n M pc ls st h) (k' := fun pc ls st h => run cd L xs θ rd wr (n + 1) M pc ls st h)
        (c := fun M' as h f => (run cd L xs θ rd wr n M' 0 (ents as) [] h).bind (fun q => f q.1 q.2)) (c' := fun M' as h f => (run cd L xs θ rd wr (n + 1) M' 0 (ents as) [] h).bind (fun q => f q.1 q.2)) (rt := fun v h => some (v, h)) (rt' := fun v h => some (v, h))
        (fun q h => h) (fun pc ls st h q hq => ih M pc ls st h q hq) (fun M' as h f f' hf q hq => by
          obtain ⟨z, h1, h2⟩ := Option.bind_eq_some_iff.mp hq
          exact Option.bind_eq_some_iff.mpr ⟨z, ih _ _ _ _ _ _ h1, hf _ _ _ h2⟩) (fun v h q hq => hq) ai pc ls st h
      exact this q hq
theorem run_le {n n' M pc : Nat} {ls : LV} {st : List Value} {h : Hp S} {q : Option Value × Hp S} (hn : n ≤ n') (hq : run cd L xs θ rd wr n M pc ls st h = some q) : run cd L xs θ rd wr n' M pc ls st h = some q := by
  induction hn with
  | refl => exact hq
  | step _ ih => exact run_succ _ _ _ _ _ _ _ ih
def Ev {S : Type} (cd : Nat → List (Nat × AI)) (L : Nat) (xs : Nat → Int32) (θ : Nat) (rd : S → Nat → Nat → Option Nat) (wr : S → Nat → Nat → Nat → Option S) (M pc : Nat) (ls : LV) (st : List Value) (h : Hp S) (Q : Option Value → Hp S → Prop) : Prop :=
  ∃ (n : Nat) (v : Option Value) (h1 : Hp S), run cd L xs θ rd wr n M pc ls st h = some (v, h1) ∧ Q v h1
theorem Ev.mono {M pc : Nat} {ls : LV} {st : List Value} {h : Hp S} {Q Q' : Option Value → Hp S → Prop} (he : Ev cd L xs θ rd wr M pc ls st h Q) (hq : ∀ v h1, Q v h1 → Q' v h1) : Ev cd L xs θ rd wr M pc ls st h Q' := by
  obtain ⟨n, v, h1, a, b⟩ := he
  exact ⟨n, v, h1, a, hq v h1 b⟩
theorem Ev.both {M pc : Nat} {ls : LV} {st : List Value} {h : Hp S} {Q Q' : Option Value → Hp S → Prop} (he : Ev cd L xs θ rd wr M pc ls st h Q) (he' : Ev cd L xs θ rd wr M pc ls st h Q') : ∃ v h1, Q v h1 ∧ Q' v h1 := by
  obtain ⟨n, v, h1, a, b⟩ := he
  obtain ⟨n', v', h1', a', b'⟩ := he'
  have e1 := run_le (Nat.le_max_left n n') a
  have e2 := run_le (Nat.le_max_right n n') a'
  rw [e1] at e2
  cases e2
  exact ⟨v, h1, b, b'⟩
/-- what a run comes to is all that can be said of it -/
theorem Ev.is {M pc : Nat} {ls : LV} {st : List Value} {h : Hp S} {Q : Option Value → Hp S → Prop} {v : Option Value} {h1 : Hp S} (he : Ev cd L xs θ rd wr M pc ls st h (fun v' h' => v' = v ∧ h' = h1)) : Ev cd L xs θ rd wr M pc ls st h Q ↔ Q v h1 := by
  constructor
  · intro hq
    obtain ⟨v', h', ⟨rfl, rfl⟩, b⟩ := he.both hq
    exact b
  · intro hq
    exact he.mono (fun v' h' e => by rw [e.1, e.2]; exact hq)
theorem Ev_step {M pc : Nat} {ls : LV} {st : List Value} {h : Hp S} {Q : Option Value → Hp S → Prop} {ai : AI} (hl : lk (cd M) pc = some ai) :
    stp L xs θ rd wr False (fun pc ls st h => Ev cd L xs θ rd wr M pc ls st h Q) (fun M' as h f => Ev cd L xs θ rd wr M' 0 (ents as) [] h f) Q ai pc ls st h ↔ Ev cd L xs θ rd wr M pc ls st h Q := by
  constructor
  · intro hq
    have h1 := stp_rel (S := S) (fun (x : Nat → Option (Option Value × Hp S)) (P : Prop) => P → ∃ n0, ∀ n, n0 ≤ n → ∃ v h1, x n = some (v, h1) ∧ Q v h1) (L := L) (xs := xs) (θ := θ) (rd := rd) (wr := wr) (no := fun _ => none) (no' := False)
      (k := fun pc ls st h n => run cd L xs θ rd wr n M pc ls st h) (k' := fun pc ls st h => Ev cd L xs θ rd wr M pc ls st h Q) (c := fun M' as h f n => (run cd L xs θ rd wr n M' 0 (ents as) [] h).bind (fun q => f q.1 q.2 n)) (c' := fun M' as h f => Ev cd L xs θ rd wr M' 0 (ents as) [] h f)
      (rt := fun v h _ => some (v, h)) (rt' := Q) (fun hf => hf.elim) (fun pc ls st h he => by
        obtain ⟨n, v, h1, a, b⟩ := he
        exact ⟨n, fun n' hn => ⟨v, h1, run_le hn a, b⟩⟩) (fun M' as h f f' hf he => by
        obtain ⟨n, v, h1, a, b⟩ := he
        obtain ⟨n2, hn2⟩ := hf v h1 b
        refine ⟨max n n2, fun n' hn => ?_⟩
        obtain ⟨v2, h2, a2, b2⟩ := hn2 n' (Nat.le_trans (Nat.le_max_right _ _) hn)
        exact ⟨v2, h2, by rw [run_le (Nat.le_trans (Nat.le_max_left _ _) hn) a]; exact a2, b2⟩) (fun v h hq => ⟨0, fun n _ => ⟨v, h, rfl, hq⟩⟩) ai pc ls st h hq
    obtain ⟨n0, hn⟩ := h1
    obtain ⟨v, h1, a, b⟩ := hn n0 (Nat.le_refl _)
    refine ⟨n0 + 1, v, h1, ?_, b⟩
    rw [run, hl, ← a]
    dsimp only
    exact (stp_rel (S := S) (fun (x : Nat → Option (Option Value × Hp S)) (y : Option (Option Value × Hp S)) => y = x n0) (no := fun _ => none) (no' := none)
      (k := fun pc ls st h n => run cd L xs θ rd wr n M pc ls st h) (k' := fun pc ls st h => run cd L xs θ rd wr n0 M pc ls st h) (c := fun M' as h f n => (run cd L xs θ rd wr n M' 0 (ents as) [] h).bind (fun q => f q.1 q.2 n)) (c' := fun M' as h f => (run cd L xs θ rd wr n0 M' 0 (ents as) [] h).bind (fun q => f q.1 q.2))
      (rt := fun v h _ => some (v, h)) (rt' := fun v h => some (v, h)) rfl (fun _ _ _ _ => rfl) (fun M' as h f f' hf => by
      show (run cd L xs θ rd wr n0 M' 0 (ents as) [] h).bind (fun q => f' q.1 q.2) = (run cd L xs θ rd wr n0 M' 0 (ents as) [] h).bind (fun q => f q.1 q.2 n0)
      cases run cd L xs θ rd wr n0 M' 0 (ents as) [] h with
      | none => rfl
      | some q => exact hf _ _) (fun _ _ => rfl) ai pc ls st h)
  · rintro ⟨n, v, h1, a, b⟩
    cases n with
    | zero => cases a
    | succ n =>
      rw [run, hl] at a
      dsimp only at a
      exact stp_rel (S := S) (fun (x : Option (Option Value × Hp S)) (P : Prop) => ∀ v h1, x = some (v, h1) → Q v h1 → P) (fun v h1 e _ => by cases e) (fun pc ls st h v h1 e q => ⟨n, v, h1, e, q⟩) (fun M' as h f f' hf v h1 e q => by
        obtain ⟨z, e1, e2⟩ := Option.bind_eq_some_iff.mp e
        exact ⟨n, z.1, z.2, e1, hf _ _ _ _ e2 q⟩) (fun v h v' h' e q => by cases e; exact q) ai pc ls st h v h1 a b
def inn : List Nat → Nat → Bool
  | [], _ => false
  | a :: t, n => bif Nat.beq a n then true else inn t n
/-- steps, up to n of them, stopping at the places of 'stops' -/
def wp {S : Type} (cd : Nat → List (Nat × AI)) (L : Nat) (xs : Nat → Int32) (θ : Nat) (rd : S → Nat → Nat → Option Nat) (wr : S → Nat → Nat → Nat → Option S) (M : Nat) (cm : List (Nat × AI)) (stops : List Nat) (Q : Option Value → Hp S → Prop) : Nat → Nat → LV → List Value → Hp S → Prop
  | 0, pc, ls, st, h => Ev cd L xs θ rd wr M pc ls st h Q
  | n + 1, pc, ls, st, h => match lk cm pc with
    | none => Ev cd L xs θ rd wr M pc ls st h Q
    | some ai => stp L xs θ rd wr False (fun pc ls st h => bif inn stops pc then Ev cd L xs θ rd wr M pc ls st h Q else wp cd L xs θ rd wr M cm stops Q n pc ls st h) (fun M' as h f => Ev cd L xs θ rd wr M' 0 (ents as) [] h f) Q ai pc ls st h
theorem wp_iff {M : Nat} {cm : List (Nat × AI)} (hcm : cd M = cm) {stops : List Nat} {Q : Option Value → Hp S → Prop} : ∀ (n pc : Nat) (ls : LV) (st : List Value) (h : Hp S), Ev cd L xs θ rd wr M pc ls st h Q ↔ wp cd L xs θ rd wr M cm stops Q n pc ls st h := by
  intro n
  induction n with
  | zero => intro pc ls st h; exact Iff.rfl
  | succ n ih =>
    intro pc ls st h
    rw [wp]
    cases hl : lk cm pc with
    | none => exact Iff.rfl
    | some ai =>
      dsimp only
      rw [← Ev_step (ai := ai) (by rw [hcm]; exact hl)]
      refine stp_rel (S := S) (fun (x y : Prop) => x ↔ y) Iff.rfl (fun pc ls st h => ?_) (fun M' as h f f' hf => ?_) (fun _ _ => Iff.rfl) ai pc ls st h
      · cases inn stops pc
        · exact ih pc ls st h
        · exact Iff.rfl
      · exact ⟨fun e => e.mono (fun v h1 => (hf v h1).mp), fun e => e.mono (fun v h1 => (hf v h1).mpr)⟩
end EV
end
