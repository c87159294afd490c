/-! printed by wip/whole/gen_tables.py: classes, fields, methods of the claim as the pure machine has them -/
def cq_F0 : u_T := fun k => match k with
  | 0 => ("AssignFlow", "collected", "[I", true)
  | 1 => ("AssignFlow", "collectedSize", "I", false)
  | 2 => ("AssignFlow", "faultAt", "I", false)
  | 3 => ("AssignFlow", "variables", "LAssignFlow$Variables;", true)
  | 4 => ("AssignFlow", "places", "LAssignFlow$Places;", true)
  | 5 => ("AssignFlow", "reader", "LAssignFlow$Reader;", true)
  | 6 => ("AssignFlow", "ways", "LAssignFlow$Ways;", true)
  | 7 => ("AssignFlow", "walks", "LAssignFlow$Walks;", true)
  | _ => ("AssignFlow", "judge", "LAssignFlow$Judge;", true)
def cq_t0 : Nat → FieldType := fun k => match k with
  | 0 => .array .int
  | 1 => .int
  | 2 => .int
  | 3 => .object "AssignFlow$Variables"
  | 4 => .object "AssignFlow$Places"
  | 5 => .object "AssignFlow$Reader"
  | 6 => .object "AssignFlow$Ways"
  | 7 => .object "AssignFlow$Walks"
  | _ => .object "AssignFlow$Judge"
theorem cq_n0 : ∀ a, a < 9 → ∀ b, b < 9 → a ≠ b → (cq_F0 a).2.1 ≠ (cq_F0 b).2.1 := by decide +kernel
theorem cq_ty0 : ∀ k, k < 9 → parseFieldDescriptor (cq_F0 k).2.2.1 = some (cq_t0 k) := by decide +kernel
theorem cq_dc0 : ∀ k, k < 9 → (cq_F0 k).1 = "AssignFlow" := by decide +kernel
def cq_F1 : u_T := fun k => match k with
  | 0 => ("AssignFlow$Judge", "places", "LAssignFlow$Places;", true)
  | 1 => ("AssignFlow$Judge", "variables", "LAssignFlow$Variables;", true)
  | 2 => ("AssignFlow$Judge", "walks", "LAssignFlow$Walks;", true)
  | 3 => ("AssignFlow$Judge", "wrong", "[I", true)
  | _ => ("AssignFlow$Judge", "size", "I", false)
def cq_t1 : Nat → FieldType := fun k => match k with
  | 0 => .object "AssignFlow$Places"
  | 1 => .object "AssignFlow$Variables"
  | 2 => .object "AssignFlow$Walks"
  | 3 => .array .int
  | _ => .int
theorem cq_n1 : ∀ a, a < 5 → ∀ b, b < 5 → a ≠ b → (cq_F1 a).2.1 ≠ (cq_F1 b).2.1 := by decide +kernel
theorem cq_ty1 : ∀ k, k < 5 → parseFieldDescriptor (cq_F1 k).2.2.1 = some (cq_t1 k) := by decide +kernel
theorem cq_dc1 : ∀ k, k < 5 → (cq_F1 k).1 = "AssignFlow$Judge" := by decide +kernel
def cq_F2 : u_T := fun k => match k with
  | 0 => ("AssignFlow$Places", "sort", "[I", true)
  | 1 => ("AssignFlow$Places", "first", "[I", true)
  | 2 => ("AssignFlow$Places", "named", "[I", true)
  | 3 => ("AssignFlow$Places", "there", "[I", true)
  | 4 => ("AssignFlow$Places", "end", "[I", true)
  | 5 => ("AssignFlow$Places", "around", "[I", true)
  | 6 => ("AssignFlow$Places", "part", "[I", true)
  | 7 => ("AssignFlow$Places", "tryAround", "[I", true)
  | 8 => ("AssignFlow$Places", "tryPart", "[I", true)
  | 9 => ("AssignFlow$Places", "target", "[I", true)
  | 10 => ("AssignFlow$Places", "catchFrom", "[I", true)
  | 11 => ("AssignFlow$Places", "finallyFrom", "[I", true)
  | 12 => ("AssignFlow$Places", "isEntered", "[Z", true)
  | 13 => ("AssignFlow$Places", "isSkipped", "[Z", true)
  | 14 => ("AssignFlow$Places", "size", "I", false)
  | _ => ("AssignFlow$Places", "thereAtEnd", "I", false)
def cq_t2 : Nat → FieldType := fun k => match k with
  | 0 => .array .int
  | 1 => .array .int
  | 2 => .array .int
  | 3 => .array .int
  | 4 => .array .int
  | 5 => .array .int
  | 6 => .array .int
  | 7 => .array .int
  | 8 => .array .int
  | 9 => .array .int
  | 10 => .array .int
  | 11 => .array .int
  | 12 => .array .boolean
  | 13 => .array .boolean
  | 14 => .int
  | _ => .int
theorem cq_n2 : ∀ a, a < 16 → ∀ b, b < 16 → a ≠ b → (cq_F2 a).2.1 ≠ (cq_F2 b).2.1 := by decide +kernel
theorem cq_ty2 : ∀ k, k < 16 → parseFieldDescriptor (cq_F2 k).2.2.1 = some (cq_t2 k) := by decide +kernel
theorem cq_dc2 : ∀ k, k < 16 → (cq_F2 k).1 = "AssignFlow$Places" := by decide +kernel
def cq_F3 : u_T := fun k => match k with
  | 0 => ("AssignFlow$Reader", "text", "[I", true)
  | 1 => ("AssignFlow$Reader", "places", "LAssignFlow$Places;", true)
  | 2 => ("AssignFlow$Reader", "variables", "LAssignFlow$Variables;", true)
  | 3 => ("AssignFlow$Reader", "placeAround", "[I", true)
  | 4 => ("AssignFlow$Reader", "sortAround", "[I", true)
  | 5 => ("AssignFlow$Reader", "labelAround", "[I", true)
  | 6 => ("AssignFlow$Reader", "length", "I", false)
  | 7 => ("AssignFlow$Reader", "at", "I", false)
  | 8 => ("AssignFlow$Reader", "faultAt", "I", false)
  | _ => ("AssignFlow$Reader", "there", "I", false)
def cq_t3 : Nat → FieldType := fun k => match k with
  | 0 => .array .int
  | 1 => .object "AssignFlow$Places"
  | 2 => .object "AssignFlow$Variables"
  | 3 => .array .int
  | 4 => .array .int
  | 5 => .array .int
  | 6 => .int
  | 7 => .int
  | 8 => .int
  | _ => .int
theorem cq_n3 : ∀ a, a < 10 → ∀ b, b < 10 → a ≠ b → (cq_F3 a).2.1 ≠ (cq_F3 b).2.1 := by decide +kernel
theorem cq_ty3 : ∀ k, k < 10 → parseFieldDescriptor (cq_F3 k).2.2.1 = some (cq_t3 k) := by decide +kernel
theorem cq_dc3 : ∀ k, k < 10 → (cq_F3 k).1 = "AssignFlow$Reader" := by decide +kernel
def cq_F4 : u_T := fun k => match k with
  | 0 => ("AssignFlow$Variables", "name", "[I", true)
  | 1 => ("AssignFlow$Variables", "isFinal", "[Z", true)
  | 2 => ("AssignFlow$Variables", "giver", "[I", true)
  | 3 => ("AssignFlow$Variables", "couldBeFinal", "[Z", true)
  | 4 => ("AssignFlow$Variables", "uses", "[I", true)
  | 5 => ("AssignFlow$Variables", "assigns", "[I", true)
  | _ => ("AssignFlow$Variables", "size", "I", false)
def cq_t4 : Nat → FieldType := fun k => match k with
  | 0 => .array .int
  | 1 => .array .boolean
  | 2 => .array .int
  | 3 => .array .boolean
  | 4 => .array .int
  | 5 => .array .int
  | _ => .int
theorem cq_n4 : ∀ a, a < 7 → ∀ b, b < 7 → a ≠ b → (cq_F4 a).2.1 ≠ (cq_F4 b).2.1 := by decide +kernel
theorem cq_ty4 : ∀ k, k < 7 → parseFieldDescriptor (cq_F4 k).2.2.1 = some (cq_t4 k) := by decide +kernel
theorem cq_dc4 : ∀ k, k < 7 → (cq_F4 k).1 = "AssignFlow$Variables" := by decide +kernel
def cq_F5 : u_T := fun k => match k with
  | 0 => ("AssignFlow$Walks", "places", "LAssignFlow$Places;", true)
  | 1 => ("AssignFlow$Walks", "ways", "LAssignFlow$Ways;", true)
  | 2 => ("AssignFlow$Walks", "points", "[J", true)
  | 3 => ("AssignFlow$Walks", "finallyMakes", "[J", true)
  | 4 => ("AssignFlow$Walks", "atEnd", "J", false)
  | 5 => ("AssignFlow$Walks", "root", "I", false)
  | _ => ("AssignFlow$Walks", "hasGrown", "Z", false)
def cq_t5 : Nat → FieldType := fun k => match k with
  | 0 => .object "AssignFlow$Places"
  | 1 => .object "AssignFlow$Ways"
  | 2 => .array .long
  | 3 => .array .long
  | 4 => .long
  | 5 => .int
  | _ => .boolean
theorem cq_n5 : ∀ a, a < 7 → ∀ b, b < 7 → a ≠ b → (cq_F5 a).2.1 ≠ (cq_F5 b).2.1 := by decide +kernel
theorem cq_ty5 : ∀ k, k < 7 → parseFieldDescriptor (cq_F5 k).2.2.1 = some (cq_t5 k) := by decide +kernel
theorem cq_dc5 : ∀ k, k < 7 → (cq_F5 k).1 = "AssignFlow$Walks" := by decide +kernel
def cq_F6 : u_T := fun k => match k with
  | 0 => ("AssignFlow$Ways", "places", "LAssignFlow$Places;", true)
  | 1 => ("AssignFlow$Ways", "beginTo", "[I", true)
  | 2 => ("AssignFlow$Ways", "trueTo", "[I", true)
  | 3 => ("AssignFlow$Ways", "falseTo", "[I", true)
  | 4 => ("AssignFlow$Ways", "catchTo", "[I", true)
  | _ => ("AssignFlow$Ways", "finallyTo", "[I", true)
def cq_t6 : Nat → FieldType := fun k => match k with
  | 0 => .object "AssignFlow$Places"
  | 1 => .array .int
  | 2 => .array .int
  | 3 => .array .int
  | 4 => .array .int
  | _ => .array .int
theorem cq_n6 : ∀ a, a < 6 → ∀ b, b < 6 → a ≠ b → (cq_F6 a).2.1 ≠ (cq_F6 b).2.1 := by decide +kernel
theorem cq_ty6 : ∀ k, k < 6 → parseFieldDescriptor (cq_F6 k).2.2.1 = some (cq_t6 k) := by decide +kernel
theorem cq_dc6 : ∀ k, k < 6 → (cq_F6 k).1 = "AssignFlow$Ways" := by decide +kernel
abbrev cq_cl : List vw_C := [("AssignFlow", cq_F0, 9), ("AssignFlow$Judge", cq_F1, 5), ("AssignFlow$Places", cq_F2, 16), ("AssignFlow$Reader", cq_F3, 10), ("AssignFlow$Variables", cq_F4, 7), ("AssignFlow$Walks", cq_F5, 7), ("AssignFlow$Ways", cq_F6, 6)]
def cq_ty (c : Nat) : Nat → FieldType := match c with
  | 0 => cq_t0
  | 1 => cq_t1
  | 2 => cq_t2
  | 3 => cq_t3
  | 4 => cq_t4
  | 5 => cq_t5
  | _ => cq_t6
def cq_cn (c : Nat) : String := match c with
  | 0 => "AssignFlow"
  | 1 => "AssignFlow$Judge"
  | 2 => "AssignFlow$Places"
  | 3 => "AssignFlow$Reader"
  | 4 => "AssignFlow$Variables"
  | 5 => "AssignFlow$Walks"
  | 6 => "AssignFlow$Ways"
  | _ => "AssignFlow$State"
abbrev cq_m_A_collect : Nat := 0
abbrev cq_m_A_forget : Nat := 1
abbrev cq_m_A_read : Nat := 2
abbrev cq_m_A_fault : Nat := 3
abbrev cq_m_A_place : Nat := 4
abbrev cq_m_A_fact : Nat := 5
abbrev cq_m_A_error : Nat := 6
abbrev cq_m_A_variable : Nat := 7
abbrev cq_m_A_count : Nat := 8
abbrev cq_m_A_isName : Nat := 9
abbrev cq_m_A_isLabel : Nat := 10
abbrev cq_m_A_isLoop : Nat := 11
abbrev cq_m_A_isStatement : Nat := 12
abbrev cq_m_Judge_judgeAll : Nat := 13
abbrev cq_m_Judge_kindAt : Nat := 14
abbrev cq_m_Judge_isUsedTooEarly : Nat := 15
abbrev cq_m_Judge_isAssignedTwice : Nat := 16
abbrev cq_m_Places_has : Nat := 17
abbrev cq_m_Places_clear : Nat := 18
abbrev cq_m_Places_append : Nat := 19
abbrev cq_m_Places_wrapFrom : Nat := 20
abbrev cq_m_Places_close : Nat := 21
abbrev cq_m_Places_link : Nat := 22
abbrev cq_m_Places_linkToTry : Nat := 23
abbrev cq_m_Places_hasCatch : Nat := 24
abbrev cq_m_Places_hasFinally : Nat := 25
abbrev cq_m_Places_firstIn : Nat := 26
abbrev cq_m_Places_child : Nat := 27
abbrev cq_m_Places_next : Nat := 28
abbrev cq_m_Places_thereAfter : Nat := 29
abbrev cq_m_Reader_readUnit : Nat := 30
abbrev cq_m_Reader_sign : Nat := 31
abbrev cq_m_Reader_signBehindNext : Nat := 32
abbrev cq_m_Reader_fail : Nat := 33
abbrev cq_m_Reader_expect : Nat := 34
abbrev cq_m_Reader_append : Nat := 35
abbrev cq_m_Reader_statement : Nat := 36
abbrev cq_m_Reader_isRefused : Nat := 37
abbrev cq_m_Reader_statementSort : Nat := 38
abbrev cq_m_Reader_statementRest : Nat := 39
abbrev cq_m_Reader_given : Nat := 40
abbrev cq_m_Reader_body : Nat := 41
abbrev cq_m_Reader_condition : Nat := 42
abbrev cq_m_Reader_block : Nat := 43
abbrev cq_m_Reader_items : Nat := 44
abbrev cq_m_Reader_enter : Nat := 45
abbrev cq_m_Reader_skip : Nat := 46
abbrev cq_m_Reader_tryParts : Nat := 47
abbrev cq_m_Reader_jump : Nat := 48
abbrev cq_m_Reader_nearestTarget : Nat := 49
abbrev cq_m_Reader_labelledTarget : Nat := 50
abbrev cq_m_Reader_depthOfLabel : Nat := 51
abbrev cq_m_Reader_expression : Nat := 52
abbrev cq_m_Reader_conditional : Nat := 53
abbrev cq_m_Reader_alternatives : Nat := 54
abbrev cq_m_Reader_conjunction : Nat := 55
abbrev cq_m_Reader_operator : Nat := 56
abbrev cq_m_Reader_unary : Nat := 57
abbrev cq_m_Reader_leaf : Nat := 58
abbrev cq_m_State_isReached : Nat := 59
abbrev cq_m_State_unassignedOnSome : Nat := 60
abbrev cq_m_State_assignedOnSome : Nat := 61
abbrev cq_m_State_assign : Nat := 62
abbrev cq_m_State_unassign : Nat := 63
abbrev cq_m_State_through : Nat := 64
abbrev cq_m_Variables_has : Nat := 65
abbrev cq_m_Variables_isFull : Nat := 66
abbrev cq_m_Variables_clear : Nat := 67
abbrev cq_m_Variables_give : Nat := 68
abbrev cq_m_Variables_find : Nat := 69
abbrev cq_m_Walks_stateAt : Nat := 70
abbrev cq_m_Walks_walkUnit : Nat := 71
abbrev cq_m_Walks_walk : Nat := 72
abbrev cq_m_Walks_sweep : Nat := 73
abbrev cq_m_Walks_flow : Nat := 74
abbrev cq_m_Walks_begin : Nat := 75
abbrev cq_m_Walks_leave : Nat := 76
abbrev cq_m_Walks_passOn : Nat := 77
abbrev cq_m_Walks_passAssigned : Nat := 78
abbrev cq_m_Walks_passInner : Nat := 79
abbrev cq_m_Ways_link : Nat := 80
abbrev cq_m_Ways_linkBegin : Nat := 81
abbrev cq_m_Ways_linkTry : Nat := 82
abbrev cq_m_Ways_linkEnds : Nat := 83
abbrev cq_m_Ways_linkExpression : Nat := 84
abbrev cq_m_Ways_linkIf : Nat := 85
abbrev cq_m_Ways_linkLoop : Nat := 86
abbrev cq_m_Ways_nextRound : Nat := 87
abbrev cq_m_Ways_linkTryEnd : Nat := 88
abbrev cq_m_Ways_partOfTry : Nat := 89
abbrev cq_m_Ways_endOfTry : Nat := 90
abbrev cq_m_Ways_beginOf : Nat := 91
abbrev cq_m_Ways_beginOr : Nat := 92
abbrev cq_m_Ways_send : Nat := 93
abbrev cq_m_Ways_sendBoth : Nat := 94
