/-! names and tables of the claim's methods (written by wip/tools/gen_tables.py) -/
def hd_R : List String := ["HoursDesk$Absences", "HoursDesk$Acts", "HoursDesk$Entries", "HoursDesk$People", "HoursDesk$Places", "HoursDesk$Planner", "HoursDesk$Sheets", "HoursDesk", "HoursDeskModel", "HoursDeskLaw", "java/lang/Math", "java/lang/Integer"]
def hd_own (o : Nat) : String := hd_R.getD o ""
def hd_T0 : u_T := fun k => match k with
  | 0 => ("HoursDesk$Absences", "person", "[I", true)
  | 1 => ("HoursDesk$Absences", "day", "[I", true)
  | 2 => ("HoursDesk$Absences", "proved", "[I", true)
  | _ => ("HoursDesk$Absences", "count", "I", false)
def hd_t0 : Nat → FieldType := fun k => match k with
  | 0 => .array .int
  | 1 => .array .int
  | 2 => .array .int
  | _ => .int
def hd_T1 : u_T := fun k => match k with
  | 0 => ("HoursDesk$Acts", "what", "[I", true)
  | 1 => ("HoursDesk$Acts", "index", "[I", true)
  | 2 => ("HoursDesk$Acts", "was", "[I", true)
  | 3 => ("HoursDesk$Acts", "struck", "[[I", true)
  | 4 => ("HoursDesk$Acts", "count", "I", false)
  | _ => ("HoursDesk$Acts", "next", "I", false)
def hd_t1 : Nat → FieldType := fun k => match k with
  | 0 => .array .int
  | 1 => .array .int
  | 2 => .array .int
  | 3 => .array (.array .int)
  | 4 => .int
  | _ => .int
def hd_T2 : u_T := fun k => match k with
  | 0 => ("HoursDesk$Entries", "person", "[I", true)
  | 1 => ("HoursDesk$Entries", "day", "[I", true)
  | 2 => ("HoursDesk$Entries", "minutes", "[I", true)
  | 3 => ("HoursDesk$Entries", "sort", "[I", true)
  | 4 => ("HoursDesk$Entries", "known", "[I", true)
  | 5 => ("HoursDesk$Entries", "count", "I", false)
  | 6 => ("HoursDesk$Entries", "travelMost", "I", false)
  | 7 => ("HoursDesk$Entries", "rainHundredths", "I", false)
  | _ => ("HoursDesk$Entries", "sums", "[[I", true)
def hd_t2 : Nat → FieldType := fun k => match k with
  | 0 => .array .int
  | 1 => .array .int
  | 2 => .array .int
  | 3 => .array .int
  | 4 => .array .int
  | 5 => .int
  | 6 => .int
  | 7 => .int
  | _ => .array (.array .int)
def hd_T3 : u_T := fun k => match k with
  | 0 => ("HoursDesk$People", "kind", "[I", true)
  | 1 => ("HoursDesk$People", "owes", "[I", true)
  | 2 => ("HoursDesk$People", "free", "[I", true)
  | 3 => ("HoursDesk$People", "skills", "[I", true)
  | 4 => ("HoursDesk$People", "due", "[I", true)
  | 5 => ("HoursDesk$People", "barred", "[I", true)
  | _ => ("HoursDesk$People", "count", "I", false)
def hd_t3 : Nat → FieldType := fun k => match k with
  | 0 => .array .int
  | 1 => .array .int
  | 2 => .array .int
  | 3 => .array .int
  | 4 => .array .int
  | 5 => .array .int
  | _ => .int
def hd_T4 : u_T := fun k => match k with
  | 0 => ("HoursDesk$Places", "open", "[I", true)
  | 1 => ("HoursDesk$Places", "asks", "[I", true)
  | 2 => ("HoursDesk$Places", "leader", "[Z", true)
  | 3 => ("HoursDesk$Places", "least", "[I", true)
  | 4 => ("HoursDesk$Places", "most", "[I", true)
  | _ => ("HoursDesk$Places", "count", "I", false)
def hd_t4 : Nat → FieldType := fun k => match k with
  | 0 => .array .int
  | 1 => .array .int
  | 2 => .array .boolean
  | 3 => .array .int
  | 4 => .array .int
  | _ => .int
def hd_T5 : u_T := fun k => match k with
  | 0 => ("HoursDesk$Planner", "day", "I", false)
  | 1 => ("HoursDesk$Planner", "ways", "I", false)
  | 2 => ("HoursDesk$Planner", "worth", "I", false)
  | 3 => ("HoursDesk$Planner", "coming", "I", false)
  | 4 => ("HoursDesk$Planner", "digits", "[I", true)
  | 5 => ("HoursDesk$Planner", "hasBar", "[Z", true)
  | 6 => ("HoursDesk$Planner", "gangWorth", "[I", true)
  | 7 => ("HoursDesk$Planner", "best", "[I", true)
  | _ => ("HoursDesk$Planner", "bestWays", "[I", true)
def hd_t5 : Nat → FieldType := fun k => match k with
  | 0 => .int
  | 1 => .int
  | 2 => .int
  | 3 => .int
  | 4 => .array .int
  | 5 => .array .boolean
  | 6 => .array .int
  | 7 => .array .int
  | _ => .array .int
def hd_T6 : u_T := fun k => match k with
  | 0 => ("HoursDesk$Sheets", "bits", "[I", true)
  | 1 => ("HoursDesk$Sheets", "size", "[I", true)
  | _ => ("HoursDesk$Sheets", "numbers", "[[I", true)
def hd_t6 : Nat → FieldType := fun k => match k with
  | 0 => .array .int
  | 1 => .array .int
  | _ => .array (.array .int)
def hd_T7 : u_T := fun k => match k with
  | 0 => ("HoursDesk", "people", "LHoursDesk$People;", true)
  | 1 => ("HoursDesk", "places", "LHoursDesk$Places;", true)
  | 2 => ("HoursDesk", "entries", "LHoursDesk$Entries;", true)
  | 3 => ("HoursDesk", "absences", "LHoursDesk$Absences;", true)
  | 4 => ("HoursDesk", "sheets", "LHoursDesk$Sheets;", true)
  | 5 => ("HoursDesk", "acts", "LHoursDesk$Acts;", true)
  | 6 => ("HoursDesk", "planner", "LHoursDesk$Planner;", true)
  | _ => ("HoursDesk", "findings", "I", false)
def hd_t7 : Nat → FieldType := fun k => match k with
  | 0 => .object "HoursDesk$People"
  | 1 => .object "HoursDesk$Places"
  | 2 => .object "HoursDesk$Entries"
  | 3 => .object "HoursDesk$Absences"
  | 4 => .object "HoursDesk$Sheets"
  | 5 => .object "HoursDesk$Acts"
  | 6 => .object "HoursDesk$Planner"
  | _ => .int
def hd_T8 : u_T := fun k => match k with
  | 0 => ("HoursDeskModel", "now", "[I", true)
  | 1 => ("HoursDeskModel", "past", "[I", true)
  | 2 => ("HoursDeskModel", "kept", "I", false)
  | 3 => ("HoursDeskModel", "findings", "I", false)
  | 4 => ("HoursDeskModel", "bits", "[I", true)
  | 5 => ("HoursDeskModel", "sizes", "[I", true)
  | 6 => ("HoursDeskModel", "sheets", "[I", true)
  | 7 => ("HoursDeskModel", "sums", "[I", true)
  | 8 => ("HoursDeskModel", "most", "I", false)
  | 9 => ("HoursDeskModel", "plans", "I", false)
  | 10 => ("HoursDeskModel", "best", "[I", true)
  | 11 => ("HoursDeskModel", "at", "[I", true)
  | 12 => ("HoursDeskModel", "may", "[I", true)
  | _ => ("HoursDeskModel", "carried", "[I", true)
def hd_t8 : Nat → FieldType := fun k => match k with
  | 0 => .array .int
  | 1 => .array .int
  | 2 => .int
  | 3 => .int
  | 4 => .array .int
  | 5 => .array .int
  | 6 => .array .int
  | 7 => .array .int
  | 8 => .int
  | 9 => .int
  | 10 => .array .int
  | 11 => .array .int
  | 12 => .array .int
  | _ => .array .int
abbrev hd_cl : List vw_C := [("HoursDesk$Absences", hd_T0, 4), ("HoursDesk$Acts", hd_T1, 6), ("HoursDesk$Entries", hd_T2, 9), ("HoursDesk$People", hd_T3, 7), ("HoursDesk$Places", hd_T4, 6), ("HoursDesk$Planner", hd_T5, 9), ("HoursDesk$Sheets", hd_T6, 3), ("HoursDesk", hd_T7, 8), ("HoursDeskModel", hd_T8, 14)]
/-- methods: name, code, locals, answer, own class, frames, words, parameters -/
abbrev hd_MI : Type := MethodName × ByteArray × Nat × Option FieldType × Nat × Nat × Nat × Nat
abbrev Pn_shiftOf : Nat := 0
abbrev D_person : Nat := 1
abbrev D_within : Nat := 2
abbrev D_isDay : Nat := 3
abbrev D_finding : Nat := 4
abbrev Pe_add : Nat := 5
abbrev D_keep : Nat := 6
abbrev Pn_forget : Nat := 7
abbrev Ac_push : Nat := 8
abbrev D_as : Nat := 9
abbrev Pe_has : Nat := 10
abbrev Pe_isOfKind : Nat := 11
abbrev D_hasBit : Nat := 12
abbrev D_of : Nat := 13
abbrev D_extend : Nat := 14
abbrev D_free : Nat := 15
abbrev D_place : Nat := 16
abbrev Pl_add : Nat := 17
abbrev D_open : Nat := 18
abbrev Pl_has : Nat := 19
abbrev D_bar : Nat := 20
abbrev Pe_isBarred : Nat := 21
abbrev Pe_setBarred : Nat := 22
abbrev D_entry : Nat := 23
abbrev En_add : Nat := 24
abbrev D_strike : Nat := 25
abbrev En_tellRow : Nat := 26
abbrev D_rule : Nat := 27
abbrev D_setRule : Nat := 28
abbrev D_counted : Nat := 29
abbrev D_minutesUpTo : Nat := 30
abbrev Pe_dayLimit : Nat := 31
abbrev En_countBetween : Nat := 32
abbrev En_takeDay : Nat := 33
abbrev D_countedOn : Nat := 34
abbrev D_left : Nat := 35
abbrev Pe_owedMinutes : Nat := 36
abbrev D_plan : Nat := 37
abbrev D_findPlan : Nat := 38
abbrev D_comingOn : Nat := 39
abbrev D_isDone : Nat := 40
abbrev Pn_begin : Nat := 41
abbrev Pe_ofKind : Nat := 42
abbrev Pe_withSkills : Nat := 43
abbrev Pn_weighGangs : Nat := 44
abbrev In_bitCount : Nat := 45
abbrev Pn_addPlace : Nat := 46
abbrev Pn_addPlaceTo : Nat := 47
abbrev Pn_end : Nat := 48
abbrev Pn_howMany : Nat := 49
abbrev D_planned : Nat := 50
abbrev Pn_placeOf : Nat := 51
abbrev D_gang : Nat := 52
abbrev D_plans : Nat := 53
abbrev D_when : Nat := 54
abbrev D_absent : Nat := 55
abbrev Ab_isAbsent : Nat := 56
abbrev Ab_add : Nat := 57
abbrev D_reason : Nat := 58
abbrev Ab_has : Nat := 59
abbrev D_breaches : Nat := 60
abbrev Ab_countBreaches : Nat := 61
abbrev Ab_isBreach : Nat := 62
abbrev D_court : Nat := 63
abbrev Ab_courtDay : Nat := 64
abbrev D_pace : Nat := 65
abbrev En_daysSinceFirst : Nat := 66
abbrev D_commonPart : Nat := 67
abbrev D_foretold : Nat := 68
abbrev D_foretellEnd : Nat := 69
abbrev D_late : Nat := 70
abbrev D_sheet : Nat := 71
abbrev D_isSheet : Nat := 72
abbrev Sh_begin : Nat := 73
abbrev D_put : Nat := 74
abbrev Sh_isMissing : Nat := 75
abbrev D_lowestBits : Nat := 76
abbrev D_copy : Nat := 77
abbrev Sh_hasPart : Nat := 78
abbrev D_lay : Nat := 79
abbrev Sh_countWithin : Nat := 80
abbrev D_undo : Nat := 81
abbrev Ac_pop : Nat := 82
abbrev D_takeBack : Nat := 83
abbrev En_addRow : Nat := 84
abbrev D_told : Nat := 85
abbrev Pe_countBars : Nat := 86
abbrev M_undo : Nat := 87
abbrev M_finding : Nat := 88
abbrev M_person : Nat := 89
abbrev M_within : Nat := 90
abbrev M_isDay : Nat := 91
abbrev M_keep : Nat := 92
abbrev M_as : Nat := 93
abbrev M_isPerson : Nat := 94
abbrev M_of : Nat := 95
abbrev M_extend : Nat := 96
abbrev M_free : Nat := 97
abbrev M_place : Nat := 98
abbrev M_open : Nat := 99
abbrev M_isPlace : Nat := 100
abbrev M_bar : Nat := 101
abbrev M_areBarred : Nat := 102
abbrev M_entry : Nat := 103
abbrev M_enter : Nat := 104
abbrev M_strike : Nat := 105
abbrev M_rule : Nat := 106
abbrev M_counted : Nat := 107
abbrev M_canAsk : Nat := 108
abbrev M_countedOf : Nat := 109
abbrev M_onDay : Nat := 110
abbrev M_countedOn : Nat := 111
abbrev M_left : Nat := 112
abbrev M_leftOf : Nat := 113
abbrev M_plan : Nat := 114
abbrev M_findPlan : Nat := 115
abbrev M_findMay : Nat := 116
abbrev M_ends : Nat := 117
abbrev M_goes : Nat := 118
abbrev M_planned : Nat := 119
abbrev M_gang : Nat := 120
abbrev M_plans : Nat := 121
abbrev M_when : Nat := 122
abbrev M_absent : Nat := 123
abbrev M_reason : Nat := 124
abbrev M_breaches : Nat := 125
abbrev M_isBreach : Nat := 126
abbrev M_court : Nat := 127
abbrev M_pace : Nat := 128
abbrev M_daysOf : Nat := 129
abbrev M_foretold : Nat := 130
abbrev M_foretoldOf : Nat := 131
abbrev M_late : Nat := 132
abbrev M_sheet : Nat := 133
abbrev M_isSheet : Nat := 134
abbrev M_put : Nat := 135
abbrev M_copy : Nat := 136
abbrev M_lay : Nat := 137
abbrev M_told : Nat := 138
abbrev Law_law : Nat := 139
def hd_MT : List hd_MI := [
  (⟨"HoursDesk$Planner", "shiftOf", "(I)I"⟩, prog_7_method_2_code, 1, (some .int), 5, 0, 0, 1),
  (⟨"HoursDesk", "person", "(IIIII)I"⟩, prog_1_method_2_code, 7, (some .int), 7, 3, 87, 5),
  (⟨"HoursDesk", "within", "(III)Z"⟩, prog_1_method_43_code, 3, (some .boolean), 7, 0, 0, 3),
  (⟨"HoursDesk", "isDay", "(I)Z"⟩, prog_1_method_44_code, 1, (some .boolean), 7, 1, 22, 1),
  (⟨"HoursDesk", "finding", "(I)I"⟩, prog_1_method_34_code, 2, (some .int), 7, 0, 0, 1),
  (⟨"HoursDesk$People", "add", "(IIIII)I"⟩, prog_5_method_3_code, 7, (some .int), 3, 0, 0, 5),
  (⟨"HoursDesk", "keep", "(III)I"⟩, prog_1_method_35_code, 4, (some .int), 7, 2, 64, 3),
  (⟨"HoursDesk$Planner", "forget", "()V"⟩, prog_7_method_3_code, 1, none, 5, 0, 0, 0),
  (⟨"HoursDesk$Acts", "push", "(III)I"⟩, prog_3_method_2_code, 5, (some .int), 1, 1, 40, 3),
  (⟨"HoursDesk", "as", "(II)I"⟩, prog_1_method_3_code, 3, (some .int), 7, 2, 43, 2),
  (⟨"HoursDesk$People", "has", "(I)Z"⟩, prog_5_method_2_code, 2, (some .boolean), 3, 0, 0, 1),
  (⟨"HoursDesk$People", "isOfKind", "(II)Z"⟩, prog_5_method_4_code, 3, (some .boolean), 3, 1, 21, 2),
  (⟨"HoursDesk", "hasBit", "(II)Z"⟩, prog_1_method_46_code, 2, (some .boolean), 7, 0, 0, 2),
  (⟨"HoursDesk", "of", "(II)I"⟩, prog_1_method_4_code, 3, (some .int), 7, 1, 21, 2),
  (⟨"HoursDesk", "extend", "(II)I"⟩, prog_1_method_5_code, 4, (some .int), 7, 3, 87, 2),
  (⟨"HoursDesk", "free", "(II)I"⟩, prog_1_method_6_code, 4, (some .int), 7, 3, 87, 2),
  (⟨"HoursDesk", "place", "(IIZII)I"⟩, prog_1_method_7_code, 7, (some .int), 7, 3, 87, 5),
  (⟨"HoursDesk$Places", "add", "(IIZII)I"⟩, prog_6_method_3_code, 7, (some .int), 4, 0, 0, 5),
  (⟨"HoursDesk", "open", "(II)I"⟩, prog_1_method_8_code, 4, (some .int), 7, 3, 87, 2),
  (⟨"HoursDesk$Places", "has", "(I)Z"⟩, prog_6_method_2_code, 2, (some .boolean), 4, 0, 0, 1),
  (⟨"HoursDesk", "bar", "(IIZ)I"⟩, prog_1_method_9_code, 5, (some .int), 7, 3, 87, 3),
  (⟨"HoursDesk$People", "isBarred", "(II)Z"⟩, prog_5_method_9_code, 3, (some .boolean), 3, 1, 21, 2),
  (⟨"HoursDesk$People", "setBarred", "(IIZ)V"⟩, prog_5_method_10_code, 4, none, 3, 0, 0, 3),
  (⟨"HoursDesk", "entry", "(IIIII)I"⟩, prog_1_method_10_code, 7, (some .int), 7, 3, 87, 5),
  (⟨"HoursDesk$Entries", "add", "(IIIII)I"⟩, prog_4_method_2_code, 7, (some .int), 2, 0, 0, 5),
  (⟨"HoursDesk", "strike", "()I"⟩, prog_1_method_11_code, 3, (some .int), 7, 3, 87, 0),
  (⟨"HoursDesk$Entries", "tellRow", "(I[I)V"⟩, prog_4_method_3_code, 3, none, 2, 0, 0, 2),
  (⟨"HoursDesk", "rule", "(II)I"⟩, prog_1_method_12_code, 4, (some .int), 7, 3, 87, 2),
  (⟨"HoursDesk", "setRule", "(II)V"⟩, prog_1_method_37_code, 3, none, 7, 0, 0, 2),
  (⟨"HoursDesk", "counted", "(III)I"⟩, prog_1_method_13_code, 4, (some .int), 7, 3, 75, 3),
  (⟨"HoursDesk", "minutesUpTo", "(III)I"⟩, prog_1_method_38_code, 4, (some .int), 7, 2, 52, 3),
  (⟨"HoursDesk$People", "dayLimit", "(I)I"⟩, prog_5_method_5_code, 2, (some .int), 3, 1, 21, 1),
  (⟨"HoursDesk$Entries", "countBetween", "(IIIII)I"⟩, prog_4_method_5_code, 8, (some .int), 2, 1, 25, 5),
  (⟨"HoursDesk$Entries", "takeDay", "(II)I"⟩, prog_4_method_6_code, 6, (some .int), 2, 0, 0, 2),
  (⟨"HoursDesk", "countedOn", "(III)I"⟩, prog_1_method_14_code, 4, (some .int), 7, 2, 52, 3),
  (⟨"HoursDesk", "left", "(III)I"⟩, prog_1_method_15_code, 4, (some .int), 7, 3, 75, 3),
  (⟨"HoursDesk$People", "owedMinutes", "(I)I"⟩, prog_5_method_6_code, 2, (some .int), 3, 0, 0, 1),
  (⟨"HoursDesk", "plan", "(I)I"⟩, prog_1_method_16_code, 2, (some .int), 7, 6, 146, 1),
  (⟨"HoursDesk", "findPlan", "(I)V"⟩, prog_1_method_40_code, 5, none, 7, 5, 122, 1),
  (⟨"HoursDesk", "comingOn", "(II)I"⟩, prog_1_method_41_code, 5, (some .int), 7, 4, 98, 2),
  (⟨"HoursDesk", "isDone", "(III)Z"⟩, prog_1_method_39_code, 4, (some .boolean), 7, 3, 75, 3),
  (⟨"HoursDesk$Planner", "begin", "(II[I)V"⟩, prog_7_method_4_code, 7, none, 5, 0, 0, 3),
  (⟨"HoursDesk$People", "ofKind", "(I)I"⟩, prog_5_method_7_code, 4, (some .int), 3, 2, 43, 1),
  (⟨"HoursDesk$People", "withSkills", "(I)I"⟩, prog_5_method_8_code, 4, (some .int), 3, 0, 0, 1),
  (⟨"HoursDesk$Planner", "weighGangs", "(ILHoursDesk$Places;II)V"⟩, prog_7_method_5_code, 11, none, 5, 1, 20, 4),
  (⟨"java/lang/Integer", "bitCount", "(I)I"⟩, prog_11_method_49_code, 1, (some .int), 11, 0, 0, 1),
  (⟨"HoursDesk$Planner", "addPlace", "()V"⟩, prog_7_method_6_code, 2, none, 5, 2, 66, 0),
  (⟨"HoursDesk$Planner", "addPlaceTo", "(I)V"⟩, prog_7_method_7_code, 7, none, 5, 1, 40, 1),
  (⟨"HoursDesk$Planner", "end", "()V"⟩, prog_7_method_8_code, 1, none, 5, 0, 0, 0),
  (⟨"HoursDesk$Planner", "howMany", "()I"⟩, prog_7_method_9_code, 1, (some .int), 5, 0, 0, 0),
  (⟨"HoursDesk", "planned", "(II)I"⟩, prog_1_method_17_code, 4, (some .int), 7, 6, 146, 2),
  (⟨"HoursDesk$Planner", "placeOf", "(I)I"⟩, prog_7_method_10_code, 2, (some .int), 5, 1, 20, 1),
  (⟨"HoursDesk", "gang", "(II)I"⟩, prog_1_method_18_code, 5, (some .int), 7, 6, 146, 2),
  (⟨"HoursDesk", "plans", "(I)I"⟩, prog_1_method_19_code, 2, (some .int), 7, 6, 146, 1),
  (⟨"HoursDesk", "when", "(II)I"⟩, prog_1_method_20_code, 5, (some .int), 7, 6, 146, 2),
  (⟨"HoursDesk", "absent", "(II)I"⟩, prog_1_method_21_code, 4, (some .int), 7, 3, 87, 2),
  (⟨"HoursDesk$Absences", "isAbsent", "(II)Z"⟩, prog_2_method_3_code, 4, (some .boolean), 0, 0, 0, 2),
  (⟨"HoursDesk$Absences", "add", "(II)I"⟩, prog_2_method_4_code, 4, (some .int), 0, 0, 0, 2),
  (⟨"HoursDesk", "reason", "(II)I"⟩, prog_1_method_22_code, 4, (some .int), 7, 3, 87, 2),
  (⟨"HoursDesk$Absences", "has", "(I)Z"⟩, prog_2_method_2_code, 2, (some .boolean), 0, 0, 0, 1),
  (⟨"HoursDesk", "breaches", "(II)I"⟩, prog_1_method_23_code, 3, (some .int), 7, 2, 49, 2),
  (⟨"HoursDesk$Absences", "countBreaches", "(IIII)I"⟩, prog_2_method_6_code, 7, (some .int), 0, 1, 23, 4),
  (⟨"HoursDesk$Absences", "isBreach", "(III)Z"⟩, prog_2_method_5_code, 4, (some .boolean), 0, 0, 0, 3),
  (⟨"HoursDesk", "court", "(II)I"⟩, prog_1_method_24_code, 4, (some .int), 7, 3, 73, 2),
  (⟨"HoursDesk$Absences", "courtDay", "(II)I"⟩, prog_2_method_7_code, 5, (some .int), 0, 2, 49, 2),
  (⟨"HoursDesk", "pace", "(IIZ)I"⟩, prog_1_method_25_code, 7, (some .int), 7, 3, 75, 3),
  (⟨"HoursDesk$Entries", "daysSinceFirst", "(II)I"⟩, prog_4_method_7_code, 5, (some .int), 2, 1, 40, 2),
  (⟨"HoursDesk", "commonPart", "(II)I"⟩, prog_1_method_48_code, 6, (some .int), 7, 0, 0, 2),
  (⟨"HoursDesk", "foretold", "(II)I"⟩, prog_1_method_26_code, 4, (some .int), 7, 4, 100, 2),
  (⟨"HoursDesk", "foretellEnd", "(II)I"⟩, prog_1_method_42_code, 6, (some .int), 7, 3, 75, 2),
  (⟨"HoursDesk", "late", "(I)I"⟩, prog_1_method_27_code, 5, (some .int), 7, 4, 100, 1),
  (⟨"HoursDesk", "sheet", "(III)I"⟩, prog_1_method_28_code, 5, (some .int), 7, 2, 42, 3),
  (⟨"HoursDesk", "isSheet", "(I)Z"⟩, prog_1_method_45_code, 1, (some .boolean), 7, 1, 22, 1),
  (⟨"HoursDesk$Sheets", "begin", "(III)V"⟩, prog_8_method_3_code, 5, none, 6, 0, 0, 3),
  (⟨"HoursDesk", "put", "(III)I"⟩, prog_1_method_29_code, 4, (some .int), 7, 2, 42, 3),
  (⟨"HoursDesk$Sheets", "isMissing", "(I)Z"⟩, prog_8_method_2_code, 2, (some .boolean), 6, 0, 0, 1),
  (⟨"HoursDesk", "lowestBits", "(II)I"⟩, prog_1_method_47_code, 2, (some .int), 7, 0, 0, 2),
  (⟨"HoursDesk", "copy", "(IIIII)I"⟩, prog_1_method_30_code, 6, (some .int), 7, 2, 42, 5),
  (⟨"HoursDesk$Sheets", "hasPart", "(III)Z"⟩, prog_8_method_4_code, 4, (some .boolean), 6, 0, 0, 3),
  (⟨"HoursDesk", "lay", "(III)I"⟩, prog_1_method_31_code, 8, (some .int), 7, 3, 87, 3),
  (⟨"HoursDesk$Sheets", "countWithin", "(III)I"⟩, prog_8_method_5_code, 6, (some .int), 6, 1, 22, 3),
  (⟨"HoursDesk", "undo", "()I"⟩, prog_1_method_32_code, 1, (some .int), 7, 3, 70, 0),
  (⟨"HoursDesk$Acts", "pop", "()I"⟩, prog_3_method_3_code, 1, (some .int), 1, 0, 0, 0),
  (⟨"HoursDesk", "takeBack", "(I)V"⟩, prog_1_method_36_code, 4, none, 7, 2, 47, 1),
  (⟨"HoursDesk$Entries", "addRow", "([I)V"⟩, prog_4_method_4_code, 2, none, 2, 1, 26, 1),
  (⟨"HoursDesk", "told", "(I)I"⟩, prog_1_method_33_code, 2, (some .int), 7, 2, 42, 1),
  (⟨"HoursDesk$People", "countBars", "()I"⟩, prog_5_method_11_code, 3, (some .int), 3, 1, 20, 0),
  (⟨"HoursDeskModel", "undo", "()I"⟩, prog_10_method_8_code, 2, (some .int), 8, 1, 21, 0),
  (⟨"HoursDeskModel", "finding", "(I)I"⟩, prog_10_method_2_code, 2, (some .int), 8, 0, 0, 1),
  (⟨"HoursDeskModel", "person", "(IIIII)I"⟩, prog_10_method_9_code, 7, (some .int), 8, 2, 42, 5),
  (⟨"HoursDeskModel", "within", "(III)Z"⟩, prog_10_method_3_code, 3, (some .boolean), 8, 0, 0, 3),
  (⟨"HoursDeskModel", "isDay", "(I)Z"⟩, prog_10_method_4_code, 1, (some .boolean), 8, 1, 22, 1),
  (⟨"HoursDeskModel", "keep", "()V"⟩, prog_10_method_7_code, 2, none, 8, 0, 0, 0),
  (⟨"HoursDeskModel", "as", "(II)I"⟩, prog_10_method_10_code, 4, (some .int), 8, 2, 43, 2),
  (⟨"HoursDeskModel", "isPerson", "(I)Z"⟩, prog_10_method_5_code, 2, (some .boolean), 8, 1, 22, 1),
  (⟨"HoursDeskModel", "of", "(II)I"⟩, prog_10_method_11_code, 3, (some .int), 8, 2, 43, 2),
  (⟨"HoursDeskModel", "extend", "(II)I"⟩, prog_10_method_12_code, 4, (some .int), 8, 2, 43, 2),
  (⟨"HoursDeskModel", "free", "(II)I"⟩, prog_10_method_13_code, 4, (some .int), 8, 2, 43, 2),
  (⟨"HoursDeskModel", "place", "(IIZII)I"⟩, prog_10_method_14_code, 7, (some .int), 8, 1, 22, 5),
  (⟨"HoursDeskModel", "open", "(II)I"⟩, prog_10_method_15_code, 4, (some .int), 8, 2, 43, 2),
  (⟨"HoursDeskModel", "isPlace", "(I)Z"⟩, prog_10_method_6_code, 2, (some .boolean), 8, 1, 22, 1),
  (⟨"HoursDeskModel", "bar", "(IIZ)I"⟩, prog_10_method_17_code, 7, (some .int), 8, 2, 43, 3),
  (⟨"HoursDeskModel", "areBarred", "(II)Z"⟩, prog_10_method_16_code, 3, (some .boolean), 8, 0, 0, 2),
  (⟨"HoursDeskModel", "entry", "(IIIII)I"⟩, prog_10_method_19_code, 6, (some .int), 8, 2, 43, 5),
  (⟨"HoursDeskModel", "enter", "(IIIII)V"⟩, prog_10_method_18_code, 7, none, 8, 0, 0, 5),
  (⟨"HoursDeskModel", "strike", "()I"⟩, prog_10_method_20_code, 1, (some .int), 8, 1, 21, 0),
  (⟨"HoursDeskModel", "rule", "(II)I"⟩, prog_10_method_21_code, 4, (some .int), 8, 1, 22, 2),
  (⟨"HoursDeskModel", "counted", "(III)I"⟩, prog_10_method_25_code, 4, (some .int), 8, 3, 93, 3),
  (⟨"HoursDeskModel", "canAsk", "(III)Z"⟩, prog_10_method_24_code, 4, (some .boolean), 8, 2, 43, 3),
  (⟨"HoursDeskModel", "countedOf", "(III)I"⟩, prog_10_method_23_code, 9, (some .int), 8, 2, 65, 3),
  (⟨"HoursDeskModel", "onDay", "(III)I"⟩, prog_10_method_22_code, 6, (some .int), 8, 1, 40, 3),
  (⟨"HoursDeskModel", "countedOn", "(III)I"⟩, prog_10_method_26_code, 4, (some .int), 8, 3, 66, 3),
  (⟨"HoursDeskModel", "left", "(III)I"⟩, prog_10_method_28_code, 4, (some .int), 8, 4, 116, 3),
  (⟨"HoursDeskModel", "leftOf", "(III)I"⟩, prog_10_method_27_code, 4, (some .int), 8, 3, 93, 3),
  (⟨"HoursDeskModel", "plan", "(I)I"⟩, prog_10_method_33_code, 2, (some .int), 8, 6, 165, 1),
  (⟨"HoursDeskModel", "findPlan", "(I)V"⟩, prog_10_method_32_code, 4, none, 8, 5, 142, 1),
  (⟨"HoursDeskModel", "findMay", "(I)V"⟩, prog_10_method_29_code, 7, none, 8, 4, 116, 1),
  (⟨"HoursDeskModel", "ends", "()V"⟩, prog_10_method_31_code, 6, none, 8, 0, 0, 0),
  (⟨"HoursDeskModel", "goes", "(II)Z"⟩, prog_10_method_30_code, 5, (some .boolean), 8, 1, 22, 2),
  (⟨"HoursDeskModel", "planned", "(II)I"⟩, prog_10_method_34_code, 3, (some .int), 8, 6, 165, 2),
  (⟨"HoursDeskModel", "gang", "(II)I"⟩, prog_10_method_35_code, 5, (some .int), 8, 6, 165, 2),
  (⟨"HoursDeskModel", "plans", "(I)I"⟩, prog_10_method_36_code, 2, (some .int), 8, 6, 165, 1),
  (⟨"HoursDeskModel", "when", "(II)I"⟩, prog_10_method_37_code, 4, (some .int), 8, 6, 165, 2),
  (⟨"HoursDeskModel", "absent", "(II)I"⟩, prog_10_method_38_code, 5, (some .int), 8, 2, 43, 2),
  (⟨"HoursDeskModel", "reason", "(II)I"⟩, prog_10_method_39_code, 4, (some .int), 8, 2, 42, 2),
  (⟨"HoursDeskModel", "breaches", "(II)I"⟩, prog_10_method_41_code, 5, (some .int), 8, 2, 43, 2),
  (⟨"HoursDeskModel", "isBreach", "(III)Z"⟩, prog_10_method_40_code, 5, (some .boolean), 8, 0, 0, 3),
  (⟨"HoursDeskModel", "court", "(II)I"⟩, prog_10_method_42_code, 8, (some .int), 8, 2, 43, 2),
  (⟨"HoursDeskModel", "pace", "(IIZ)I"⟩, prog_10_method_44_code, 9, (some .int), 8, 3, 93, 3),
  (⟨"HoursDeskModel", "daysOf", "(II)I"⟩, prog_10_method_43_code, 6, (some .int), 8, 0, 0, 2),
  (⟨"HoursDeskModel", "foretold", "(II)I"⟩, prog_10_method_46_code, 4, (some .int), 8, 5, 141, 2),
  (⟨"HoursDeskModel", "foretoldOf", "(II)I"⟩, prog_10_method_45_code, 6, (some .int), 8, 4, 116, 2),
  (⟨"HoursDeskModel", "late", "(I)I"⟩, prog_10_method_47_code, 5, (some .int), 8, 5, 141, 1),
  (⟨"HoursDeskModel", "sheet", "(III)I"⟩, prog_10_method_49_code, 5, (some .int), 8, 2, 42, 3),
  (⟨"HoursDeskModel", "isSheet", "(I)Z"⟩, prog_10_method_48_code, 1, (some .boolean), 8, 1, 22, 1),
  (⟨"HoursDeskModel", "put", "(III)I"⟩, prog_10_method_50_code, 5, (some .int), 8, 2, 42, 3),
  (⟨"HoursDeskModel", "copy", "(IIIII)I"⟩, prog_10_method_51_code, 7, (some .int), 8, 2, 42, 5),
  (⟨"HoursDeskModel", "lay", "(III)I"⟩, prog_10_method_52_code, 6, (some .int), 8, 2, 43, 3),
  (⟨"HoursDeskModel", "told", "(I)I"⟩, prog_10_method_53_code, 5, (some .int), 8, 1, 22, 1),
  (⟨"HoursDeskLaw", "law", "([I)Z"⟩, code, 4, (some .boolean), 9, 9, 342, 1)]
/-- field links: own class, entry, (class, slot, place in lw_tbl) -/
def hd_FT : List (Nat × Nat × Nat × Nat × Nat) := [(0, 9, 0, 0, 163), (0, 15, 0, 1, 164), (0, 18, 0, 2, 166), (0, 21, 0, 3, 168), (1, 9, 1, 0, 206), (1, 15, 1, 1, 208), (1, 18, 1, 2, 210), (1, 26, 1, 4, 214), (1, 30, 1, 5, 216), (2, 9, 2, 0, 126), (2, 15, 2, 1, 127), (2, 18, 2, 2, 128), (2, 21, 2, 3, 129), (2, 24, 2, 4, 130), (2, 27, 2, 5, 131), (2, 31, 2, 6, 133), (2, 34, 2, 7, 135), (2, 39, 2, 8, 137), (3, 9, 3, 0, 56), (3, 15, 3, 1, 58), (3, 18, 3, 2, 60), (3, 21, 3, 3, 62), (3, 24, 3, 4, 64), (3, 27, 3, 5, 66), (3, 30, 3, 6, 68), (4, 9, 4, 0, 92), (4, 15, 4, 1, 94), (4, 18, 4, 2, 96), (4, 22, 4, 3, 98), (4, 25, 4, 4, 100), (4, 28, 4, 5, 102), (5, 11, 5, 0, 239), (5, 15, 5, 1, 241), (5, 18, 5, 2, 243), (5, 21, 5, 3, 244), (5, 24, 5, 4, 245), (5, 28, 5, 5, 246), (5, 32, 5, 6, 247), (5, 35, 5, 7, 248), (5, 38, 5, 8, 249), (5, 45, 4, 3, 99), (5, 50, 4, 4, 101), (5, 53, 4, 2, 97), (6, 9, 6, 0, 186), (6, 15, 6, 1, 188), (6, 20, 6, 2, 190), (7, 10, 7, 0, 269), (7, 19, 7, 1, 270), (7, 26, 7, 2, 271), (7, 33, 7, 3, 272), (7, 40, 7, 4, 273), (7, 47, 7, 5, 274), (7, 54, 7, 6, 275), (7, 58, 7, 7, 276), (7, 75, 3, 6, 69), (7, 95, 3, 0, 57), (7, 99, 3, 1, 59), (7, 102, 3, 2, 61), (7, 105, 3, 3, 63), (7, 108, 3, 4, 65), (7, 112, 4, 5, 103), (7, 117, 4, 0, 93), (7, 127, 2, 5, 132), (7, 130, 1, 3, 213), (7, 138, 2, 6, 134), (7, 141, 2, 7, 136), (7, 177, 5, 1, 242), (7, 186, 0, 3, 169), (7, 190, 0, 1, 165), (7, 193, 0, 2, 167), (7, 226, 6, 1, 189), (7, 229, 6, 2, 191), (7, 232, 6, 0, 187), (7, 250, 1, 4, 215), (7, 266, 1, 1, 209), (7, 269, 1, 2, 211), (7, 272, 1, 0, 207), (7, 279, 5, 0, 240), (7, 284, 3, 5, 67), (7, 296, 4, 1, 95), (8, 9, 8, 0, 666), (8, 13, 8, 1, 667), (8, 16, 8, 4, 670), (8, 19, 8, 5, 671), (8, 22, 8, 6, 672), (8, 25, 8, 7, 673), (8, 28, 8, 10, 676), (8, 31, 8, 11, 677), (8, 34, 8, 12, 678), (8, 37, 8, 13, 679), (8, 40, 8, 3, 669), (8, 48, 8, 2, 668), (8, 103, 8, 8, 674), (8, 106, 8, 9, 675)]
/-- call links: own class, entry, (kind, method, place of the link in lw_tbl): kind 0 virtual, 1 static, 2 static of a nest mate, 3 arraycopy -/
def hd_CT : List (Nat × Nat × Nat × Nat × Nat) := [(0, 25, 0, 62, 554), (0, 29, 0, 61, 566), (1, 33, 5, 0, 326), (2, 42, 0, 24, 650), (2, 46, 0, 33, 429), (2, 50, 5, 0, 575), (3, 37, 2, 12, 343), (3, 41, 0, 11, 473), (3, 44, 1, 45, 659), (5, 41, 1, 0, 236), (5, 56, 1, 45, 482), (5, 61, 0, 47, 492), (5, 65, 4, 0, 496), (6, 23, 2, 2, 633), (7, 62, 1, 2, 298), (7, 66, 1, 3, 301), (7, 71, 0, 4, 305), (7, 79, 0, 5, 310), (7, 83, 0, 6, 314), (7, 87, 0, 10, 333), (7, 90, 0, 11, 337), (7, 113, 0, 17, 364), (7, 116, 0, 19, 372), (7, 120, 0, 21, 380), (7, 123, 0, 22, 384), (7, 128, 0, 24, 392), (7, 134, 0, 26, 401), (7, 144, 0, 28, 409), (7, 148, 0, 30, 417), (7, 151, 0, 31, 421), (7, 154, 0, 32, 425), (7, 157, 0, 36, 441), (7, 160, 4, 0, 445), (7, 166, 0, 38, 452), (7, 170, 0, 49, 501), (7, 174, 0, 51, 509), (7, 180, 5, 0, 525), (7, 183, 0, 56, 530), (7, 187, 0, 57, 534), (7, 189, 0, 59, 542), (7, 196, 0, 61, 550), (7, 200, 0, 64, 562), (7, 203, 0, 66, 571), (7, 206, 1, 67, 576), (7, 209, 0, 69, 583), (7, 212, 0, 40, 461), (7, 215, 1, 72, 595), (7, 218, 0, 73, 598), (7, 222, 0, 75, 606), (7, 235, 1, 76, 611), (7, 238, 0, 78, 618), (7, 241, 3, 0, 622), (7, 247, 0, 80, 629), (7, 251, 0, 82, 638), (7, 254, 0, 83, 642), (7, 257, 0, 7, 318), (7, 260, 0, 86, 655), (7, 263, 0, 8, 322), (7, 275, 0, 84, 646), (7, 281, 0, 39, 456), (7, 287, 0, 41, 465), (7, 290, 0, 42, 469), (7, 293, 1, 12, 460), (7, 299, 0, 43, 474), (7, 302, 0, 44, 478), (7, 306, 0, 46, 488), (7, 309, 0, 48, 497), (8, 44, 1, 90, 722), (8, 52, 0, 88, 714), (8, 56, 1, 91, 725), (8, 62, 0, 92, 730), (8, 65, 0, 94, 738), (8, 70, 0, 100, 764), (8, 73, 0, 102, 772), (8, 77, 0, 104, 780), (8, 81, 5, 0, 808), (8, 87, 0, 110, 804), (8, 91, 0, 108, 796), (8, 94, 0, 109, 800), (8, 97, 4, 0, 821), (8, 100, 0, 113, 817), (8, 109, 0, 116, 830), (8, 113, 0, 117, 834), (8, 116, 0, 118, 838), (8, 119, 0, 115, 826), (8, 122, 0, 126, 870), (8, 125, 0, 129, 882), (8, 128, 0, 131, 890), (8, 131, 1, 134, 902), (9, 13, 0, 1, 294), (9, 17, 0, 89, 718), (9, 18, 0, 9, 329), (9, 22, 0, 93, 734), (9, 23, 0, 13, 347), (9, 26, 0, 95, 743), (9, 27, 0, 14, 351), (9, 30, 0, 96, 747), (9, 31, 0, 15, 356), (9, 34, 0, 97, 752), (9, 35, 0, 16, 360), (9, 39, 0, 98, 756), (9, 40, 0, 18, 368), (9, 43, 0, 99, 760), (9, 44, 0, 20, 376), (9, 48, 0, 101, 768), (9, 49, 0, 23, 388), (9, 52, 0, 103, 776), (9, 53, 0, 25, 396), (9, 57, 0, 105, 784), (9, 58, 0, 27, 405), (9, 61, 0, 106, 788), (9, 62, 0, 29, 413), (9, 66, 0, 107, 792), (9, 67, 0, 34, 433), (9, 70, 0, 111, 809), (9, 71, 0, 35, 437), (9, 74, 0, 112, 813), (9, 75, 0, 37, 448), (9, 79, 0, 114, 822), (9, 80, 0, 50, 505), (9, 83, 0, 119, 842), (9, 84, 0, 52, 513), (9, 87, 0, 120, 846), (9, 88, 0, 53, 517), (9, 91, 0, 121, 850), (9, 92, 0, 54, 521), (9, 95, 0, 122, 854), (9, 96, 0, 55, 526), (9, 99, 0, 123, 858), (9, 100, 0, 58, 538), (9, 103, 0, 124, 862), (9, 104, 0, 60, 546), (9, 107, 0, 125, 866), (9, 108, 0, 63, 558), (9, 111, 0, 127, 874), (9, 112, 0, 65, 567), (9, 115, 0, 128, 878), (9, 116, 0, 68, 579), (9, 119, 0, 130, 886), (9, 120, 0, 70, 587), (9, 123, 0, 132, 894), (9, 124, 0, 71, 591), (9, 127, 0, 133, 898), (9, 128, 0, 74, 602), (9, 131, 0, 135, 905), (9, 132, 0, 77, 614), (9, 135, 0, 136, 910), (9, 136, 0, 79, 625), (9, 139, 0, 137, 914), (9, 140, 0, 81, 634), (9, 143, 0, 87, 709), (9, 144, 0, 85, 651), (9, 147, 0, 138, 918)]
/-- int constants: own class, entry, value, place in lw_tbl -/
def hd_LT : List (Nat × Nat × Int32 × Nat) := [(7, 70, -100001, 304), (7, 78, -100005, 309), (7, 94, -100004, 346), (7, 111, -100003, 355), (7, 129, -100006, 400), (7, 225, -100002, 610), (8, 51, -100006, 713), (8, 60, -100001, 728), (8, 61, -100005, 729), (8, 68, -100004, 742), (8, 69, -100003, 751), (8, 134, -100002, 909), (11, 265, 1431655765, 485), (11, 266, 858993459, 486), (11, 267, 252645135, 487)]
/-- of each method: places of its code, of instanceMethod or static, of selects (0: none), of its class initialized -/
def hd_MP : List (Nat × Nat × Nat × Nat) := [(238, 237, 0, 37), (297, 295, 296, 30), (300, 299, 0, 30), (303, 302, 0, 30), (308, 307, 0, 30), (313, 311, 312, 31), (317, 316, 1, 30), (321, 319, 320, 37), (325, 323, 324, 36), (332, 330, 331, 30), (336, 334, 335, 31), (340, 338, 339, 31), (345, 344, 0, 30), (350, 348, 349, 30), (354, 352, 353, 30), (359, 357, 358, 30), (363, 361, 362, 30), (367, 365, 366, 32), (371, 369, 370, 30), (375, 373, 374, 32), (379, 377, 378, 30), (383, 381, 382, 31), (387, 385, 386, 31), (391, 389, 390, 30), (395, 393, 394, 33), (399, 397, 398, 30), (404, 402, 403, 33), (408, 406, 407, 30), (412, 411, 2, 30), (416, 414, 415, 30), (420, 419, 3, 30), (424, 422, 423, 31), (428, 426, 427, 33), (432, 431, 4, 33), (436, 434, 435, 30), (440, 438, 439, 30), (444, 442, 443, 31), (451, 449, 450, 30), (455, 454, 5, 30), (459, 458, 6, 30), (464, 463, 7, 30), (468, 466, 467, 37), (472, 470, 471, 31), (477, 475, 476, 31), (481, 479, 480, 37), (484, 483, 0, 40), (491, 489, 490, 37), (495, 494, 8, 37), (500, 498, 499, 37), (504, 502, 503, 37), (508, 506, 507, 30), (512, 510, 511, 37), (516, 514, 515, 30), (520, 518, 519, 30), (524, 522, 523, 30), (529, 527, 528, 30), (533, 531, 532, 34), (537, 535, 536, 34), (541, 539, 540, 30), (545, 543, 544, 34), (549, 547, 548, 30), (553, 551, 552, 34), (557, 556, 9, 34), (561, 559, 560, 30), (565, 563, 564, 34), (570, 568, 569, 30), (574, 572, 573, 33), (578, 577, 0, 30), (582, 580, 581, 30), (586, 585, 10, 30), (590, 588, 589, 30), (594, 592, 593, 30), (597, 596, 0, 30), (601, 599, 600, 35), (605, 603, 604, 30), (609, 607, 608, 35), (613, 612, 0, 30), (617, 615, 616, 30), (621, 619, 620, 35), (628, 626, 627, 30), (632, 630, 631, 35), (637, 635, 636, 30), (641, 639, 640, 36), (645, 644, 11, 30), (649, 647, 648, 33), (654, 652, 653, 30), (658, 656, 657, 31), (712, 710, 711, 38), (717, 716, 12, 38), (721, 719, 720, 38), (724, 723, 0, 38), (727, 726, 0, 38), (733, 732, 13, 38), (737, 735, 736, 38), (741, 740, 14, 38), (746, 744, 745, 38), (750, 748, 749, 38), (755, 753, 754, 38), (759, 757, 758, 38), (763, 761, 762, 38), (767, 766, 15, 38), (771, 769, 770, 38), (775, 774, 16, 38), (779, 777, 778, 38), (783, 782, 17, 38), (787, 785, 786, 38), (791, 789, 790, 38), (795, 793, 794, 38), (799, 798, 18, 38), (803, 802, 19, 38), (807, 806, 20, 38), (812, 810, 811, 38), (816, 814, 815, 38), (820, 819, 21, 38), (825, 823, 824, 38), (829, 828, 22, 38), (833, 832, 23, 38), (837, 836, 24, 38), (841, 840, 25, 38), (845, 843, 844, 38), (849, 847, 848, 38), (853, 851, 852, 38), (857, 855, 856, 38), (861, 859, 860, 38), (865, 863, 864, 38), (869, 867, 868, 38), (873, 872, 26, 38), (877, 875, 876, 38), (881, 879, 880, 38), (885, 884, 27, 38), (889, 887, 888, 38), (893, 892, 28, 38), (897, 895, 896, 38), (901, 899, 900, 38), (904, 903, 0, 38), (908, 906, 907, 38), (913, 911, 912, 38), (917, 915, 916, 38), (921, 919, 920, 38), (0, 0, 0, 0)]
