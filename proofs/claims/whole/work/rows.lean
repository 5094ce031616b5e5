section
-- ===== PART A: goes FIRST, ahead of the names: the tables' words, and 'selects' of the private methods out of them =====
/-- a private method of a class that the tables say can be made, by its rows of tables_1 -/
def lw_okq (q : MethodName × Nat) : Prop := (q.1.cls ≠ "java/lang/invoke/MethodHandle" ∧ q.1.cls ≠ "java/lang/invoke/VarHandle") ∧ Cond.instantiable q.1.cls q.2 ∈ tables_1 ∧ Cond.privateMethod q.1 ∈ tables_1 ∧ Cond.instanceMethod q.1 ∈ tables_1
theorem lw_p0 : lw_okq (⟨"HoursDesk", "finding", "(I)I"⟩, 8) := ⟨⟨by decide +kernel, by decide +kernel⟩, List.mem_of_getElem? (i := 14) (by decide +kernel), List.mem_of_getElem? (i := 277) (by decide +kernel), List.mem_of_getElem? (i := 278) (by decide +kernel)⟩
theorem lw_p1 : lw_okq (⟨"HoursDesk", "keep", "(III)I"⟩, 8) := ⟨⟨by decide +kernel, by decide +kernel⟩, List.mem_of_getElem? (i := 14) (by decide +kernel), List.mem_of_getElem? (i := 286) (by decide +kernel), List.mem_of_getElem? (i := 287) (by decide +kernel)⟩
theorem lw_p2 : lw_okq (⟨"HoursDesk", "setRule", "(II)V"⟩, 8) := ⟨⟨by decide +kernel, by decide +kernel⟩, List.mem_of_getElem? (i := 14) (by decide +kernel), List.mem_of_getElem? (i := 381) (by decide +kernel), List.mem_of_getElem? (i := 382) (by decide +kernel)⟩
theorem lw_p3 : lw_okq (⟨"HoursDesk", "minutesUpTo", "(III)I"⟩, 8) := ⟨⟨by decide +kernel, by decide +kernel⟩, List.mem_of_getElem? (i := 14) (by decide +kernel), List.mem_of_getElem? (i := 389) (by decide +kernel), List.mem_of_getElem? (i := 390) (by decide +kernel)⟩
theorem lw_p4 : lw_okq (⟨"HoursDesk$Entries", "takeDay", "(II)I"⟩, 9) := ⟨⟨by decide +kernel, by decide +kernel⟩, List.mem_of_getElem? (i := 90) (by decide +kernel), List.mem_of_getElem? (i := 401) (by decide +kernel), List.mem_of_getElem? (i := 402) (by decide +kernel)⟩
theorem lw_p5 : lw_okq (⟨"HoursDesk", "findPlan", "(I)V"⟩, 8) := ⟨⟨by decide +kernel, by decide +kernel⟩, List.mem_of_getElem? (i := 14) (by decide +kernel), List.mem_of_getElem? (i := 424) (by decide +kernel), List.mem_of_getElem? (i := 425) (by decide +kernel)⟩
theorem lw_p6 : lw_okq (⟨"HoursDesk", "comingOn", "(II)I"⟩, 8) := ⟨⟨by decide +kernel, by decide +kernel⟩, List.mem_of_getElem? (i := 14) (by decide +kernel), List.mem_of_getElem? (i := 428) (by decide +kernel), List.mem_of_getElem? (i := 429) (by decide +kernel)⟩
theorem lw_p7 : lw_okq (⟨"HoursDesk", "isDone", "(III)Z"⟩, 8) := ⟨⟨by decide +kernel, by decide +kernel⟩, List.mem_of_getElem? (i := 14) (by decide +kernel), List.mem_of_getElem? (i := 433) (by decide +kernel), List.mem_of_getElem? (i := 434) (by decide +kernel)⟩
theorem lw_p8 : lw_okq (⟨"HoursDesk$Planner", "addPlaceTo", "(I)V"⟩, 9) := ⟨⟨by decide +kernel, by decide +kernel⟩, List.mem_of_getElem? (i := 202) (by decide +kernel), List.mem_of_getElem? (i := 464) (by decide +kernel), List.mem_of_getElem? (i := 465) (by decide +kernel)⟩
theorem lw_p9 : lw_okq (⟨"HoursDesk$Absences", "isBreach", "(III)Z"⟩, 4) := ⟨⟨by decide +kernel, by decide +kernel⟩, List.mem_of_getElem? (i := 129) (by decide +kernel), List.mem_of_getElem? (i := 526) (by decide +kernel), List.mem_of_getElem? (i := 527) (by decide +kernel)⟩
theorem lw_p10 : lw_okq (⟨"HoursDesk", "foretellEnd", "(II)I"⟩, 8) := ⟨⟨by decide +kernel, by decide +kernel⟩, List.mem_of_getElem? (i := 14) (by decide +kernel), List.mem_of_getElem? (i := 555) (by decide +kernel), List.mem_of_getElem? (i := 556) (by decide +kernel)⟩
theorem lw_p11 : lw_okq (⟨"HoursDesk", "takeBack", "(I)V"⟩, 8) := ⟨⟨by decide +kernel, by decide +kernel⟩, List.mem_of_getElem? (i := 14) (by decide +kernel), List.mem_of_getElem? (i := 614) (by decide +kernel), List.mem_of_getElem? (i := 615) (by decide +kernel)⟩
theorem lw_p12 : lw_okq (⟨"HoursDeskModel", "finding", "(I)I"⟩, 14) := ⟨⟨by decide +kernel, by decide +kernel⟩, List.mem_of_getElem? (i := 632) (by decide +kernel), List.mem_of_getElem? (i := 686) (by decide +kernel), List.mem_of_getElem? (i := 687) (by decide +kernel)⟩
theorem lw_p13 : lw_okq (⟨"HoursDeskModel", "keep", "()V"⟩, 14) := ⟨⟨by decide +kernel, by decide +kernel⟩, List.mem_of_getElem? (i := 632) (by decide +kernel), List.mem_of_getElem? (i := 702) (by decide +kernel), List.mem_of_getElem? (i := 703) (by decide +kernel)⟩
theorem lw_p14 : lw_okq (⟨"HoursDeskModel", "isPerson", "(I)Z"⟩, 14) := ⟨⟨by decide +kernel, by decide +kernel⟩, List.mem_of_getElem? (i := 632) (by decide +kernel), List.mem_of_getElem? (i := 710) (by decide +kernel), List.mem_of_getElem? (i := 711) (by decide +kernel)⟩
theorem lw_p15 : lw_okq (⟨"HoursDeskModel", "isPlace", "(I)Z"⟩, 14) := ⟨⟨by decide +kernel, by decide +kernel⟩, List.mem_of_getElem? (i := 632) (by decide +kernel), List.mem_of_getElem? (i := 736) (by decide +kernel), List.mem_of_getElem? (i := 737) (by decide +kernel)⟩
def lw_privs_1 : List (MethodName × Nat) := [(⟨"HoursDesk", "finding", "(I)I"⟩, 8), (⟨"HoursDesk", "keep", "(III)I"⟩, 8), (⟨"HoursDesk", "setRule", "(II)V"⟩, 8), (⟨"HoursDesk", "minutesUpTo", "(III)I"⟩, 8), (⟨"HoursDesk$Entries", "takeDay", "(II)I"⟩, 9), (⟨"HoursDesk", "findPlan", "(I)V"⟩, 8), (⟨"HoursDesk", "comingOn", "(II)I"⟩, 8), (⟨"HoursDesk", "isDone", "(III)Z"⟩, 8), (⟨"HoursDesk$Planner", "addPlaceTo", "(I)V"⟩, 9), (⟨"HoursDesk$Absences", "isBreach", "(III)Z"⟩, 4), (⟨"HoursDesk", "foretellEnd", "(II)I"⟩, 8), (⟨"HoursDesk", "takeBack", "(I)V"⟩, 8), (⟨"HoursDeskModel", "finding", "(I)I"⟩, 14), (⟨"HoursDeskModel", "keep", "()V"⟩, 14), (⟨"HoursDeskModel", "isPerson", "(I)Z"⟩, 14), (⟨"HoursDeskModel", "isPlace", "(I)Z"⟩, 14)]
theorem lw_r1 : ∀ q ∈ lw_privs_1, lw_okq q := List.forall_mem_cons.mpr ⟨lw_p0, List.forall_mem_cons.mpr ⟨lw_p1, List.forall_mem_cons.mpr ⟨lw_p2, List.forall_mem_cons.mpr ⟨lw_p3, List.forall_mem_cons.mpr ⟨lw_p4, List.forall_mem_cons.mpr ⟨lw_p5, List.forall_mem_cons.mpr ⟨lw_p6, List.forall_mem_cons.mpr ⟨lw_p7, List.forall_mem_cons.mpr ⟨lw_p8, List.forall_mem_cons.mpr ⟨lw_p9, List.forall_mem_cons.mpr ⟨lw_p10, List.forall_mem_cons.mpr ⟨lw_p11, List.forall_mem_cons.mpr ⟨lw_p12, List.forall_mem_cons.mpr ⟨lw_p13, List.forall_mem_cons.mpr ⟨lw_p14, List.forall_mem_cons.mpr ⟨lw_p15, fun _ h => absurd h List.not_mem_nil⟩⟩⟩⟩⟩⟩⟩⟩⟩⟩⟩⟩⟩⟩⟩⟩
theorem lw_p16 : lw_okq (⟨"HoursDeskModel", "areBarred", "(II)Z"⟩, 14) := ⟨⟨by decide +kernel, by decide +kernel⟩, List.mem_of_getElem? (i := 632) (by decide +kernel), List.mem_of_getElem? (i := 744) (by decide +kernel), List.mem_of_getElem? (i := 745) (by decide +kernel)⟩
theorem lw_p17 : lw_okq (⟨"HoursDeskModel", "enter", "(IIIII)V"⟩, 14) := ⟨⟨by decide +kernel, by decide +kernel⟩, List.mem_of_getElem? (i := 632) (by decide +kernel), List.mem_of_getElem? (i := 752) (by decide +kernel), List.mem_of_getElem? (i := 753) (by decide +kernel)⟩
theorem lw_p18 : lw_okq (⟨"HoursDeskModel", "canAsk", "(III)Z"⟩, 14) := ⟨⟨by decide +kernel, by decide +kernel⟩, List.mem_of_getElem? (i := 632) (by decide +kernel), List.mem_of_getElem? (i := 768) (by decide +kernel), List.mem_of_getElem? (i := 769) (by decide +kernel)⟩
theorem lw_p19 : lw_okq (⟨"HoursDeskModel", "countedOf", "(III)I"⟩, 14) := ⟨⟨by decide +kernel, by decide +kernel⟩, List.mem_of_getElem? (i := 632) (by decide +kernel), List.mem_of_getElem? (i := 772) (by decide +kernel), List.mem_of_getElem? (i := 773) (by decide +kernel)⟩
theorem lw_p20 : lw_okq (⟨"HoursDeskModel", "onDay", "(III)I"⟩, 14) := ⟨⟨by decide +kernel, by decide +kernel⟩, List.mem_of_getElem? (i := 632) (by decide +kernel), List.mem_of_getElem? (i := 776) (by decide +kernel), List.mem_of_getElem? (i := 777) (by decide +kernel)⟩
theorem lw_p21 : lw_okq (⟨"HoursDeskModel", "leftOf", "(III)I"⟩, 14) := ⟨⟨by decide +kernel, by decide +kernel⟩, List.mem_of_getElem? (i := 632) (by decide +kernel), List.mem_of_getElem? (i := 789) (by decide +kernel), List.mem_of_getElem? (i := 790) (by decide +kernel)⟩
theorem lw_p22 : lw_okq (⟨"HoursDeskModel", "findPlan", "(I)V"⟩, 14) := ⟨⟨by decide +kernel, by decide +kernel⟩, List.mem_of_getElem? (i := 632) (by decide +kernel), List.mem_of_getElem? (i := 798) (by decide +kernel), List.mem_of_getElem? (i := 799) (by decide +kernel)⟩
theorem lw_p23 : lw_okq (⟨"HoursDeskModel", "findMay", "(I)V"⟩, 14) := ⟨⟨by decide +kernel, by decide +kernel⟩, List.mem_of_getElem? (i := 632) (by decide +kernel), List.mem_of_getElem? (i := 802) (by decide +kernel), List.mem_of_getElem? (i := 803) (by decide +kernel)⟩
theorem lw_p24 : lw_okq (⟨"HoursDeskModel", "ends", "()V"⟩, 14) := ⟨⟨by decide +kernel, by decide +kernel⟩, List.mem_of_getElem? (i := 632) (by decide +kernel), List.mem_of_getElem? (i := 806) (by decide +kernel), List.mem_of_getElem? (i := 807) (by decide +kernel)⟩
theorem lw_p25 : lw_okq (⟨"HoursDeskModel", "goes", "(II)Z"⟩, 14) := ⟨⟨by decide +kernel, by decide +kernel⟩, List.mem_of_getElem? (i := 632) (by decide +kernel), List.mem_of_getElem? (i := 810) (by decide +kernel), List.mem_of_getElem? (i := 811) (by decide +kernel)⟩
theorem lw_p26 : lw_okq (⟨"HoursDeskModel", "isBreach", "(III)Z"⟩, 14) := ⟨⟨by decide +kernel, by decide +kernel⟩, List.mem_of_getElem? (i := 632) (by decide +kernel), List.mem_of_getElem? (i := 842) (by decide +kernel), List.mem_of_getElem? (i := 843) (by decide +kernel)⟩
theorem lw_p27 : lw_okq (⟨"HoursDeskModel", "daysOf", "(II)I"⟩, 14) := ⟨⟨by decide +kernel, by decide +kernel⟩, List.mem_of_getElem? (i := 632) (by decide +kernel), List.mem_of_getElem? (i := 854) (by decide +kernel), List.mem_of_getElem? (i := 855) (by decide +kernel)⟩
theorem lw_p28 : lw_okq (⟨"HoursDeskModel", "foretoldOf", "(II)I"⟩, 14) := ⟨⟨by decide +kernel, by decide +kernel⟩, List.mem_of_getElem? (i := 632) (by decide +kernel), List.mem_of_getElem? (i := 862) (by decide +kernel), List.mem_of_getElem? (i := 863) (by decide +kernel)⟩
def lw_privs_2 : List (MethodName × Nat) := [(⟨"HoursDeskModel", "areBarred", "(II)Z"⟩, 14), (⟨"HoursDeskModel", "enter", "(IIIII)V"⟩, 14), (⟨"HoursDeskModel", "canAsk", "(III)Z"⟩, 14), (⟨"HoursDeskModel", "countedOf", "(III)I"⟩, 14), (⟨"HoursDeskModel", "onDay", "(III)I"⟩, 14), (⟨"HoursDeskModel", "leftOf", "(III)I"⟩, 14), (⟨"HoursDeskModel", "findPlan", "(I)V"⟩, 14), (⟨"HoursDeskModel", "findMay", "(I)V"⟩, 14), (⟨"HoursDeskModel", "ends", "()V"⟩, 14), (⟨"HoursDeskModel", "goes", "(II)Z"⟩, 14), (⟨"HoursDeskModel", "isBreach", "(III)Z"⟩, 14), (⟨"HoursDeskModel", "daysOf", "(II)I"⟩, 14), (⟨"HoursDeskModel", "foretoldOf", "(II)I"⟩, 14)]
theorem lw_r2 : ∀ q ∈ lw_privs_2, lw_okq q := List.forall_mem_cons.mpr ⟨lw_p16, List.forall_mem_cons.mpr ⟨lw_p17, List.forall_mem_cons.mpr ⟨lw_p18, List.forall_mem_cons.mpr ⟨lw_p19, List.forall_mem_cons.mpr ⟨lw_p20, List.forall_mem_cons.mpr ⟨lw_p21, List.forall_mem_cons.mpr ⟨lw_p22, List.forall_mem_cons.mpr ⟨lw_p23, List.forall_mem_cons.mpr ⟨lw_p24, List.forall_mem_cons.mpr ⟨lw_p25, List.forall_mem_cons.mpr ⟨lw_p26, List.forall_mem_cons.mpr ⟨lw_p27, List.forall_mem_cons.mpr ⟨lw_p28, fun _ h => absurd h List.not_mem_nil⟩⟩⟩⟩⟩⟩⟩⟩⟩⟩⟩⟩⟩
def lw_privs : List (MethodName × Nat) := lw_privs_1 ++ (lw_privs_2)
def lw_tbl : List Cond := k2_sels lw_privs ++ tables_1
theorem lw_privs_ok : ∀ q ∈ lw_privs, lw_okq q := by
  show ∀ q ∈ lw_privs_1 ++ (lw_privs_2), lw_okq q
  exact List.forall_mem_append.mpr ⟨lw_r1, lw_r2⟩
end
section
/-! names and tables of the claim's methods (written by wip/tools/gen_tables.py) -/
def hd_R : List String := ["HoursDesk$Absences", "HoursDesk$Acts", "HoursDesk$Entries", "HoursDesk$People", "HoursDesk$Places", "HoursDesk$Planner", "HoursDesk$Sheets", "HoursDesk", "HoursDeskModel", "HoursDeskLaw", "java/lang/Math", "java/lang/Integer"]
def hd_own (o : Nat) : String := hd_R.getD o ""
def hd_T0 : u_T := fun k => match k with
  | 0 => ("HoursDesk$Absences", "person", "[I", true)
  | 1 => ("HoursDesk$Absences", "day", "[I", true)
  | 2 => ("HoursDesk$Absences", "proved", "[I", true)
  | _ => ("HoursDesk$Absences", "count", "I", false)
def hd_t0 : Nat → FieldType := fun k => match k with
  | 0 => .array .int
  | 1 => .array .int
  | 2 => .array .int
  | _ => .int
def hd_T1 : u_T := fun k => match k with
  | 0 => ("HoursDesk$Acts", "what", "[I", true)
  | 1 => ("HoursDesk$Acts", "index", "[I", true)
  | 2 => ("HoursDesk$Acts", "was", "[I", true)
  | 3 => ("HoursDesk$Acts", "struck", "[[I", true)
  | 4 => ("HoursDesk$Acts", "count", "I", false)
  | _ => ("HoursDesk$Acts", "next", "I", false)
def hd_t1 : Nat → FieldType := fun k => match k with
  | 0 => .array .int
  | 1 => .array .int
  | 2 => .array .int
  | 3 => .array (.array .int)
  | 4 => .int
  | _ => .int
def hd_T2 : u_T := fun k => match k with
  | 0 => ("HoursDesk$Entries", "person", "[I", true)
  | 1 => ("HoursDesk$Entries", "day", "[I", true)
  | 2 => ("HoursDesk$Entries", "minutes", "[I", true)
  | 3 => ("HoursDesk$Entries", "sort", "[I", true)
  | 4 => ("HoursDesk$Entries", "known", "[I", true)
  | 5 => ("HoursDesk$Entries", "count", "I", false)
  | 6 => ("HoursDesk$Entries", "travelMost", "I", false)
  | 7 => ("HoursDesk$Entries", "rainHundredths", "I", false)
  | _ => ("HoursDesk$Entries", "sums", "[[I", true)
def hd_t2 : Nat → FieldType := fun k => match k with
  | 0 => .array .int
  | 1 => .array .int
  | 2 => .array .int
  | 3 => .array .int
  | 4 => .array .int
  | 5 => .int
  | 6 => .int
  | 7 => .int
  | _ => .array (.array .int)
def hd_T3 : u_T := fun k => match k with
  | 0 => ("HoursDesk$People", "kind", "[I", true)
  | 1 => ("HoursDesk$People", "owes", "[I", true)
  | 2 => ("HoursDesk$People", "free", "[I", true)
  | 3 => ("HoursDesk$People", "skills", "[I", true)
  | 4 => ("HoursDesk$People", "due", "[I", true)
  | 5 => ("HoursDesk$People", "barred", "[I", true)
  | _ => ("HoursDesk$People", "count", "I", false)
def hd_t3 : Nat → FieldType := fun k => match k with
  | 0 => .array .int
  | 1 => .array .int
  | 2 => .array .int
  | 3 => .array .int
  | 4 => .array .int
  | 5 => .array .int
  | _ => .int
def hd_T4 : u_T := fun k => match k with
  | 0 => ("HoursDesk$Places", "open", "[I", true)
  | 1 => ("HoursDesk$Places", "asks", "[I", true)
  | 2 => ("HoursDesk$Places", "leader", "[Z", true)
  | 3 => ("HoursDesk$Places", "least", "[I", true)
  | 4 => ("HoursDesk$Places", "most", "[I", true)
  | _ => ("HoursDesk$Places", "count", "I", false)
def hd_t4 : Nat → FieldType := fun k => match k with
  | 0 => .array .int
  | 1 => .array .int
  | 2 => .array .boolean
  | 3 => .array .int
  | 4 => .array .int
  | _ => .int
def hd_T5 : u_T := fun k => match k with
  | 0 => ("HoursDesk$Planner", "day", "I", false)
  | 1 => ("HoursDesk$Planner", "ways", "I", false)
  | 2 => ("HoursDesk$Planner", "worth", "I", false)
  | 3 => ("HoursDesk$Planner", "coming", "I", false)
  | 4 => ("HoursDesk$Planner", "digits", "[I", true)
  | 5 => ("HoursDesk$Planner", "hasBar", "[Z", true)
  | 6 => ("HoursDesk$Planner", "gangWorth", "[I", true)
  | 7 => ("HoursDesk$Planner", "best", "[I", true)
  | _ => ("HoursDesk$Planner", "bestWays", "[I", true)
def hd_t5 : Nat → FieldType := fun k => match k with
  | 0 => .int
  | 1 => .int
  | 2 => .int
  | 3 => .int
  | 4 => .array .int
  | 5 => .array .boolean
  | 6 => .array .int
  | 7 => .array .int
  | _ => .array .int
def hd_T6 : u_T := fun k => match k with
  | 0 => ("HoursDesk$Sheets", "bits", "[I", true)
  | 1 => ("HoursDesk$Sheets", "size", "[I", true)
  | _ => ("HoursDesk$Sheets", "numbers", "[[I", true)
def hd_t6 : Nat → FieldType := fun k => match k with
  | 0 => .array .int
  | 1 => .array .int
  | _ => .array (.array .int)
def hd_T7 : u_T := fun k => match k with
  | 0 => ("HoursDesk", "people", "LHoursDesk$People;", true)
  | 1 => ("HoursDesk", "places", "LHoursDesk$Places;", true)
  | 2 => ("HoursDesk", "entries", "LHoursDesk$Entries;", true)
  | 3 => ("HoursDesk", "absences", "LHoursDesk$Absences;", true)
  | 4 => ("HoursDesk", "sheets", "LHoursDesk$Sheets;", true)
  | 5 => ("HoursDesk", "acts", "LHoursDesk$Acts;", true)
  | 6 => ("HoursDesk", "planner", "LHoursDesk$Planner;", true)
  | _ => ("HoursDesk", "findings", "I", false)
def hd_t7 : Nat → FieldType := fun k => match k with
  | 0 => .object "HoursDesk$People"
  | 1 => .object "HoursDesk$Places"
  | 2 => .object "HoursDesk$Entries"
  | 3 => .object "HoursDesk$Absences"
  | 4 => .object "HoursDesk$Sheets"
  | 5 => .object "HoursDesk$Acts"
  | 6 => .object "HoursDesk$Planner"
  | _ => .int
def hd_T8 : u_T := fun k => match k with
  | 0 => ("HoursDeskModel", "now", "[I", true)
  | 1 => ("HoursDeskModel", "past", "[I", true)
  | 2 => ("HoursDeskModel", "kept", "I", false)
  | 3 => ("HoursDeskModel", "findings", "I", false)
  | 4 => ("HoursDeskModel", "bits", "[I", true)
  | 5 => ("HoursDeskModel", "sizes", "[I", true)
  | 6 => ("HoursDeskModel", "sheets", "[I", true)
  | 7 => ("HoursDeskModel", "sums", "[I", true)
  | 8 => ("HoursDeskModel", "most", "I", false)
  | 9 => ("HoursDeskModel", "plans", "I", false)
  | 10 => ("HoursDeskModel", "best", "[I", true)
  | 11 => ("HoursDeskModel", "at", "[I", true)
  | 12 => ("HoursDeskModel", "may", "[I", true)
  | _ => ("HoursDeskModel", "carried", "[I", true)
def hd_t8 : Nat → FieldType := fun k => match k with
  | 0 => .array .int
  | 1 => .array .int
  | 2 => .int
  | 3 => .int
  | 4 => .array .int
  | 5 => .array .int
  | 6 => .array .int
  | 7 => .array .int
  | 8 => .int
  | 9 => .int
  | 10 => .array .int
  | 11 => .array .int
  | 12 => .array .int
  | _ => .array .int
abbrev hd_cl : List vw_C := [("HoursDesk$Absences", hd_T0, 4), ("HoursDesk$Acts", hd_T1, 6), ("HoursDesk$Entries", hd_T2, 9), ("HoursDesk$People", hd_T3, 7), ("HoursDesk$Places", hd_T4, 6), ("HoursDesk$Planner", hd_T5, 9), ("HoursDesk$Sheets", hd_T6, 3), ("HoursDesk", hd_T7, 8), ("HoursDeskModel", hd_T8, 14)]
/-- methods: name, code, locals, answer, own class, frames, words, parameters -/
abbrev hd_MI : Type := MethodName × ByteArray × Nat × Option FieldType × Nat × Nat × Nat × Nat
abbrev Pn_shiftOf : Nat := 0
abbrev D_person : Nat := 1
abbrev D_within : Nat := 2
abbrev D_isDay : Nat := 3
abbrev D_finding : Nat := 4
abbrev Pe_add : Nat := 5
abbrev D_keep : Nat := 6
abbrev Pn_forget : Nat := 7
abbrev Ac_push : Nat := 8
abbrev D_as : Nat := 9
abbrev Pe_has : Nat := 10
abbrev Pe_isOfKind : Nat := 11
abbrev D_hasBit : Nat := 12
abbrev D_of : Nat := 13
abbrev D_extend : Nat := 14
abbrev D_free : Nat := 15
abbrev D_place : Nat := 16
abbrev Pl_add : Nat := 17
abbrev D_open : Nat := 18
abbrev Pl_has : Nat := 19
abbrev D_bar : Nat := 20
abbrev Pe_isBarred : Nat := 21
abbrev Pe_setBarred : Nat := 22
abbrev D_entry : Nat := 23
abbrev En_add : Nat := 24
abbrev D_strike : Nat := 25
abbrev En_tellRow : Nat := 26
abbrev D_rule : Nat := 27
abbrev D_setRule : Nat := 28
abbrev D_counted : Nat := 29
abbrev D_minutesUpTo : Nat := 30
abbrev Pe_dayLimit : Nat := 31
abbrev En_countBetween : Nat := 32
abbrev En_takeDay : Nat := 33
abbrev D_countedOn : Nat := 34
abbrev D_left : Nat := 35
abbrev Pe_owedMinutes : Nat := 36
abbrev D_plan : Nat := 37
abbrev D_findPlan : Nat := 38
abbrev D_comingOn : Nat := 39
abbrev D_isDone : Nat := 40
abbrev Pn_begin : Nat := 41
abbrev Pe_ofKind : Nat := 42
abbrev Pe_withSkills : Nat := 43
abbrev Pn_weighGangs : Nat := 44
abbrev In_bitCount : Nat := 45
abbrev Pn_addPlace : Nat := 46
abbrev Pn_addPlaceTo : Nat := 47
abbrev Pn_end : Nat := 48
abbrev Pn_howMany : Nat := 49
abbrev D_planned : Nat := 50
abbrev Pn_placeOf : Nat := 51
abbrev D_gang : Nat := 52
abbrev D_plans : Nat := 53
abbrev D_when : Nat := 54
abbrev D_absent : Nat := 55
abbrev Ab_isAbsent : Nat := 56
abbrev Ab_add : Nat := 57
abbrev D_reason : Nat := 58
abbrev Ab_has : Nat := 59
abbrev D_breaches : Nat := 60
abbrev Ab_countBreaches : Nat := 61
abbrev Ab_isBreach : Nat := 62
abbrev D_court : Nat := 63
abbrev Ab_courtDay : Nat := 64
abbrev D_pace : Nat := 65
abbrev En_daysSinceFirst : Nat := 66
abbrev D_commonPart : Nat := 67
abbrev D_foretold : Nat := 68
abbrev D_foretellEnd : Nat := 69
abbrev D_late : Nat := 70
abbrev D_sheet : Nat := 71
abbrev D_isSheet : Nat := 72
abbrev Sh_begin : Nat := 73
abbrev D_put : Nat := 74
abbrev Sh_isMissing : Nat := 75
abbrev D_lowestBits : Nat := 76
abbrev D_copy : Nat := 77
abbrev Sh_hasPart : Nat := 78
abbrev D_lay : Nat := 79
abbrev Sh_countWithin : Nat := 80
abbrev D_undo : Nat := 81
abbrev Ac_pop : Nat := 82
abbrev D_takeBack : Nat := 83
abbrev En_addRow : Nat := 84
abbrev D_told : Nat := 85
abbrev Pe_countBars : Nat := 86
abbrev M_undo : Nat := 87
abbrev M_finding : Nat := 88
abbrev M_person : Nat := 89
abbrev M_within : Nat := 90
abbrev M_isDay : Nat := 91
abbrev M_keep : Nat := 92
abbrev M_as : Nat := 93
abbrev M_isPerson : Nat := 94
abbrev M_of : Nat := 95
abbrev M_extend : Nat := 96
abbrev M_free : Nat := 97
abbrev M_place : Nat := 98
abbrev M_open : Nat := 99
abbrev M_isPlace : Nat := 100
abbrev M_bar : Nat := 101
abbrev M_areBarred : Nat := 102
abbrev M_entry : Nat := 103
abbrev M_enter : Nat := 104
abbrev M_strike : Nat := 105
abbrev M_rule : Nat := 106
abbrev M_counted : Nat := 107
abbrev M_canAsk : Nat := 108
abbrev M_countedOf : Nat := 109
abbrev M_onDay : Nat := 110
abbrev M_countedOn : Nat := 111
abbrev M_left : Nat := 112
abbrev M_leftOf : Nat := 113
abbrev M_plan : Nat := 114
abbrev M_findPlan : Nat := 115
abbrev M_findMay : Nat := 116
abbrev M_ends : Nat := 117
abbrev M_goes : Nat := 118
abbrev M_planned : Nat := 119
abbrev M_gang : Nat := 120
abbrev M_plans : Nat := 121
abbrev M_when : Nat := 122
abbrev M_absent : Nat := 123
abbrev M_reason : Nat := 124
abbrev M_breaches : Nat := 125
abbrev M_isBreach : Nat := 126
abbrev M_court : Nat := 127
abbrev M_pace : Nat := 128
abbrev M_daysOf : Nat := 129
abbrev M_foretold : Nat := 130
abbrev M_foretoldOf : Nat := 131
abbrev M_late : Nat := 132
abbrev M_sheet : Nat := 133
abbrev M_isSheet : Nat := 134
abbrev M_put : Nat := 135
abbrev M_copy : Nat := 136
abbrev M_lay : Nat := 137
abbrev M_told : Nat := 138
abbrev Law_law : Nat := 139
def hd_MT : List hd_MI := [
  (⟨"HoursDesk$Planner", "shiftOf", "(I)I"⟩, prog_7_method_2_code, 1, (some .int), 5, 0, 0, 1),
  (⟨"HoursDesk", "person", "(IIIII)I"⟩, prog_1_method_2_code, 7, (some .int), 7, 3, 87, 5),
  (⟨"HoursDesk", "within", "(III)Z"⟩, prog_1_method_43_code, 3, (some .boolean), 7, 0, 0, 3),
  (⟨"HoursDesk", "isDay", "(I)Z"⟩, prog_1_method_44_code, 1, (some .boolean), 7, 1, 22, 1),
  (⟨"HoursDesk", "finding", "(I)I"⟩, prog_1_method_34_code, 2, (some .int), 7, 0, 0, 1),
  (⟨"HoursDesk$People", "add", "(IIIII)I"⟩, prog_5_method_3_code, 7, (some .int), 3, 0, 0, 5),
  (⟨"HoursDesk", "keep", "(III)I"⟩, prog_1_method_35_code, 4, (some .int), 7, 2, 64, 3),
  (⟨"HoursDesk$Planner", "forget", "()V"⟩, prog_7_method_3_code, 1, none, 5, 0, 0, 0),
  (⟨"HoursDesk$Acts", "push", "(III)I"⟩, prog_3_method_2_code, 5, (some .int), 1, 1, 40, 3),
  (⟨"HoursDesk", "as", "(II)I"⟩, prog_1_method_3_code, 3, (some .int), 7, 2, 43, 2),
  (⟨"HoursDesk$People", "has", "(I)Z"⟩, prog_5_method_2_code, 2, (some .boolean), 3, 0, 0, 1),
  (⟨"HoursDesk$People", "isOfKind", "(II)Z"⟩, prog_5_method_4_code, 3, (some .boolean), 3, 1, 21, 2),
  (⟨"HoursDesk", "hasBit", "(II)Z"⟩, prog_1_method_46_code, 2, (some .boolean), 7, 0, 0, 2),
  (⟨"HoursDesk", "of", "(II)I"⟩, prog_1_method_4_code, 3, (some .int), 7, 1, 21, 2),
  (⟨"HoursDesk", "extend", "(II)I"⟩, prog_1_method_5_code, 4, (some .int), 7, 3, 87, 2),
  (⟨"HoursDesk", "free", "(II)I"⟩, prog_1_method_6_code, 4, (some .int), 7, 3, 87, 2),
  (⟨"HoursDesk", "place", "(IIZII)I"⟩, prog_1_method_7_code, 7, (some .int), 7, 3, 87, 5),
  (⟨"HoursDesk$Places", "add", "(IIZII)I"⟩, prog_6_method_3_code, 7, (some .int), 4, 0, 0, 5),
  (⟨"HoursDesk", "open", "(II)I"⟩, prog_1_method_8_code, 4, (some .int), 7, 3, 87, 2),
  (⟨"HoursDesk$Places", "has", "(I)Z"⟩, prog_6_method_2_code, 2, (some .boolean), 4, 0, 0, 1),
  (⟨"HoursDesk", "bar", "(IIZ)I"⟩, prog_1_method_9_code, 5, (some .int), 7, 3, 87, 3),
  (⟨"HoursDesk$People", "isBarred", "(II)Z"⟩, prog_5_method_9_code, 3, (some .boolean), 3, 1, 21, 2),
  (⟨"HoursDesk$People", "setBarred", "(IIZ)V"⟩, prog_5_method_10_code, 4, none, 3, 0, 0, 3),
  (⟨"HoursDesk", "entry", "(IIIII)I"⟩, prog_1_method_10_code, 7, (some .int), 7, 3, 87, 5),
  (⟨"HoursDesk$Entries", "add", "(IIIII)I"⟩, prog_4_method_2_code, 7, (some .int), 2, 0, 0, 5),
  (⟨"HoursDesk", "strike", "()I"⟩, prog_1_method_11_code, 3, (some .int), 7, 3, 87, 0),
  (⟨"HoursDesk$Entries", "tellRow", "(I[I)V"⟩, prog_4_method_3_code, 3, none, 2, 0, 0, 2),
  (⟨"HoursDesk", "rule", "(II)I"⟩, prog_1_method_12_code, 4, (some .int), 7, 3, 87, 2),
  (⟨"HoursDesk", "setRule", "(II)V"⟩, prog_1_method_37_code, 3, none, 7, 0, 0, 2),
  (⟨"HoursDesk", "counted", "(III)I"⟩, prog_1_method_13_code, 4, (some .int), 7, 3, 75, 3),
  (⟨"HoursDesk", "minutesUpTo", "(III)I"⟩, prog_1_method_38_code, 4, (some .int), 7, 2, 52, 3),
  (⟨"HoursDesk$People", "dayLimit", "(I)I"⟩, prog_5_method_5_code, 2, (some .int), 3, 1, 21, 1),
  (⟨"HoursDesk$Entries", "countBetween", "(IIIII)I"⟩, prog_4_method_5_code, 8, (some .int), 2, 1, 25, 5),
  (⟨"HoursDesk$Entries", "takeDay", "(II)I"⟩, prog_4_method_6_code, 6, (some .int), 2, 0, 0, 2),
  (⟨"HoursDesk", "countedOn", "(III)I"⟩, prog_1_method_14_code, 4, (some .int), 7, 2, 52, 3),
  (⟨"HoursDesk", "left", "(III)I"⟩, prog_1_method_15_code, 4, (some .int), 7, 3, 75, 3),
  (⟨"HoursDesk$People", "owedMinutes", "(I)I"⟩, prog_5_method_6_code, 2, (some .int), 3, 0, 0, 1),
  (⟨"HoursDesk", "plan", "(I)I"⟩, prog_1_method_16_code, 2, (some .int), 7, 6, 146, 1),
  (⟨"HoursDesk", "findPlan", "(I)V"⟩, prog_1_method_40_code, 5, none, 7, 5, 122, 1),
  (⟨"HoursDesk", "comingOn", "(II)I"⟩, prog_1_method_41_code, 5, (some .int), 7, 4, 98, 2),
  (⟨"HoursDesk", "isDone", "(III)Z"⟩, prog_1_method_39_code, 4, (some .boolean), 7, 3, 75, 3),
  (⟨"HoursDesk$Planner", "begin", "(II[I)V"⟩, prog_7_method_4_code, 7, none, 5, 0, 0, 3),
  (⟨"HoursDesk$People", "ofKind", "(I)I"⟩, prog_5_method_7_code, 4, (some .int), 3, 2, 43, 1),
  (⟨"HoursDesk$People", "withSkills", "(I)I"⟩, prog_5_method_8_code, 4, (some .int), 3, 0, 0, 1),
  (⟨"HoursDesk$Planner", "weighGangs", "(ILHoursDesk$Places;II)V"⟩, prog_7_method_5_code, 11, none, 5, 1, 20, 4),
  (⟨"java/lang/Integer", "bitCount", "(I)I"⟩, prog_11_method_49_code, 1, (some .int), 11, 0, 0, 1),
  (⟨"HoursDesk$Planner", "addPlace", "()V"⟩, prog_7_method_6_code, 2, none, 5, 2, 66, 0),
  (⟨"HoursDesk$Planner", "addPlaceTo", "(I)V"⟩, prog_7_method_7_code, 7, none, 5, 1, 40, 1),
  (⟨"HoursDesk$Planner", "end", "()V"⟩, prog_7_method_8_code, 1, none, 5, 0, 0, 0),
  (⟨"HoursDesk$Planner", "howMany", "()I"⟩, prog_7_method_9_code, 1, (some .int), 5, 0, 0, 0),
  (⟨"HoursDesk", "planned", "(II)I"⟩, prog_1_method_17_code, 4, (some .int), 7, 6, 146, 2),
  (⟨"HoursDesk$Planner", "placeOf", "(I)I"⟩, prog_7_method_10_code, 2, (some .int), 5, 1, 20, 1),
  (⟨"HoursDesk", "gang", "(II)I"⟩, prog_1_method_18_code, 5, (some .int), 7, 6, 146, 2),
  (⟨"HoursDesk", "plans", "(I)I"⟩, prog_1_method_19_code, 2, (some .int), 7, 6, 146, 1),
  (⟨"HoursDesk", "when", "(II)I"⟩, prog_1_method_20_code, 5, (some .int), 7, 6, 146, 2),
  (⟨"HoursDesk", "absent", "(II)I"⟩, prog_1_method_21_code, 4, (some .int), 7, 3, 87, 2),
  (⟨"HoursDesk$Absences", "isAbsent", "(II)Z"⟩, prog_2_method_3_code, 4, (some .boolean), 0, 0, 0, 2),
  (⟨"HoursDesk$Absences", "add", "(II)I"⟩, prog_2_method_4_code, 4, (some .int), 0, 0, 0, 2),
  (⟨"HoursDesk", "reason", "(II)I"⟩, prog_1_method_22_code, 4, (some .int), 7, 3, 87, 2),
  (⟨"HoursDesk$Absences", "has", "(I)Z"⟩, prog_2_method_2_code, 2, (some .boolean), 0, 0, 0, 1),
  (⟨"HoursDesk", "breaches", "(II)I"⟩, prog_1_method_23_code, 3, (some .int), 7, 2, 49, 2),
  (⟨"HoursDesk$Absences", "countBreaches", "(IIII)I"⟩, prog_2_method_6_code, 7, (some .int), 0, 1, 23, 4),
  (⟨"HoursDesk$Absences", "isBreach", "(III)Z"⟩, prog_2_method_5_code, 4, (some .boolean), 0, 0, 0, 3),
  (⟨"HoursDesk", "court", "(II)I"⟩, prog_1_method_24_code, 4, (some .int), 7, 3, 73, 2),
  (⟨"HoursDesk$Absences", "courtDay", "(II)I"⟩, prog_2_method_7_code, 5, (some .int), 0, 2, 49, 2),
  (⟨"HoursDesk", "pace", "(IIZ)I"⟩, prog_1_method_25_code, 7, (some .int), 7, 3, 75, 3),
  (⟨"HoursDesk$Entries", "daysSinceFirst", "(II)I"⟩, prog_4_method_7_code, 5, (some .int), 2, 1, 40, 2),
  (⟨"HoursDesk", "commonPart", "(II)I"⟩, prog_1_method_48_code, 6, (some .int), 7, 0, 0, 2),
  (⟨"HoursDesk", "foretold", "(II)I"⟩, prog_1_method_26_code, 4, (some .int), 7, 4, 100, 2),
  (⟨"HoursDesk", "foretellEnd", "(II)I"⟩, prog_1_method_42_code, 6, (some .int), 7, 3, 75, 2),
  (⟨"HoursDesk", "late", "(I)I"⟩, prog_1_method_27_code, 5, (some .int), 7, 4, 100, 1),
  (⟨"HoursDesk", "sheet", "(III)I"⟩, prog_1_method_28_code, 5, (some .int), 7, 2, 42, 3),
  (⟨"HoursDesk", "isSheet", "(I)Z"⟩, prog_1_method_45_code, 1, (some .boolean), 7, 1, 22, 1),
  (⟨"HoursDesk$Sheets", "begin", "(III)V"⟩, prog_8_method_3_code, 5, none, 6, 0, 0, 3),
  (⟨"HoursDesk", "put", "(III)I"⟩, prog_1_method_29_code, 4, (some .int), 7, 2, 42, 3),
  (⟨"HoursDesk$Sheets", "isMissing", "(I)Z"⟩, prog_8_method_2_code, 2, (some .boolean), 6, 0, 0, 1),
  (⟨"HoursDesk", "lowestBits", "(II)I"⟩, prog_1_method_47_code, 2, (some .int), 7, 0, 0, 2),
  (⟨"HoursDesk", "copy", "(IIIII)I"⟩, prog_1_method_30_code, 6, (some .int), 7, 2, 42, 5),
  (⟨"HoursDesk$Sheets", "hasPart", "(III)Z"⟩, prog_8_method_4_code, 4, (some .boolean), 6, 0, 0, 3),
  (⟨"HoursDesk", "lay", "(III)I"⟩, prog_1_method_31_code, 8, (some .int), 7, 3, 87, 3),
  (⟨"HoursDesk$Sheets", "countWithin", "(III)I"⟩, prog_8_method_5_code, 6, (some .int), 6, 1, 22, 3),
  (⟨"HoursDesk", "undo", "()I"⟩, prog_1_method_32_code, 1, (some .int), 7, 3, 70, 0),
  (⟨"HoursDesk$Acts", "pop", "()I"⟩, prog_3_method_3_code, 1, (some .int), 1, 0, 0, 0),
  (⟨"HoursDesk", "takeBack", "(I)V"⟩, prog_1_method_36_code, 4, none, 7, 2, 47, 1),
  (⟨"HoursDesk$Entries", "addRow", "([I)V"⟩, prog_4_method_4_code, 2, none, 2, 1, 26, 1),
  (⟨"HoursDesk", "told", "(I)I"⟩, prog_1_method_33_code, 2, (some .int), 7, 2, 42, 1),
  (⟨"HoursDesk$People", "countBars", "()I"⟩, prog_5_method_11_code, 3, (some .int), 3, 1, 20, 0),
  (⟨"HoursDeskModel", "undo", "()I"⟩, prog_10_method_8_code, 2, (some .int), 8, 1, 21, 0),
  (⟨"HoursDeskModel", "finding", "(I)I"⟩, prog_10_method_2_code, 2, (some .int), 8, 0, 0, 1),
  (⟨"HoursDeskModel", "person", "(IIIII)I"⟩, prog_10_method_9_code, 7, (some .int), 8, 2, 42, 5),
  (⟨"HoursDeskModel", "within", "(III)Z"⟩, prog_10_method_3_code, 3, (some .boolean), 8, 0, 0, 3),
  (⟨"HoursDeskModel", "isDay", "(I)Z"⟩, prog_10_method_4_code, 1, (some .boolean), 8, 1, 22, 1),
  (⟨"HoursDeskModel", "keep", "()V"⟩, prog_10_method_7_code, 2, none, 8, 0, 0, 0),
  (⟨"HoursDeskModel", "as", "(II)I"⟩, prog_10_method_10_code, 4, (some .int), 8, 2, 43, 2),
  (⟨"HoursDeskModel", "isPerson", "(I)Z"⟩, prog_10_method_5_code, 2, (some .boolean), 8, 1, 22, 1),
  (⟨"HoursDeskModel", "of", "(II)I"⟩, prog_10_method_11_code, 3, (some .int), 8, 2, 43, 2),
  (⟨"HoursDeskModel", "extend", "(II)I"⟩, prog_10_method_12_code, 4, (some .int), 8, 2, 43, 2),
  (⟨"HoursDeskModel", "free", "(II)I"⟩, prog_10_method_13_code, 4, (some .int), 8, 2, 43, 2),
  (⟨"HoursDeskModel", "place", "(IIZII)I"⟩, prog_10_method_14_code, 7, (some .int), 8, 1, 22, 5),
  (⟨"HoursDeskModel", "open", "(II)I"⟩, prog_10_method_15_code, 4, (some .int), 8, 2, 43, 2),
  (⟨"HoursDeskModel", "isPlace", "(I)Z"⟩, prog_10_method_6_code, 2, (some .boolean), 8, 1, 22, 1),
  (⟨"HoursDeskModel", "bar", "(IIZ)I"⟩, prog_10_method_17_code, 7, (some .int), 8, 2, 43, 3),
  (⟨"HoursDeskModel", "areBarred", "(II)Z"⟩, prog_10_method_16_code, 3, (some .boolean), 8, 0, 0, 2),
  (⟨"HoursDeskModel", "entry", "(IIIII)I"⟩, prog_10_method_19_code, 6, (some .int), 8, 2, 43, 5),
  (⟨"HoursDeskModel", "enter", "(IIIII)V"⟩, prog_10_method_18_code, 7, none, 8, 0, 0, 5),
  (⟨"HoursDeskModel", "strike", "()I"⟩, prog_10_method_20_code, 1, (some .int), 8, 1, 21, 0),
  (⟨"HoursDeskModel", "rule", "(II)I"⟩, prog_10_method_21_code, 4, (some .int), 8, 1, 22, 2),
  (⟨"HoursDeskModel", "counted", "(III)I"⟩, prog_10_method_25_code, 4, (some .int), 8, 3, 93, 3),
  (⟨"HoursDeskModel", "canAsk", "(III)Z"⟩, prog_10_method_24_code, 4, (some .boolean), 8, 2, 43, 3),
  (⟨"HoursDeskModel", "countedOf", "(III)I"⟩, prog_10_method_23_code, 9, (some .int), 8, 2, 65, 3),
  (⟨"HoursDeskModel", "onDay", "(III)I"⟩, prog_10_method_22_code, 6, (some .int), 8, 1, 40, 3),
  (⟨"HoursDeskModel", "countedOn", "(III)I"⟩, prog_10_method_26_code, 4, (some .int), 8, 3, 66, 3),
  (⟨"HoursDeskModel", "left", "(III)I"⟩, prog_10_method_28_code, 4, (some .int), 8, 4, 116, 3),
  (⟨"HoursDeskModel", "leftOf", "(III)I"⟩, prog_10_method_27_code, 4, (some .int), 8, 3, 93, 3),
  (⟨"HoursDeskModel", "plan", "(I)I"⟩, prog_10_method_33_code, 2, (some .int), 8, 6, 165, 1),
  (⟨"HoursDeskModel", "findPlan", "(I)V"⟩, prog_10_method_32_code, 4, none, 8, 5, 142, 1),
  (⟨"HoursDeskModel", "findMay", "(I)V"⟩, prog_10_method_29_code, 7, none, 8, 4, 116, 1),
  (⟨"HoursDeskModel", "ends", "()V"⟩, prog_10_method_31_code, 6, none, 8, 0, 0, 0),
  (⟨"HoursDeskModel", "goes", "(II)Z"⟩, prog_10_method_30_code, 5, (some .boolean), 8, 1, 22, 2),
  (⟨"HoursDeskModel", "planned", "(II)I"⟩, prog_10_method_34_code, 3, (some .int), 8, 6, 165, 2),
  (⟨"HoursDeskModel", "gang", "(II)I"⟩, prog_10_method_35_code, 5, (some .int), 8, 6, 165, 2),
  (⟨"HoursDeskModel", "plans", "(I)I"⟩, prog_10_method_36_code, 2, (some .int), 8, 6, 165, 1),
  (⟨"HoursDeskModel", "when", "(II)I"⟩, prog_10_method_37_code, 4, (some .int), 8, 6, 165, 2),
  (⟨"HoursDeskModel", "absent", "(II)I"⟩, prog_10_method_38_code, 5, (some .int), 8, 2, 43, 2),
  (⟨"HoursDeskModel", "reason", "(II)I"⟩, prog_10_method_39_code, 4, (some .int), 8, 2, 42, 2),
  (⟨"HoursDeskModel", "breaches", "(II)I"⟩, prog_10_method_41_code, 5, (some .int), 8, 2, 43, 2),
  (⟨"HoursDeskModel", "isBreach", "(III)Z"⟩, prog_10_method_40_code, 5, (some .boolean), 8, 0, 0, 3),
  (⟨"HoursDeskModel", "court", "(II)I"⟩, prog_10_method_42_code, 8, (some .int), 8, 2, 43, 2),
  (⟨"HoursDeskModel", "pace", "(IIZ)I"⟩, prog_10_method_44_code, 9, (some .int), 8, 3, 93, 3),
  (⟨"HoursDeskModel", "daysOf", "(II)I"⟩, prog_10_method_43_code, 6, (some .int), 8, 0, 0, 2),
  (⟨"HoursDeskModel", "foretold", "(II)I"⟩, prog_10_method_46_code, 4, (some .int), 8, 5, 141, 2),
  (⟨"HoursDeskModel", "foretoldOf", "(II)I"⟩, prog_10_method_45_code, 6, (some .int), 8, 4, 116, 2),
  (⟨"HoursDeskModel", "late", "(I)I"⟩, prog_10_method_47_code, 5, (some .int), 8, 5, 141, 1),
  (⟨"HoursDeskModel", "sheet", "(III)I"⟩, prog_10_method_49_code, 5, (some .int), 8, 2, 42, 3),
  (⟨"HoursDeskModel", "isSheet", "(I)Z"⟩, prog_10_method_48_code, 1, (some .boolean), 8, 1, 22, 1),
  (⟨"HoursDeskModel", "put", "(III)I"⟩, prog_10_method_50_code, 5, (some .int), 8, 2, 42, 3),
  (⟨"HoursDeskModel", "copy", "(IIIII)I"⟩, prog_10_method_51_code, 7, (some .int), 8, 2, 42, 5),
  (⟨"HoursDeskModel", "lay", "(III)I"⟩, prog_10_method_52_code, 6, (some .int), 8, 2, 43, 3),
  (⟨"HoursDeskModel", "told", "(I)I"⟩, prog_10_method_53_code, 5, (some .int), 8, 1, 22, 1),
  (⟨"HoursDeskLaw", "law", "([I)Z"⟩, code, 4, (some .boolean), 9, 9, 342, 1)]
/-- field links: own class, entry, (class, slot, place in lw_tbl) -/
def hd_FT : List (Nat × Nat × Nat × Nat × Nat) := [(0, 9, 0, 0, 163), (0, 15, 0, 1, 164), (0, 18, 0, 2, 166), (0, 21, 0, 3, 168), (1, 9, 1, 0, 206), (1, 15, 1, 1, 208), (1, 18, 1, 2, 210), (1, 26, 1, 4, 214), (1, 30, 1, 5, 216), (2, 9, 2, 0, 126), (2, 15, 2, 1, 127), (2, 18, 2, 2, 128), (2, 21, 2, 3, 129), (2, 24, 2, 4, 130), (2, 27, 2, 5, 131), (2, 31, 2, 6, 133), (2, 34, 2, 7, 135), (2, 39, 2, 8, 137), (3, 9, 3, 0, 56), (3, 15, 3, 1, 58), (3, 18, 3, 2, 60), (3, 21, 3, 3, 62), (3, 24, 3, 4, 64), (3, 27, 3, 5, 66), (3, 30, 3, 6, 68), (4, 9, 4, 0, 92), (4, 15, 4, 1, 94), (4, 18, 4, 2, 96), (4, 22, 4, 3, 98), (4, 25, 4, 4, 100), (4, 28, 4, 5, 102), (5, 11, 5, 0, 239), (5, 15, 5, 1, 241), (5, 18, 5, 2, 243), (5, 21, 5, 3, 244), (5, 24, 5, 4, 245), (5, 28, 5, 5, 246), (5, 32, 5, 6, 247), (5, 35, 5, 7, 248), (5, 38, 5, 8, 249), (5, 45, 4, 3, 99), (5, 50, 4, 4, 101), (5, 53, 4, 2, 97), (6, 9, 6, 0, 186), (6, 15, 6, 1, 188), (6, 20, 6, 2, 190), (7, 10, 7, 0, 269), (7, 19, 7, 1, 270), (7, 26, 7, 2, 271), (7, 33, 7, 3, 272), (7, 40, 7, 4, 273), (7, 47, 7, 5, 274), (7, 54, 7, 6, 275), (7, 58, 7, 7, 276), (7, 75, 3, 6, 69), (7, 95, 3, 0, 57), (7, 99, 3, 1, 59), (7, 102, 3, 2, 61), (7, 105, 3, 3, 63), (7, 108, 3, 4, 65), (7, 112, 4, 5, 103), (7, 117, 4, 0, 93), (7, 127, 2, 5, 132), (7, 130, 1, 3, 213), (7, 138, 2, 6, 134), (7, 141, 2, 7, 136), (7, 177, 5, 1, 242), (7, 186, 0, 3, 169), (7, 190, 0, 1, 165), (7, 193, 0, 2, 167), (7, 226, 6, 1, 189), (7, 229, 6, 2, 191), (7, 232, 6, 0, 187), (7, 250, 1, 4, 215), (7, 266, 1, 1, 209), (7, 269, 1, 2, 211), (7, 272, 1, 0, 207), (7, 279, 5, 0, 240), (7, 284, 3, 5, 67), (7, 296, 4, 1, 95), (8, 9, 8, 0, 666), (8, 13, 8, 1, 667), (8, 16, 8, 4, 670), (8, 19, 8, 5, 671), (8, 22, 8, 6, 672), (8, 25, 8, 7, 673), (8, 28, 8, 10, 676), (8, 31, 8, 11, 677), (8, 34, 8, 12, 678), (8, 37, 8, 13, 679), (8, 40, 8, 3, 669), (8, 48, 8, 2, 668), (8, 103, 8, 8, 674), (8, 106, 8, 9, 675)]
/-- call links: own class, entry, (kind, method, place of the link in lw_tbl): kind 0 virtual, 1 static, 2 static of a nest mate, 3 arraycopy -/
def hd_CT : List (Nat × Nat × Nat × Nat × Nat) := [(0, 25, 0, 62, 554), (0, 29, 0, 61, 566), (1, 33, 5, 0, 326), (2, 42, 0, 24, 650), (2, 46, 0, 33, 429), (2, 50, 5, 0, 575), (3, 37, 2, 12, 343), (3, 41, 0, 11, 473), (3, 44, 1, 45, 659), (5, 41, 1, 0, 236), (5, 56, 1, 45, 482), (5, 61, 0, 47, 492), (5, 65, 4, 0, 496), (6, 23, 2, 2, 633), (7, 62, 1, 2, 298), (7, 66, 1, 3, 301), (7, 71, 0, 4, 305), (7, 79, 0, 5, 310), (7, 83, 0, 6, 314), (7, 87, 0, 10, 333), (7, 90, 0, 11, 337), (7, 113, 0, 17, 364), (7, 116, 0, 19, 372), (7, 120, 0, 21, 380), (7, 123, 0, 22, 384), (7, 128, 0, 24, 392), (7, 134, 0, 26, 401), (7, 144, 0, 28, 409), (7, 148, 0, 30, 417), (7, 151, 0, 31, 421), (7, 154, 0, 32, 425), (7, 157, 0, 36, 441), (7, 160, 4, 0, 445), (7, 166, 0, 38, 452), (7, 170, 0, 49, 501), (7, 174, 0, 51, 509), (7, 180, 5, 0, 525), (7, 183, 0, 56, 530), (7, 187, 0, 57, 534), (7, 189, 0, 59, 542), (7, 196, 0, 61, 550), (7, 200, 0, 64, 562), (7, 203, 0, 66, 571), (7, 206, 1, 67, 576), (7, 209, 0, 69, 583), (7, 212, 0, 40, 461), (7, 215, 1, 72, 595), (7, 218, 0, 73, 598), (7, 222, 0, 75, 606), (7, 235, 1, 76, 611), (7, 238, 0, 78, 618), (7, 241, 3, 0, 622), (7, 247, 0, 80, 629), (7, 251, 0, 82, 638), (7, 254, 0, 83, 642), (7, 257, 0, 7, 318), (7, 260, 0, 86, 655), (7, 263, 0, 8, 322), (7, 275, 0, 84, 646), (7, 281, 0, 39, 456), (7, 287, 0, 41, 465), (7, 290, 0, 42, 469), (7, 293, 1, 12, 460), (7, 299, 0, 43, 474), (7, 302, 0, 44, 478), (7, 306, 0, 46, 488), (7, 309, 0, 48, 497), (8, 44, 1, 90, 722), (8, 52, 0, 88, 714), (8, 56, 1, 91, 725), (8, 62, 0, 92, 730), (8, 65, 0, 94, 738), (8, 70, 0, 100, 764), (8, 73, 0, 102, 772), (8, 77, 0, 104, 780), (8, 81, 5, 0, 808), (8, 87, 0, 110, 804), (8, 91, 0, 108, 796), (8, 94, 0, 109, 800), (8, 97, 4, 0, 821), (8, 100, 0, 113, 817), (8, 109, 0, 116, 830), (8, 113, 0, 117, 834), (8, 116, 0, 118, 838), (8, 119, 0, 115, 826), (8, 122, 0, 126, 870), (8, 125, 0, 129, 882), (8, 128, 0, 131, 890), (8, 131, 1, 134, 902), (9, 13, 0, 1, 294), (9, 17, 0, 89, 718), (9, 18, 0, 9, 329), (9, 22, 0, 93, 734), (9, 23, 0, 13, 347), (9, 26, 0, 95, 743), (9, 27, 0, 14, 351), (9, 30, 0, 96, 747), (9, 31, 0, 15, 356), (9, 34, 0, 97, 752), (9, 35, 0, 16, 360), (9, 39, 0, 98, 756), (9, 40, 0, 18, 368), (9, 43, 0, 99, 760), (9, 44, 0, 20, 376), (9, 48, 0, 101, 768), (9, 49, 0, 23, 388), (9, 52, 0, 103, 776), (9, 53, 0, 25, 396), (9, 57, 0, 105, 784), (9, 58, 0, 27, 405), (9, 61, 0, 106, 788), (9, 62, 0, 29, 413), (9, 66, 0, 107, 792), (9, 67, 0, 34, 433), (9, 70, 0, 111, 809), (9, 71, 0, 35, 437), (9, 74, 0, 112, 813), (9, 75, 0, 37, 448), (9, 79, 0, 114, 822), (9, 80, 0, 50, 505), (9, 83, 0, 119, 842), (9, 84, 0, 52, 513), (9, 87, 0, 120, 846), (9, 88, 0, 53, 517), (9, 91, 0, 121, 850), (9, 92, 0, 54, 521), (9, 95, 0, 122, 854), (9, 96, 0, 55, 526), (9, 99, 0, 123, 858), (9, 100, 0, 58, 538), (9, 103, 0, 124, 862), (9, 104, 0, 60, 546), (9, 107, 0, 125, 866), (9, 108, 0, 63, 558), (9, 111, 0, 127, 874), (9, 112, 0, 65, 567), (9, 115, 0, 128, 878), (9, 116, 0, 68, 579), (9, 119, 0, 130, 886), (9, 120, 0, 70, 587), (9, 123, 0, 132, 894), (9, 124, 0, 71, 591), (9, 127, 0, 133, 898), (9, 128, 0, 74, 602), (9, 131, 0, 135, 905), (9, 132, 0, 77, 614), (9, 135, 0, 136, 910), (9, 136, 0, 79, 625), (9, 139, 0, 137, 914), (9, 140, 0, 81, 634), (9, 143, 0, 87, 709), (9, 144, 0, 85, 651), (9, 147, 0, 138, 918)]
/-- int constants: own class, entry, value, place in lw_tbl -/
def hd_LT : List (Nat × Nat × Int32 × Nat) := [(7, 70, -100001, 304), (7, 78, -100005, 309), (7, 94, -100004, 346), (7, 111, -100003, 355), (7, 129, -100006, 400), (7, 225, -100002, 610), (8, 51, -100006, 713), (8, 60, -100001, 728), (8, 61, -100005, 729), (8, 68, -100004, 742), (8, 69, -100003, 751), (8, 134, -100002, 909), (11, 265, 1431655765, 485), (11, 266, 858993459, 486), (11, 267, 252645135, 487)]
/-- of each method: places of its code, of instanceMethod or static, of selects (0: none), of its class initialized -/
def hd_MP : List (Nat × Nat × Nat × Nat) := [(238, 237, 0, 37), (297, 295, 296, 30), (300, 299, 0, 30), (303, 302, 0, 30), (308, 307, 0, 30), (313, 311, 312, 31), (317, 316, 1, 30), (321, 319, 320, 37), (325, 323, 324, 36), (332, 330, 331, 30), (336, 334, 335, 31), (340, 338, 339, 31), (345, 344, 0, 30), (350, 348, 349, 30), (354, 352, 353, 30), (359, 357, 358, 30), (363, 361, 362, 30), (367, 365, 366, 32), (371, 369, 370, 30), (375, 373, 374, 32), (379, 377, 378, 30), (383, 381, 382, 31), (387, 385, 386, 31), (391, 389, 390, 30), (395, 393, 394, 33), (399, 397, 398, 30), (404, 402, 403, 33), (408, 406, 407, 30), (412, 411, 2, 30), (416, 414, 415, 30), (420, 419, 3, 30), (424, 422, 423, 31), (428, 426, 427, 33), (432, 431, 4, 33), (436, 434, 435, 30), (440, 438, 439, 30), (444, 442, 443, 31), (451, 449, 450, 30), (455, 454, 5, 30), (459, 458, 6, 30), (464, 463, 7, 30), (468, 466, 467, 37), (472, 470, 471, 31), (477, 475, 476, 31), (481, 479, 480, 37), (484, 483, 0, 40), (491, 489, 490, 37), (495, 494, 8, 37), (500, 498, 499, 37), (504, 502, 503, 37), (508, 506, 507, 30), (512, 510, 511, 37), (516, 514, 515, 30), (520, 518, 519, 30), (524, 522, 523, 30), (529, 527, 528, 30), (533, 531, 532, 34), (537, 535, 536, 34), (541, 539, 540, 30), (545, 543, 544, 34), (549, 547, 548, 30), (553, 551, 552, 34), (557, 556, 9, 34), (561, 559, 560, 30), (565, 563, 564, 34), (570, 568, 569, 30), (574, 572, 573, 33), (578, 577, 0, 30), (582, 580, 581, 30), (586, 585, 10, 30), (590, 588, 589, 30), (594, 592, 593, 30), (597, 596, 0, 30), (601, 599, 600, 35), (605, 603, 604, 30), (609, 607, 608, 35), (613, 612, 0, 30), (617, 615, 616, 30), (621, 619, 620, 35), (628, 626, 627, 30), (632, 630, 631, 35), (637, 635, 636, 30), (641, 639, 640, 36), (645, 644, 11, 30), (649, 647, 648, 33), (654, 652, 653, 30), (658, 656, 657, 31), (712, 710, 711, 38), (717, 716, 12, 38), (721, 719, 720, 38), (724, 723, 0, 38), (727, 726, 0, 38), (733, 732, 13, 38), (737, 735, 736, 38), (741, 740, 14, 38), (746, 744, 745, 38), (750, 748, 749, 38), (755, 753, 754, 38), (759, 757, 758, 38), (763, 761, 762, 38), (767, 766, 15, 38), (771, 769, 770, 38), (775, 774, 16, 38), (779, 777, 778, 38), (783, 782, 17, 38), (787, 785, 786, 38), (791, 789, 790, 38), (795, 793, 794, 38), (799, 798, 18, 38), (803, 802, 19, 38), (807, 806, 20, 38), (812, 810, 811, 38), (816, 814, 815, 38), (820, 819, 21, 38), (825, 823, 824, 38), (829, 828, 22, 38), (833, 832, 23, 38), (837, 836, 24, 38), (841, 840, 25, 38), (845, 843, 844, 38), (849, 847, 848, 38), (853, 851, 852, 38), (857, 855, 856, 38), (861, 859, 860, 38), (865, 863, 864, 38), (869, 867, 868, 38), (873, 872, 26, 38), (877, 875, 876, 38), (881, 879, 880, 38), (885, 884, 27, 38), (889, 887, 888, 38), (893, 892, 28, 38), (897, 895, 896, 38), (901, 899, 900, 38), (904, 903, 0, 38), (908, 906, 907, 38), (913, 911, 912, 38), (917, 915, 916, 38), (921, 919, 920, 38), (0, 0, 0, 0)]
end
section
/-! what the tables say, decided by program -/
def hd_mi (y : Nat) : hd_MI := hd_MT.getD y (⟨"", "", ""⟩, ⟨#[]⟩, 0, none, 0, 0, 0, 0)
def hd_nm (y : Nat) : MethodName := (hd_mi y).1
def hd_cd (y : Nat) : ByteArray := (hd_mi y).2.1
def hd_mx (y : Nat) : Nat := (hd_mi y).2.2.1
def hd_rt (y : Nat) : Option FieldType := (hd_mi y).2.2.2.1
def hd_ow (y : Nat) : Nat := (hd_mi y).2.2.2.2.1
def hd_fr (y : Nat) : Nat := (hd_mi y).2.2.2.2.2.1
def hd_lo (y : Nat) : Nat := (hd_mi y).2.2.2.2.2.2.1
def hd_np (y : Nat) : Nat := (hd_mi y).2.2.2.2.2.2.2
def hd_c (ci : Nat) : vw_C := hd_cl.getD ci ("", hd_T0, 0)
def hd_mp (y : Nat) : Nat × Nat × Nat × Nat := hd_MP.getD y (0, 0, 0, 0)
def hd_tb : List Cond := lw_tbl.filter goodWord
theorem hd_tb_in {w : Cond} (h : w ∈ lw_tbl) (hg : goodWord w = true) : w ∈ hd_tb := List.mem_filter.mpr ⟨h, hg⟩
theorem hd_tb_at {w : Cond} {i : Nat} (h : lw_tbl[i]? = some w) (hg : goodWord w = true) : w ∈ hd_tb := hd_tb_in (List.mem_of_getElem? h) hg
def hd_fok (q : Nat × Nat × Nat × Nat × Nat) : Prop :=
  lw_tbl[q.2.2.2.2]? = some (Cond.fieldLink (hd_own q.1) q.2.1 ((hd_c q.2.2.1).2.1 q.2.2.2.1).1 ((hd_c q.2.2.1).2.1 q.2.2.2.1).2.1 ((hd_c q.2.2.1).2.1 q.2.2.2.1).2.2.1) ∧ q.2.2.1 < 9 ∧ q.2.2.2.1 < (hd_c q.2.2.1).2.2
set_option maxRecDepth 100000 in
theorem hd_FT_ok : ∀ q ∈ hd_FT, hd_fok q := by unfold hd_fok; decide +kernel
def hd_lok (q : Nat × Nat × Int32 × Nat) : Prop := lw_tbl[q.2.2.2]? = some (Cond.constant (hd_own q.1) q.2.1 q.2.2.1)
set_option maxRecDepth 100000 in
theorem hd_LT_ok : ∀ q ∈ hd_LT, hd_lok q := by unfold hd_lok; decide +kernel
/-- of a method that can be called -/
def hd_mok (y : Nat) : Prop :=
  lw_tbl[(hd_mp y).2.2.2]? = some (Cond.initialized (hd_nm y).cls) ∧ (hd_nm y).cls = hd_own (hd_ow y) ∧ (hd_nm y).cls ≠ "java/lang/invoke/MethodHandle" ∧ (hd_nm y).cls ≠ "java/lang/invoke/VarHandle" ∧ (parseMethodDescriptor (hd_nm y).desc).map (fun d => d.parameters.length) = some (hd_np y) ∧ plainName (hd_nm y).cls = true ∧ (hd_rt y = none ∨ hd_rt y = some .int ∨ hd_rt y = some .boolean)
set_option maxRecDepth 100000 in
theorem hd_MT_ok : ∀ y ∈ List.range 139, hd_mok y := by unfold hd_mok; decide +kernel
def hd_cok (q : Nat × Nat × Nat × Nat × Nat) : Prop :=
  (q.2.2.1 = 0 ∧ q.2.2.2.1 < 139 ∧ lw_tbl[q.2.2.2.2]? = some (Cond.methodLink (hd_own q.1) q.2.1 (hd_nm q.2.2.2.1)) ∧ lw_tbl[(hd_mp q.2.2.2.1).2.1]? = some (Cond.instanceMethod (hd_nm q.2.2.2.1)) ∧ lw_tbl[(hd_mp q.2.2.2.1).2.2.1]? = some (Cond.selects (hd_nm q.2.2.2.1).cls (hd_nm q.2.2.2.1) (hd_nm q.2.2.2.1)))
  ∨ (q.2.2.1 = 1 ∧ q.2.2.2.1 < 139 ∧ lw_tbl[q.2.2.2.2]? = some (Cond.methodLink (hd_own q.1) q.2.1 (hd_nm q.2.2.2.1)) ∧ lw_tbl[(hd_mp q.2.2.2.1).2.1]? = some (Cond.static (hd_nm q.2.2.2.1)))
  ∨ (q.2.2.1 = 2 ∧ q.2.2.2.1 < 139 ∧ ((q.1 = 3 ∧ q.2.1 = 37 ∧ q.2.2.2.1 = D_hasBit) ∨ (q.1 = 6 ∧ q.2.1 = 23 ∧ q.2.2.2.1 = D_within)) ∧ lw_tbl[(hd_mp q.2.2.2.1).2.1]? = some (Cond.static (hd_nm q.2.2.2.1)))
  ∨ (q.2.2.1 = 3 ∧ lw_tbl[q.2.2.2.2]? = some (Cond.methodLink (hd_own q.1) q.2.1 arraycopyName))
  ∨ (q.2.2.1 = 4 ∧ lw_tbl[q.2.2.2.2]? = some (Cond.methodLink (hd_own q.1) q.2.1 Lib.Math.max.name))
  ∨ (q.2.2.1 = 5 ∧ lw_tbl[q.2.2.2.2]? = some (Cond.methodLink (hd_own q.1) q.2.1 Lib.Math.min.name))
set_option maxRecDepth 100000 in
theorem hd_CT_ok : ∀ q ∈ hd_CT, hd_cok q := by unfold hd_cok; decide +kernel
set_option maxRecDepth 100000 in
theorem hd_JDK_ok : (Cond.native arraycopyName ∈ lw_tbl ∧ Cond.static arraycopyName ∈ lw_tbl ∧ Cond.initialized "java/lang/System" ∈ lw_tbl) ∧ (Cond.static Lib.Math.max.name ∈ lw_tbl ∧ Cond.static Lib.Math.min.name ∈ lw_tbl ∧ Cond.initialized "java/lang/Math" ∈ lw_tbl ∧ Cond.code Lib.Math.max.name Lib.Math.max.code 2 (some .int) ∈ lw_tbl ∧ Cond.code Lib.Math.min.name Lib.Math.min.code 2 (some .int) ∈ lw_tbl) := by decide +kernel
theorem hd_nms : ∀ ci, ci < 9 → ∀ a, a < (hd_c ci).2.2 → ∀ b, b < (hd_c ci).2.2 → a ≠ b → ((hd_c ci).2.1 a).2.1 ≠ ((hd_c ci).2.1 b).2.1 := by decide +kernel
def hd_ty (ci : Nat) : Nat → FieldType := [hd_t0, hd_t1, hd_t2, hd_t3, hd_t4, hd_t5, hd_t6, hd_t7, hd_t8].getD ci hd_t0
theorem hd_ty_ok : ∀ ci, ci < 9 → ∀ k, k < (hd_c ci).2.2 → parseFieldDescriptor ((hd_c ci).2.1 k).2.2.1 = some (hd_ty ci k) := by decide +kernel
set_option maxRecDepth 100000 in
theorem hd_ws_in0 : ∀ ci, ci < 9 → ∀ w ∈ u_ws (hd_c ci).1 (hd_c ci).2.1 (hd_c ci).2.2, w ∈ lw_tbl ∧ goodWord w = true := by decide +kernel
theorem hd_ws_in (ci : Nat) (h : ci < 9) : ∀ w ∈ u_ws (hd_c ci).1 (hd_c ci).2.1 (hd_c ci).2.2, w ∈ hd_tb := fun w hw => hd_tb_in (hd_ws_in0 ci h w hw).1 (hd_ws_in0 ci h w hw).2
theorem hd_cl_at (ci : Nat) (h : ci < 9) : hd_cl[ci]? = some (hd_c ci) := by
  match ci, h with
  | 0, _ => rfl
  | 1, _ => rfl
  | 2, _ => rfl
  | 3, _ => rfl
  | 4, _ => rfl
  | 5, _ => rfl
  | 6, _ => rfl
  | 7, _ => rfl
  | 8, _ => rfl
end
section
/-! each method's code is the tables' -/
def hd_kok (y : Nat) : Prop := Cond.code (hd_nm y) (hd_cd y) (hd_mx y) (hd_rt y) ∈ lw_tbl
theorem hd_k0 : hd_kok 0 := List.mem_of_getElem? (i := (hd_mp 0).1) (by decide +kernel)
theorem hd_k1 : hd_kok 1 := List.mem_of_getElem? (i := (hd_mp 1).1) (by decide +kernel)
theorem hd_k2 : hd_kok 2 := List.mem_of_getElem? (i := (hd_mp 2).1) (by decide +kernel)
theorem hd_k3 : hd_kok 3 := List.mem_of_getElem? (i := (hd_mp 3).1) (by decide +kernel)
theorem hd_k4 : hd_kok 4 := List.mem_of_getElem? (i := (hd_mp 4).1) (by decide +kernel)
theorem hd_k5 : hd_kok 5 := List.mem_of_getElem? (i := (hd_mp 5).1) (by decide +kernel)
theorem hd_k6 : hd_kok 6 := List.mem_of_getElem? (i := (hd_mp 6).1) (by decide +kernel)
theorem hd_k7 : hd_kok 7 := List.mem_of_getElem? (i := (hd_mp 7).1) (by decide +kernel)
theorem hd_k8 : hd_kok 8 := List.mem_of_getElem? (i := (hd_mp 8).1) (by decide +kernel)
theorem hd_k9 : hd_kok 9 := List.mem_of_getElem? (i := (hd_mp 9).1) (by decide +kernel)
theorem hd_k10 : hd_kok 10 := List.mem_of_getElem? (i := (hd_mp 10).1) (by decide +kernel)
theorem hd_k11 : hd_kok 11 := List.mem_of_getElem? (i := (hd_mp 11).1) (by decide +kernel)
theorem hd_k12 : hd_kok 12 := List.mem_of_getElem? (i := (hd_mp 12).1) (by decide +kernel)
theorem hd_k13 : hd_kok 13 := List.mem_of_getElem? (i := (hd_mp 13).1) (by decide +kernel)
theorem hd_k14 : hd_kok 14 := List.mem_of_getElem? (i := (hd_mp 14).1) (by decide +kernel)
theorem hd_k15 : hd_kok 15 := List.mem_of_getElem? (i := (hd_mp 15).1) (by decide +kernel)
theorem hd_k16 : hd_kok 16 := List.mem_of_getElem? (i := (hd_mp 16).1) (by decide +kernel)
theorem hd_k17 : hd_kok 17 := List.mem_of_getElem? (i := (hd_mp 17).1) (by decide +kernel)
theorem hd_k18 : hd_kok 18 := List.mem_of_getElem? (i := (hd_mp 18).1) (by decide +kernel)
theorem hd_k19 : hd_kok 19 := List.mem_of_getElem? (i := (hd_mp 19).1) (by decide +kernel)
theorem hd_k20 : hd_kok 20 := List.mem_of_getElem? (i := (hd_mp 20).1) (by decide +kernel)
theorem hd_k21 : hd_kok 21 := List.mem_of_getElem? (i := (hd_mp 21).1) (by decide +kernel)
theorem hd_k22 : hd_kok 22 := List.mem_of_getElem? (i := (hd_mp 22).1) (by decide +kernel)
theorem hd_k23 : hd_kok 23 := List.mem_of_getElem? (i := (hd_mp 23).1) (by decide +kernel)
theorem hd_k24 : hd_kok 24 := List.mem_of_getElem? (i := (hd_mp 24).1) (by decide +kernel)
theorem hd_k25 : hd_kok 25 := List.mem_of_getElem? (i := (hd_mp 25).1) (by decide +kernel)
theorem hd_k26 : hd_kok 26 := List.mem_of_getElem? (i := (hd_mp 26).1) (by decide +kernel)
theorem hd_k27 : hd_kok 27 := List.mem_of_getElem? (i := (hd_mp 27).1) (by decide +kernel)
theorem hd_k28 : hd_kok 28 := List.mem_of_getElem? (i := (hd_mp 28).1) (by decide +kernel)
theorem hd_k29 : hd_kok 29 := List.mem_of_getElem? (i := (hd_mp 29).1) (by decide +kernel)
theorem hd_k30 : hd_kok 30 := List.mem_of_getElem? (i := (hd_mp 30).1) (by decide +kernel)
theorem hd_k31 : hd_kok 31 := List.mem_of_getElem? (i := (hd_mp 31).1) (by decide +kernel)
theorem hd_k32 : hd_kok 32 := List.mem_of_getElem? (i := (hd_mp 32).1) (by decide +kernel)
theorem hd_k33 : hd_kok 33 := List.mem_of_getElem? (i := (hd_mp 33).1) (by decide +kernel)
theorem hd_k34 : hd_kok 34 := List.mem_of_getElem? (i := (hd_mp 34).1) (by decide +kernel)
theorem hd_k35 : hd_kok 35 := List.mem_of_getElem? (i := (hd_mp 35).1) (by decide +kernel)
theorem hd_k36 : hd_kok 36 := List.mem_of_getElem? (i := (hd_mp 36).1) (by decide +kernel)
theorem hd_k37 : hd_kok 37 := List.mem_of_getElem? (i := (hd_mp 37).1) (by decide +kernel)
theorem hd_k38 : hd_kok 38 := List.mem_of_getElem? (i := (hd_mp 38).1) (by decide +kernel)
theorem hd_k39 : hd_kok 39 := List.mem_of_getElem? (i := (hd_mp 39).1) (by decide +kernel)
theorem hd_k40 : hd_kok 40 := List.mem_of_getElem? (i := (hd_mp 40).1) (by decide +kernel)
theorem hd_k41 : hd_kok 41 := List.mem_of_getElem? (i := (hd_mp 41).1) (by decide +kernel)
theorem hd_k42 : hd_kok 42 := List.mem_of_getElem? (i := (hd_mp 42).1) (by decide +kernel)
theorem hd_k43 : hd_kok 43 := List.mem_of_getElem? (i := (hd_mp 43).1) (by decide +kernel)
theorem hd_k44 : hd_kok 44 := List.mem_of_getElem? (i := (hd_mp 44).1) (by decide +kernel)
theorem hd_k45 : hd_kok 45 := List.mem_of_getElem? (i := (hd_mp 45).1) (by decide +kernel)
theorem hd_k46 : hd_kok 46 := List.mem_of_getElem? (i := (hd_mp 46).1) (by decide +kernel)
theorem hd_k47 : hd_kok 47 := List.mem_of_getElem? (i := (hd_mp 47).1) (by decide +kernel)
theorem hd_k48 : hd_kok 48 := List.mem_of_getElem? (i := (hd_mp 48).1) (by decide +kernel)
theorem hd_k49 : hd_kok 49 := List.mem_of_getElem? (i := (hd_mp 49).1) (by decide +kernel)
theorem hd_k50 : hd_kok 50 := List.mem_of_getElem? (i := (hd_mp 50).1) (by decide +kernel)
theorem hd_k51 : hd_kok 51 := List.mem_of_getElem? (i := (hd_mp 51).1) (by decide +kernel)
theorem hd_k52 : hd_kok 52 := List.mem_of_getElem? (i := (hd_mp 52).1) (by decide +kernel)
theorem hd_k53 : hd_kok 53 := List.mem_of_getElem? (i := (hd_mp 53).1) (by decide +kernel)
theorem hd_k54 : hd_kok 54 := List.mem_of_getElem? (i := (hd_mp 54).1) (by decide +kernel)
theorem hd_k55 : hd_kok 55 := List.mem_of_getElem? (i := (hd_mp 55).1) (by decide +kernel)
theorem hd_k56 : hd_kok 56 := List.mem_of_getElem? (i := (hd_mp 56).1) (by decide +kernel)
theorem hd_k57 : hd_kok 57 := List.mem_of_getElem? (i := (hd_mp 57).1) (by decide +kernel)
theorem hd_k58 : hd_kok 58 := List.mem_of_getElem? (i := (hd_mp 58).1) (by decide +kernel)
theorem hd_k59 : hd_kok 59 := List.mem_of_getElem? (i := (hd_mp 59).1) (by decide +kernel)
theorem hd_k60 : hd_kok 60 := List.mem_of_getElem? (i := (hd_mp 60).1) (by decide +kernel)
theorem hd_k61 : hd_kok 61 := List.mem_of_getElem? (i := (hd_mp 61).1) (by decide +kernel)
theorem hd_k62 : hd_kok 62 := List.mem_of_getElem? (i := (hd_mp 62).1) (by decide +kernel)
theorem hd_k63 : hd_kok 63 := List.mem_of_getElem? (i := (hd_mp 63).1) (by decide +kernel)
theorem hd_k64 : hd_kok 64 := List.mem_of_getElem? (i := (hd_mp 64).1) (by decide +kernel)
theorem hd_k65 : hd_kok 65 := List.mem_of_getElem? (i := (hd_mp 65).1) (by decide +kernel)
theorem hd_k66 : hd_kok 66 := List.mem_of_getElem? (i := (hd_mp 66).1) (by decide +kernel)
theorem hd_k67 : hd_kok 67 := List.mem_of_getElem? (i := (hd_mp 67).1) (by decide +kernel)
theorem hd_k68 : hd_kok 68 := List.mem_of_getElem? (i := (hd_mp 68).1) (by decide +kernel)
theorem hd_k69 : hd_kok 69 := List.mem_of_getElem? (i := (hd_mp 69).1) (by decide +kernel)
theorem hd_k70 : hd_kok 70 := List.mem_of_getElem? (i := (hd_mp 70).1) (by decide +kernel)
theorem hd_k71 : hd_kok 71 := List.mem_of_getElem? (i := (hd_mp 71).1) (by decide +kernel)
theorem hd_k72 : hd_kok 72 := List.mem_of_getElem? (i := (hd_mp 72).1) (by decide +kernel)
theorem hd_k73 : hd_kok 73 := List.mem_of_getElem? (i := (hd_mp 73).1) (by decide +kernel)
theorem hd_k74 : hd_kok 74 := List.mem_of_getElem? (i := (hd_mp 74).1) (by decide +kernel)
theorem hd_k75 : hd_kok 75 := List.mem_of_getElem? (i := (hd_mp 75).1) (by decide +kernel)
theorem hd_k76 : hd_kok 76 := List.mem_of_getElem? (i := (hd_mp 76).1) (by decide +kernel)
theorem hd_k77 : hd_kok 77 := List.mem_of_getElem? (i := (hd_mp 77).1) (by decide +kernel)
theorem hd_k78 : hd_kok 78 := List.mem_of_getElem? (i := (hd_mp 78).1) (by decide +kernel)
theorem hd_k79 : hd_kok 79 := List.mem_of_getElem? (i := (hd_mp 79).1) (by decide +kernel)
theorem hd_k80 : hd_kok 80 := List.mem_of_getElem? (i := (hd_mp 80).1) (by decide +kernel)
theorem hd_k81 : hd_kok 81 := List.mem_of_getElem? (i := (hd_mp 81).1) (by decide +kernel)
theorem hd_k82 : hd_kok 82 := List.mem_of_getElem? (i := (hd_mp 82).1) (by decide +kernel)
theorem hd_k83 : hd_kok 83 := List.mem_of_getElem? (i := (hd_mp 83).1) (by decide +kernel)
theorem hd_k84 : hd_kok 84 := List.mem_of_getElem? (i := (hd_mp 84).1) (by decide +kernel)
theorem hd_k85 : hd_kok 85 := List.mem_of_getElem? (i := (hd_mp 85).1) (by decide +kernel)
theorem hd_k86 : hd_kok 86 := List.mem_of_getElem? (i := (hd_mp 86).1) (by decide +kernel)
theorem hd_k87 : hd_kok 87 := List.mem_of_getElem? (i := (hd_mp 87).1) (by decide +kernel)
theorem hd_k88 : hd_kok 88 := List.mem_of_getElem? (i := (hd_mp 88).1) (by decide +kernel)
theorem hd_k89 : hd_kok 89 := List.mem_of_getElem? (i := (hd_mp 89).1) (by decide +kernel)
theorem hd_k90 : hd_kok 90 := List.mem_of_getElem? (i := (hd_mp 90).1) (by decide +kernel)
theorem hd_k91 : hd_kok 91 := List.mem_of_getElem? (i := (hd_mp 91).1) (by decide +kernel)
theorem hd_k92 : hd_kok 92 := List.mem_of_getElem? (i := (hd_mp 92).1) (by decide +kernel)
theorem hd_k93 : hd_kok 93 := List.mem_of_getElem? (i := (hd_mp 93).1) (by decide +kernel)
theorem hd_k94 : hd_kok 94 := List.mem_of_getElem? (i := (hd_mp 94).1) (by decide +kernel)
theorem hd_k95 : hd_kok 95 := List.mem_of_getElem? (i := (hd_mp 95).1) (by decide +kernel)
theorem hd_k96 : hd_kok 96 := List.mem_of_getElem? (i := (hd_mp 96).1) (by decide +kernel)
theorem hd_k97 : hd_kok 97 := List.mem_of_getElem? (i := (hd_mp 97).1) (by decide +kernel)
theorem hd_k98 : hd_kok 98 := List.mem_of_getElem? (i := (hd_mp 98).1) (by decide +kernel)
theorem hd_k99 : hd_kok 99 := List.mem_of_getElem? (i := (hd_mp 99).1) (by decide +kernel)
theorem hd_k100 : hd_kok 100 := List.mem_of_getElem? (i := (hd_mp 100).1) (by decide +kernel)
theorem hd_k101 : hd_kok 101 := List.mem_of_getElem? (i := (hd_mp 101).1) (by decide +kernel)
theorem hd_k102 : hd_kok 102 := List.mem_of_getElem? (i := (hd_mp 102).1) (by decide +kernel)
theorem hd_k103 : hd_kok 103 := List.mem_of_getElem? (i := (hd_mp 103).1) (by decide +kernel)
theorem hd_k104 : hd_kok 104 := List.mem_of_getElem? (i := (hd_mp 104).1) (by decide +kernel)
theorem hd_k105 : hd_kok 105 := List.mem_of_getElem? (i := (hd_mp 105).1) (by decide +kernel)
theorem hd_k106 : hd_kok 106 := List.mem_of_getElem? (i := (hd_mp 106).1) (by decide +kernel)
theorem hd_k107 : hd_kok 107 := List.mem_of_getElem? (i := (hd_mp 107).1) (by decide +kernel)
theorem hd_k108 : hd_kok 108 := List.mem_of_getElem? (i := (hd_mp 108).1) (by decide +kernel)
theorem hd_k109 : hd_kok 109 := List.mem_of_getElem? (i := (hd_mp 109).1) (by decide +kernel)
theorem hd_k110 : hd_kok 110 := List.mem_of_getElem? (i := (hd_mp 110).1) (by decide +kernel)
theorem hd_k111 : hd_kok 111 := List.mem_of_getElem? (i := (hd_mp 111).1) (by decide +kernel)
theorem hd_k112 : hd_kok 112 := List.mem_of_getElem? (i := (hd_mp 112).1) (by decide +kernel)
theorem hd_k113 : hd_kok 113 := List.mem_of_getElem? (i := (hd_mp 113).1) (by decide +kernel)
theorem hd_k114 : hd_kok 114 := List.mem_of_getElem? (i := (hd_mp 114).1) (by decide +kernel)
theorem hd_k115 : hd_kok 115 := List.mem_of_getElem? (i := (hd_mp 115).1) (by decide +kernel)
theorem hd_k116 : hd_kok 116 := List.mem_of_getElem? (i := (hd_mp 116).1) (by decide +kernel)
theorem hd_k117 : hd_kok 117 := List.mem_of_getElem? (i := (hd_mp 117).1) (by decide +kernel)
theorem hd_k118 : hd_kok 118 := List.mem_of_getElem? (i := (hd_mp 118).1) (by decide +kernel)
theorem hd_k119 : hd_kok 119 := List.mem_of_getElem? (i := (hd_mp 119).1) (by decide +kernel)
theorem hd_k120 : hd_kok 120 := List.mem_of_getElem? (i := (hd_mp 120).1) (by decide +kernel)
theorem hd_k121 : hd_kok 121 := List.mem_of_getElem? (i := (hd_mp 121).1) (by decide +kernel)
theorem hd_k122 : hd_kok 122 := List.mem_of_getElem? (i := (hd_mp 122).1) (by decide +kernel)
theorem hd_k123 : hd_kok 123 := List.mem_of_getElem? (i := (hd_mp 123).1) (by decide +kernel)
theorem hd_k124 : hd_kok 124 := List.mem_of_getElem? (i := (hd_mp 124).1) (by decide +kernel)
theorem hd_k125 : hd_kok 125 := List.mem_of_getElem? (i := (hd_mp 125).1) (by decide +kernel)
theorem hd_k126 : hd_kok 126 := List.mem_of_getElem? (i := (hd_mp 126).1) (by decide +kernel)
theorem hd_k127 : hd_kok 127 := List.mem_of_getElem? (i := (hd_mp 127).1) (by decide +kernel)
theorem hd_k128 : hd_kok 128 := List.mem_of_getElem? (i := (hd_mp 128).1) (by decide +kernel)
theorem hd_k129 : hd_kok 129 := List.mem_of_getElem? (i := (hd_mp 129).1) (by decide +kernel)
theorem hd_k130 : hd_kok 130 := List.mem_of_getElem? (i := (hd_mp 130).1) (by decide +kernel)
theorem hd_k131 : hd_kok 131 := List.mem_of_getElem? (i := (hd_mp 131).1) (by decide +kernel)
theorem hd_k132 : hd_kok 132 := List.mem_of_getElem? (i := (hd_mp 132).1) (by decide +kernel)
theorem hd_k133 : hd_kok 133 := List.mem_of_getElem? (i := (hd_mp 133).1) (by decide +kernel)
theorem hd_k134 : hd_kok 134 := List.mem_of_getElem? (i := (hd_mp 134).1) (by decide +kernel)
theorem hd_k135 : hd_kok 135 := List.mem_of_getElem? (i := (hd_mp 135).1) (by decide +kernel)
theorem hd_k136 : hd_kok 136 := List.mem_of_getElem? (i := (hd_mp 136).1) (by decide +kernel)
theorem hd_k137 : hd_kok 137 := List.mem_of_getElem? (i := (hd_mp 137).1) (by decide +kernel)
theorem hd_k138 : hd_kok 138 := List.mem_of_getElem? (i := (hd_mp 138).1) (by decide +kernel)
theorem hd_code_ok : ∀ y, y < 139 → hd_kok y := by
  intro y h
  match y, h with
  | 0, _ => exact hd_k0
  | 1, _ => exact hd_k1
  | 2, _ => exact hd_k2
  | 3, _ => exact hd_k3
  | 4, _ => exact hd_k4
  | 5, _ => exact hd_k5
  | 6, _ => exact hd_k6
  | 7, _ => exact hd_k7
  | 8, _ => exact hd_k8
  | 9, _ => exact hd_k9
  | 10, _ => exact hd_k10
  | 11, _ => exact hd_k11
  | 12, _ => exact hd_k12
  | 13, _ => exact hd_k13
  | 14, _ => exact hd_k14
  | 15, _ => exact hd_k15
  | 16, _ => exact hd_k16
  | 17, _ => exact hd_k17
  | 18, _ => exact hd_k18
  | 19, _ => exact hd_k19
  | 20, _ => exact hd_k20
  | 21, _ => exact hd_k21
  | 22, _ => exact hd_k22
  | 23, _ => exact hd_k23
  | 24, _ => exact hd_k24
  | 25, _ => exact hd_k25
  | 26, _ => exact hd_k26
  | 27, _ => exact hd_k27
  | 28, _ => exact hd_k28
  | 29, _ => exact hd_k29
  | 30, _ => exact hd_k30
  | 31, _ => exact hd_k31
  | 32, _ => exact hd_k32
  | 33, _ => exact hd_k33
  | 34, _ => exact hd_k34
  | 35, _ => exact hd_k35
  | 36, _ => exact hd_k36
  | 37, _ => exact hd_k37
  | 38, _ => exact hd_k38
  | 39, _ => exact hd_k39
  | 40, _ => exact hd_k40
  | 41, _ => exact hd_k41
  | 42, _ => exact hd_k42
  | 43, _ => exact hd_k43
  | 44, _ => exact hd_k44
  | 45, _ => exact hd_k45
  | 46, _ => exact hd_k46
  | 47, _ => exact hd_k47
  | 48, _ => exact hd_k48
  | 49, _ => exact hd_k49
  | 50, _ => exact hd_k50
  | 51, _ => exact hd_k51
  | 52, _ => exact hd_k52
  | 53, _ => exact hd_k53
  | 54, _ => exact hd_k54
  | 55, _ => exact hd_k55
  | 56, _ => exact hd_k56
  | 57, _ => exact hd_k57
  | 58, _ => exact hd_k58
  | 59, _ => exact hd_k59
  | 60, _ => exact hd_k60
  | 61, _ => exact hd_k61
  | 62, _ => exact hd_k62
  | 63, _ => exact hd_k63
  | 64, _ => exact hd_k64
  | 65, _ => exact hd_k65
  | 66, _ => exact hd_k66
  | 67, _ => exact hd_k67
  | 68, _ => exact hd_k68
  | 69, _ => exact hd_k69
  | 70, _ => exact hd_k70
  | 71, _ => exact hd_k71
  | 72, _ => exact hd_k72
  | 73, _ => exact hd_k73
  | 74, _ => exact hd_k74
  | 75, _ => exact hd_k75
  | 76, _ => exact hd_k76
  | 77, _ => exact hd_k77
  | 78, _ => exact hd_k78
  | 79, _ => exact hd_k79
  | 80, _ => exact hd_k80
  | 81, _ => exact hd_k81
  | 82, _ => exact hd_k82
  | 83, _ => exact hd_k83
  | 84, _ => exact hd_k84
  | 85, _ => exact hd_k85
  | 86, _ => exact hd_k86
  | 87, _ => exact hd_k87
  | 88, _ => exact hd_k88
  | 89, _ => exact hd_k89
  | 90, _ => exact hd_k90
  | 91, _ => exact hd_k91
  | 92, _ => exact hd_k92
  | 93, _ => exact hd_k93
  | 94, _ => exact hd_k94
  | 95, _ => exact hd_k95
  | 96, _ => exact hd_k96
  | 97, _ => exact hd_k97
  | 98, _ => exact hd_k98
  | 99, _ => exact hd_k99
  | 100, _ => exact hd_k100
  | 101, _ => exact hd_k101
  | 102, _ => exact hd_k102
  | 103, _ => exact hd_k103
  | 104, _ => exact hd_k104
  | 105, _ => exact hd_k105
  | 106, _ => exact hd_k106
  | 107, _ => exact hd_k107
  | 108, _ => exact hd_k108
  | 109, _ => exact hd_k109
  | 110, _ => exact hd_k110
  | 111, _ => exact hd_k111
  | 112, _ => exact hd_k112
  | 113, _ => exact hd_k113
  | 114, _ => exact hd_k114
  | 115, _ => exact hd_k115
  | 116, _ => exact hd_k116
  | 117, _ => exact hd_k117
  | 118, _ => exact hd_k118
  | 119, _ => exact hd_k119
  | 120, _ => exact hd_k120
  | 121, _ => exact hd_k121
  | 122, _ => exact hd_k122
  | 123, _ => exact hd_k123
  | 124, _ => exact hd_k124
  | 125, _ => exact hd_k125
  | 126, _ => exact hd_k126
  | 127, _ => exact hd_k127
  | 128, _ => exact hd_k128
  | 129, _ => exact hd_k129
  | 130, _ => exact hd_k130
  | 131, _ => exact hd_k131
  | 132, _ => exact hd_k132
  | 133, _ => exact hd_k133
  | 134, _ => exact hd_k134
  | 135, _ => exact hd_k135
  | 136, _ => exact hd_k136
  | 137, _ => exact hd_k137
  | 138, _ => exact hd_k138
  | n + 139, h => exact absurd h (by omega)
end
section
/-! A PURE MACHINE over a memory of ints: cells by number (0 to 77: the desk's and the reference's, 78: the script, 79: KINDS_OF); one instruction by hd_act, runs by hd_Ev -/
abbrev hd_Mem : Type := Nat → Nat → Int32
def hd_set (M : hd_Mem) (k j : Nat) (x : Int32) : hd_Mem := fun a b => if a = k ∧ b = j then x else M a b
def hd_cpy (M : hd_Mem) (k t sp dp n : Nat) : hd_Mem := fun a b => if a = t ∧ dp ≤ b ∧ b < dp + n then M k (sp + (b - dp)) else M a b
/-- an object: its class, of each field 'none' (an int) or the cell that it refers to; an int array; a boolean array; an array of int arrays (how many, the first's cell) -/
abbrev hd_Shp : Type := (Nat × List (Option Nat)) ⊕ (Nat ⊕ (Nat ⊕ (Nat × Nat)))
def hd_LAY : List hd_Shp := [
  .inl (7, [some 1, some 2, some 3, some 4, some 5, some 6, some 7, none]),
  .inl (3, [some 8, some 9, some 10, some 11, some 12, some 13, none]),
  .inl (4, [some 14, some 15, some 16, some 17, some 18, none]),
  .inl (2, [some 19, some 20, some 21, some 22, some 23, none, none, none, some 24]),
  .inl (0, [some 28, some 29, some 30, none]),
  .inl (6, [some 31, some 32, some 33]),
  .inl (1, [some 38, some 39, some 40, some 41, none, none]),
  .inl (5, [none, none, none, none, some 62, some 63, some 64, some 65, some 66]),
  .inr (.inl 8), .inr (.inl 8), .inr (.inl 8), .inr (.inl 8), .inr (.inl 8), .inr (.inl 8),
  .inr (.inl 3), .inr (.inl 3), .inr (.inr (.inl 3)), .inr (.inl 3), .inr (.inl 3),
  .inr (.inl 60), .inr (.inl 60), .inr (.inl 60), .inr (.inl 60), .inr (.inl 60),
  .inr (.inr (.inr (3, 25))), .inr (.inl 365), .inr (.inl 365), .inr (.inl 365),
  .inr (.inl 30), .inr (.inl 30), .inr (.inl 30),
  .inr (.inl 4), .inr (.inl 4), .inr (.inr (.inr (4, 34))), .inr (.inl 20), .inr (.inl 20), .inr (.inl 20), .inr (.inl 20),
  .inr (.inl 20), .inr (.inl 20), .inr (.inl 20), .inr (.inr (.inr (20, 42))),
  .inr (.inl 5), .inr (.inl 5), .inr (.inl 5), .inr (.inl 5), .inr (.inl 5), .inr (.inl 5), .inr (.inl 5), .inr (.inl 5), .inr (.inl 5), .inr (.inl 5),
  .inr (.inl 5), .inr (.inl 5), .inr (.inl 5), .inr (.inl 5), .inr (.inl 5), .inr (.inl 5), .inr (.inl 5), .inr (.inl 5), .inr (.inl 5), .inr (.inl 5),
  .inr (.inl 256), .inr (.inr (.inl 256)), .inr (.inl 256), .inr (.inl 256), .inr (.inl 256),
  .inl (8, [some 68, some 69, none, none, some 70, some 71, some 72, some 73, none, none, some 74, some 75, some 76, some 77]),
  .inr (.inl 459), .inr (.inl 9180), .inr (.inl 4), .inr (.inl 4), .inr (.inl 80), .inr (.inl 3), .inr (.inl 8), .inr (.inl 9), .inr (.inl 8), .inr (.inl 20)]
def hd_lay (k : Nat) : hd_Shp := hd_LAY.getD k (.inr (.inl 0))
theorem hd_lay_len : hd_LAY.length = 78 := by decide +kernel
/-- an int array that can be read: its length -/
def hd_arr (Ls k : Nat) : Option Nat := if k < 78 then (match hd_lay k with | .inr (.inl n) => some n | _ => none) else if k = 78 then some Ls else if k = 79 then some 4 else none
def hd_in (i : Int32) (n : Nat) : Prop := 0 ≤ i.toInt ∧ i.toInt < n
def hd_okR (Ls k : Nat) (i : Int32) : Prop := ∃ n, hd_arr Ls k = some n ∧ hd_in i n
def hd_okW (k : Nat) (i : Int32) : Prop := k < 78 ∧ ∃ n, hd_lay k = .inr (.inl n) ∧ hd_in i n
def hd_okZ (k : Nat) (i : Int32) : Prop := k < 78 ∧ ∃ n, hd_lay k = .inr (.inr (.inl n)) ∧ hd_in i n
def hd_okC (k : Nat) (sp n : Int32) : Prop := k < 78 ∧ ∃ z, hd_lay k = .inr (.inl z) ∧ 0 ≤ sp.toInt ∧ 0 ≤ n.toInt ∧ sp.toInt + n.toInt ≤ z
abbrev hd_It : Type := Instr × Nat × Nat × Nat × Nat × Int32
abbrev hd_S : Type := Nat × List Value × List Value × hd_Mem
/-- the next state; the answer; a call: the method, what it is given, the state behind it (its answer comes upon the stack) -/
abbrev hd_Re : Type := hd_S ⊕ ((Option Value × hd_Mem) ⊕ (Nat × List Value × hd_S))
def hd_len : Instr → Nat
  | .bipush _ => 2
  | .sipush _ => 3
  | .ldc _ => 2
  | .ldc_w _ => 3
  | .iload _ => 2
  | .istore _ => 2
  | .iinc _ _ => 3
  | .ifCond _ _ => 3
  | .if_icmp _ _ => 3
  | .goto _ => 3
  | .getfield _ => 3
  | .putfield _ => 3
  | .getstatic _ => 3
  | .invokevirtual _ => 3
  | .invokestatic _ => 3
  | _ => 1
def hd_lenok (i : Instr) (n : Nat) : Bool := match i with
  | .tableswitch .. => true
  | i => n == hd_len i
def hd_sw (x : Int32) (d lo hi : Int) (offs : Array Int) : Int := if x.toInt < lo ∨ hi < x.toInt then d else offs.getD (x.toInt - lo).toNat d
def hd_res (y pc : Nat) (i : Instr) (n : Nat) : Option hd_It := match i with
  | .iconst v => some (i, n, 0, 0, 0, Int32.ofInt v)
  | .bipush v => some (i, n, 0, 0, 0, (Int8.ofInt v).toInt32)
  | .sipush v => some (i, n, 0, 0, 0, (Int16.ofInt v).toInt32)
  | .iinc _ v => some (i, n, 0, 0, 0, Int32.ofInt v)
  | .ldc x => match hd_LT.find? (fun q => q.1 == hd_ow y && q.2.1 == x) with
    | some q => some (i, n, 0, 0, 0, q.2.2.1)
    | none => none
  | .ldc_w x => match hd_LT.find? (fun q => q.1 == hd_ow y && q.2.1 == x) with
    | some q => some (i, n, 0, 0, 0, q.2.2.1)
    | none => none
  | .ifCond _ o => if 0 ≤ (pc : Int) + o then some (i, n, ((pc : Int) + o).toNat, 0, 0, 0) else none
  | .if_icmp _ o => if 0 ≤ (pc : Int) + o then some (i, n, ((pc : Int) + o).toNat, 0, 0, 0) else none
  | .goto o => if 0 ≤ (pc : Int) + o then some (i, n, ((pc : Int) + o).toNat, 0, 0, 0) else none
  | .tableswitch d lo hi offs => if 0 ≤ (pc : Int) + d ∧ (∀ o ∈ offs.toList, 0 ≤ (pc : Int) + o) ∧ (hi - lo).toNat < offs.size then some (i, n, 0, 0, 0, 0) else none
  | .getfield x => match hd_FT.find? (fun q => q.1 == hd_ow y && q.2.1 == x) with
    | some q => some (i, n, q.2.2.1, q.2.2.2.1, 0, 0)
    | none => none
  | .putfield x => match hd_FT.find? (fun q => q.1 == hd_ow y && q.2.1 == x) with
    | some q => if ((hd_c q.2.2.1).2.1 q.2.2.2.1).2.2.2 = false ∧ hd_ty q.2.2.1 q.2.2.2.1 = .int then some (i, n, q.2.2.1, q.2.2.2.1, 0, 0) else none
    | none => none
  | .getstatic x => if hd_ow y = 3 ∧ x = 34 then some (i, n, 0, 0, 0, 0) else none
  | .invokevirtual x => match hd_CT.find? (fun q => q.1 == hd_ow y && q.2.1 == x) with
    | some q => if q.2.2.1 = 0 ∧ hd_fr q.2.2.2.1 + 1 ≤ hd_fr y ∧ 8 + (hd_mx q.2.2.2.1 + 11) + hd_lo q.2.2.2.1 ≤ hd_lo y ∧ hd_np q.2.2.2.1 + 1 ≤ hd_mx q.2.2.2.1 then some (i, n, q.2.2.2.1, hd_np q.2.2.2.1, hd_ow q.2.2.2.1, 0) else none
    | none => none
  | .invokestatic x => match hd_CT.find? (fun q => q.1 == hd_ow y && q.2.1 == x) with
    | some q => if (q.2.2.1 = 1 ∨ q.2.2.1 = 2) ∧ hd_fr q.2.2.2.1 + 1 ≤ hd_fr y ∧ 8 + (hd_mx q.2.2.2.1 + 11) + hd_lo q.2.2.2.1 ≤ hd_lo y ∧ hd_np q.2.2.2.1 ≤ hd_mx q.2.2.2.1 then some (i, n, q.2.2.2.1, hd_np q.2.2.2.1, 0, 0) else if (q.2.2.1 = 3 ∨ q.2.2.1 = 4 ∨ q.2.2.1 = 5) ∧ 1 ≤ hd_fr y ∧ 26 ≤ hd_lo y then some (i, n, 0, 0, q.2.2.1, 0) else none
    | none => none
  | _ => some (i, n, 0, 0, 0, 0)
def hd_fetch (y pc : Nat) : Option hd_It := match decode (hd_cd y) pc with
  | .ok q => if hd_lenok q.1 q.2 = true then hd_res y pc q.1 q.2 else none
  | .error _ => none
def hd_nx (pc : Nat) (L st : List Value) (M : hd_Mem) : Option (hd_Re × Prop) := some (.inl (pc, L, st, M), True)
def hd_nc (C : Prop) (pc : Nat) (L st : List Value) (M : hd_Mem) : Option (hd_Re × Prop) := some (.inl (pc, L, st, M), C)
def hd_br (o : ClassFile.Cond) (x y : Int32) (a b : Nat) : Nat := match o with
  | .eq => if x = y then a else b
  | .ne => if x = y then b else a
  | .lt => if x < y then a else b
  | .ge => if y ≤ x then a else b
  | .gt => if y < x then a else b
  | .le => if x ≤ y then a else b
def hd_ld (pc : Nat) (L st : List Value) (M : hd_Mem) (k : Nat) : Option (hd_Re × Prop) := match L[k]? with
  | some (.int x) => hd_nx pc L (.int x :: st) M
  | _ => none
def hd_la (pc : Nat) (L st : List Value) (M : hd_Mem) (k : Nat) : Option (hd_Re × Prop) := match L[k]? with
  | some (.ref x) => hd_nx pc L (.ref x :: st) M
  | _ => none
def hd_sto (pc : Nat) (L st : List Value) (M : hd_Mem) (k : Nat) : Option (hd_Re × Prop) := match st with
  | .int x :: r => if k < L.length then hd_nx pc (L.set k (.int x)) r M else none
  | _ => none
def hd_op2 (pc : Nat) (L st : List Value) (M : hd_Mem) (f : Int32 → Int32 → Int32) (C : Int32 → Prop) : Option (hd_Re × Prop) := match st with
  | .int y :: .int x :: r => hd_nc (C y) pc L (.int (f x y) :: r) M
  | _ => none
def hd_entry (y : Nat) (as : List Value) : List Value := as ++ List.replicate (hd_mx y - as.length) .null
def hd_cat1 (v : Value) : Bool := match v with
  | .int _ => true
  | .ref _ => true
  | _ => false
/-- one instruction -/
def hd_act (Ls : Nat) (rt : Option FieldType) (it : hd_It) (s : hd_S) : Option (hd_Re × Prop) :=
  match it.1 with
  | .iconst _ => hd_nx (s.1 + 1) s.2.1 (.int it.2.2.2.2.2 :: s.2.2.1) s.2.2.2
  | .bipush _ => hd_nx (s.1 + 2) s.2.1 (.int it.2.2.2.2.2 :: s.2.2.1) s.2.2.2
  | .sipush _ => hd_nx (s.1 + 3) s.2.1 (.int it.2.2.2.2.2 :: s.2.2.1) s.2.2.2
  | .ldc _ => hd_nx (s.1 + 2) s.2.1 (.int it.2.2.2.2.2 :: s.2.2.1) s.2.2.2
  | .ldc_w _ => hd_nx (s.1 + 3) s.2.1 (.int it.2.2.2.2.2 :: s.2.2.1) s.2.2.2
  | .iload_n k => hd_ld (s.1 + 1) s.2.1 s.2.2.1 s.2.2.2 k.val
  | .iload k => hd_ld (s.1 + 2) s.2.1 s.2.2.1 s.2.2.2 k
  | .aload_n k => hd_la (s.1 + 1) s.2.1 s.2.2.1 s.2.2.2 k.val
  | .istore_n k => hd_sto (s.1 + 1) s.2.1 s.2.2.1 s.2.2.2 k.val
  | .istore k => hd_sto (s.1 + 2) s.2.1 s.2.2.1 s.2.2.2 k
  | .iinc k _ => match s.2.1[k]? with
    | some (.int x) => hd_nx (s.1 + 3) (s.2.1.set k (.int (x + it.2.2.2.2.2))) s.2.2.1 s.2.2.2
    | _ => none
  | .iadd => hd_op2 (s.1 + 1) s.2.1 s.2.2.1 s.2.2.2 (fun x y => x + y) (fun _ => True)
  | .isub => hd_op2 (s.1 + 1) s.2.1 s.2.2.1 s.2.2.2 (fun x y => x - y) (fun _ => True)
  | .imul => hd_op2 (s.1 + 1) s.2.1 s.2.2.1 s.2.2.2 (fun x y => x * y) (fun _ => True)
  | .idiv => hd_op2 (s.1 + 1) s.2.1 s.2.2.1 s.2.2.2 (fun x y => x / y) (fun y => ¬ y = 0)
  | .irem => hd_op2 (s.1 + 1) s.2.1 s.2.2.1 s.2.2.2 (fun x y => x - x / y * y) (fun y => ¬ y = 0)
  | .iand => hd_op2 (s.1 + 1) s.2.1 s.2.2.1 s.2.2.2 (fun x y => x &&& y) (fun _ => True)
  | .ior => hd_op2 (s.1 + 1) s.2.1 s.2.2.1 s.2.2.2 (fun x y => x ||| y) (fun _ => True)
  | .ixor => hd_op2 (s.1 + 1) s.2.1 s.2.2.1 s.2.2.2 (fun x y => x ^^^ y) (fun _ => True)
  | .ishl => hd_op2 (s.1 + 1) s.2.1 s.2.2.1 s.2.2.2 (fun x y => x <<< (y &&& 31)) (fun _ => True)
  | .ishr => hd_op2 (s.1 + 1) s.2.1 s.2.2.1 s.2.2.2 (fun x y => x >>> (y &&& 31)) (fun _ => True)
  | .iushr => hd_op2 (s.1 + 1) s.2.1 s.2.2.1 s.2.2.2 (fun x y => (x.toUInt32 >>> (y.toUInt32 &&& Int32.toUInt32 31)).toInt32) (fun _ => True)
  | .i2l => match s.2.2.1 with
    | .int x :: r => hd_nx (s.1 + 1) s.2.1 (.long x.toInt64 :: r) s.2.2.2
    | _ => none
  | .i2b => match s.2.2.1 with
    | .int x :: r => hd_nx (s.1 + 1) s.2.1 (.int x.toInt8.toInt32 :: r) s.2.2.2
    | _ => none
  | .i2s => match s.2.2.1 with
    | .int x :: r => hd_nx (s.1 + 1) s.2.1 (.int x.toInt16.toInt32 :: r) s.2.2.2
    | _ => none
  | .ladd => match s.2.2.1 with
    | .long y :: .long x :: r => hd_nx (s.1 + 1) s.2.1 (.long (x + y) :: r) s.2.2.2
    | _ => none
  | .lcmp => match s.2.2.1 with
    | .long y :: .long x :: r => hd_nx (s.1 + 1) s.2.1 (.int (lg_cmp x y) :: r) s.2.2.2
    | _ => none
  | .dup => match s.2.2.1 with
    | a :: r => if hd_cat1 a = true then hd_nx (s.1 + 1) s.2.1 (a :: a :: r) s.2.2.2 else none
    | _ => none
  | .dup2 => match s.2.2.1 with
    | a :: b :: r => if hd_cat1 a = true ∧ hd_cat1 b = true then hd_nx (s.1 + 1) s.2.1 (a :: b :: a :: b :: r) s.2.2.2 else none
    | _ => none
  | .pop => match s.2.2.1 with
    | a :: r => if hd_cat1 a = true then hd_nx (s.1 + 1) s.2.1 r s.2.2.2 else none
    | _ => none
  | .ifCond o _ => match s.2.2.1 with
    | .int x :: r => hd_nx (hd_br o x 0 it.2.2.1 (s.1 + 3)) s.2.1 r s.2.2.2
    | _ => none
  | .if_icmp o _ => match s.2.2.1 with
    | .int y :: .int x :: r => hd_nx (hd_br o x y it.2.2.1 (s.1 + 3)) s.2.1 r s.2.2.2
    | _ => none
  | .goto _ => hd_nx it.2.2.1 s.2.1 s.2.2.1 s.2.2.2
  | .tableswitch d lo hi offs => match s.2.2.1 with
    | .int x :: r => hd_nx (((s.1 : Int) + hd_sw x d lo hi offs).toNat) s.2.1 r s.2.2.2
    | _ => none
  | .getfield _ => match s.2.2.1 with
    | .ref k :: r => if k < 78 then (match hd_lay k with
      | .inl (ci, fl) => if ci = it.2.2.1 then (match fl[it.2.2.2.1]? with
        | some none => hd_nx (s.1 + 3) s.2.1 (.int (s.2.2.2 k it.2.2.2.1) :: r) s.2.2.2
        | some (some t) => hd_nx (s.1 + 3) s.2.1 (.ref t :: r) s.2.2.2
        | none => none) else none
      | _ => none) else none
    | _ => none
  | .putfield _ => match s.2.2.1 with
    | .int x :: .ref k :: r => if k < 78 then (match hd_lay k with
      | .inl (ci, fl) => if ci = it.2.2.1 then (match fl[it.2.2.2.1]? with
        | some none => hd_nx (s.1 + 3) s.2.1 r (hd_set s.2.2.2 k it.2.2.2.1 x)
        | _ => none) else none
      | _ => none) else none
    | _ => none
  | .getstatic _ => hd_nx (s.1 + 3) s.2.1 (.ref 79 :: s.2.2.1) s.2.2.2
  | .iaload => match s.2.2.1 with
    | .int i :: .ref k :: r => hd_nc (hd_okR Ls k i) (s.1 + 1) s.2.1 (.int (s.2.2.2 k i.toNatClampNeg) :: r) s.2.2.2
    | _ => none
  | .iastore => match s.2.2.1 with
    | .int x :: .int i :: .ref k :: r => hd_nc (hd_okW k i) (s.1 + 1) s.2.1 r (hd_set s.2.2.2 k i.toNatClampNeg x)
    | _ => none
  | .baload => match s.2.2.1 with
    | .int i :: .ref k :: r => hd_nc (hd_okZ k i) (s.1 + 1) s.2.1 (.int (s.2.2.2 k i.toNatClampNeg) :: r) s.2.2.2
    | _ => none
  | .bastore => match s.2.2.1 with
    | .int x :: .int i :: .ref k :: r => hd_nc (hd_okZ k i ∧ (x = 0 ∨ x = 1)) (s.1 + 1) s.2.1 r (hd_set s.2.2.2 k i.toNatClampNeg x)
    | _ => none
  | .aaload => match s.2.2.1 with
    | .int i :: .ref k :: r => if k < 78 then (match hd_lay k with
      | .inr (.inr (.inr (n, b))) => hd_nc (hd_in i n) (s.1 + 1) s.2.1 (.ref (b + i.toNatClampNeg) :: r) s.2.2.2
      | _ => none) else none
    | _ => none
  | .arraylength => match s.2.2.1 with
    | .ref k :: r => if k = 78 then hd_nx (s.1 + 1) s.2.1 (.int (Int32.ofNat Ls) :: r) s.2.2.2 else none
    | _ => none
  | .ireturn => match s.2.2.1 with
    | [.int x] => (match rt with
      | some .int => some (.inr (.inl (some (.int x), s.2.2.2)), True)
      | some .boolean => some (.inr (.inl (some (.int x), s.2.2.2)), x = 0 ∨ x = 1)
      | _ => none)
    | _ => none
  | .return_ => match s.2.2.1 with
    | [] => (match rt with
      | none => some (.inr (.inl (none, s.2.2.2)), True)
      | _ => none)
    | _ => none
  | .invokevirtual _ => match s.2.2.1.drop it.2.2.2.1 with
    | .ref k :: r => if k < 78 ∧ (s.2.2.1.take it.2.2.2.1).length = it.2.2.2.1 ∧ r.length ≤ 4 ∧ (s.2.2.1.all hd_cat1 = true) then (match hd_lay k with
      | .inl (ci, _) => if ci = it.2.2.2.2.1 then some (.inr (.inr (it.2.2.1, .ref k :: (s.2.2.1.take it.2.2.2.1).reverse, s.1 + 3, s.2.1, r, s.2.2.2)), True) else none
      | _ => none) else none
    | _ => none
  | .invokestatic _ => if it.2.2.2.2.1 = 0 then (if (s.2.2.1.take it.2.2.2.1).length = it.2.2.2.1 ∧ (s.2.2.1.drop it.2.2.2.1).length ≤ 4 ∧ (s.2.2.1.all hd_cat1 = true) then some (.inr (.inr (it.2.2.1, (s.2.2.1.take it.2.2.2.1).reverse, s.1 + 3, s.2.1, s.2.2.1.drop it.2.2.2.1, s.2.2.2)), True) else none)
    else if it.2.2.2.2.1 = 3 then (match s.2.2.1 with
      | [.int n, .int dp, .ref t, .int sp, .ref k] => hd_nc (hd_okC k sp n ∧ hd_okC t dp n) (s.1 + 3) s.2.1 [] (hd_cpy s.2.2.2 k t sp.toNatClampNeg dp.toNatClampNeg n.toNatClampNeg)
      | _ => none)
    else if it.2.2.2.2.1 = 4 then (match s.2.2.1 with
      | .int y :: .int x :: r => if r.length ≤ 4 ∧ (r.all hd_cat1 = true) then hd_nx (s.1 + 3) s.2.1 (.int (if x < y then y else x) :: r) s.2.2.2 else none
      | _ => none)
    else if it.2.2.2.2.1 = 5 then (match s.2.2.1 with
      | .int y :: .int x :: r => if r.length ≤ 4 ∧ (r.all hd_cat1 = true) then hd_nx (s.1 + 3) s.2.1 (.int (if y < x then y else x) :: r) s.2.2.2 else none
      | _ => none)
    else none
  | _ => none
/-- from state s of method y, within n steps, the answer and the memory at the end have Q -/
def hd_Ev (Ls : Nat) : Nat → Nat → hd_S → (Option Value → hd_Mem → Prop) → Prop
  | 0, _, _, _ => False
  | n + 1, y, s, Q => ∃ (it : hd_It) (r : hd_Re) (C : Prop), hd_fetch y s.1 = some it ∧ hd_act Ls (hd_rt y) it s = some (r, C) ∧ C ∧
    (match r with
      | .inl s' => hd_Ev Ls n y s' Q
      | .inr (.inl v) => Q v.1 v.2
      | .inr (.inr c) => hd_Ev Ls n c.1 (0, hd_entry c.1 c.2.1, [], c.2.2.2.2.2) (fun v M' => hd_Ev Ls n y (c.2.2.1, c.2.2.2.1, v.toList ++ c.2.2.2.2.1, M') Q))
end
section
/-! the pure memory as cells of the heap -/
def hd_cv (ad : Nat → Nat) (v : Value) : Value := match v with
  | .ref k => .ref (ad k)
  | v => v
def hd_fl (ad : Nat → Nat) (row : Nat → Int32) : Nat → List (Option Nat) → List Value
  | _, [] => []
  | j, none :: t => .int (row j) :: hd_fl ad row (j + 1) t
  | j, some k :: t => .ref (ad k) :: hd_fl ad row (j + 1) t
theorem hd_fl_int {ad : Nat → Nat} {row : Nat → Int32} : ∀ (fl : List (Option Nat)) (j i : Nat), fl[i]? = some none → (hd_fl ad row j fl)[i]? = some (.int (row (j + i)))
  | [], _, _, h => by simp at h
  | none :: t, j, 0, _ => by simp [hd_fl]
  | some k :: t, j, 0, h => by simp at h
  | none :: t, j, i + 1, h => by
    have := hd_fl_int (ad := ad) (row := row) t (j + 1) i (by simpa using h)
    simp only [hd_fl, List.getElem?_cons_succ, this]
    congr 3; omega
  | some k :: t, j, i + 1, h => by
    have := hd_fl_int (ad := ad) (row := row) t (j + 1) i (by simpa using h)
    simp only [hd_fl, List.getElem?_cons_succ, this]
    congr 3; omega
theorem hd_fl_ref {ad : Nat → Nat} {row : Nat → Int32} : ∀ (fl : List (Option Nat)) (j i k : Nat), fl[i]? = some (some k) → (hd_fl ad row j fl)[i]? = some (.ref (ad k))
  | [], _, _, _, h => by simp at h
  | none :: t, j, 0, _, h => by simp at h
  | some k :: t, j, 0, _, h => by simp at h; subst h; simp [hd_fl]
  | none :: t, j, i + 1, k, h => by
    have := hd_fl_ref (ad := ad) (row := row) t (j + 1) i k (by simpa using h)
    simp only [hd_fl, List.getElem?_cons_succ, this]
  | some k' :: t, j, i + 1, k, h => by
    have := hd_fl_ref (ad := ad) (row := row) t (j + 1) i k (by simpa using h)
    simp only [hd_fl, List.getElem?_cons_succ, this]
theorem hd_fl_congr {ad : Nat → Nat} {row row' : Nat → Int32} : ∀ (fl : List (Option Nat)) (j : Nat), (∀ i, j ≤ i → row i = row' i) → hd_fl ad row j fl = hd_fl ad row' j fl
  | [], _, _ => rfl
  | none :: t, j, h => by simp only [hd_fl]; rw [h j (Nat.le_refl _), hd_fl_congr t (j + 1) (fun i hi => h i (by omega))]
  | some k :: t, j, h => by simp only [hd_fl]; rw [hd_fl_congr t (j + 1) (fun i hi => h i (by omega))]
theorem hd_fl_set {ad : Nat → Nat} {x : Int32} : ∀ (fl : List (Option Nat)) (row : Nat → Int32) (j i : Nat), fl[i]? = some none → (hd_fl ad row j fl).set i (.int x) = hd_fl ad (upd row (j + i) x) j fl
  | [], _, _, _, h => by simp at h
  | none :: t, row, j, 0, _ => by
    simp only [hd_fl, List.set_cons_zero, Nat.add_zero]
    rw [hd_fl_congr (row := upd row j x) (row' := row) t (j + 1) (fun i hi => by simp [upd]; omega)]
    simp [upd]
  | some k :: t, row, j, 0, h => by simp at h
  | none :: t, row, j, i + 1, h => by
    simp only [hd_fl, List.set_cons_succ]
    rw [hd_fl_set t row (j + 1) i (by simpa using h), show j + 1 + i = j + (i + 1) by omega]
    congr 2
    simp [upd]
  | some k :: t, row, j, i + 1, h => by
    simp only [hd_fl, List.set_cons_succ]
    rw [hd_fl_set t row (j + 1) i (by simpa using h), show j + 1 + i = j + (i + 1) by omega]
theorem hd_fl_len {ad : Nat → Nat} {row : Nat → Int32} : ∀ (fl : List (Option Nat)) (j : Nat), (hd_fl ad row j fl).length = fl.length
  | [], _ => rfl
  | none :: t, j => by simp [hd_fl, hd_fl_len t (j + 1)]
  | some k :: t, j => by simp [hd_fl, hd_fl_len t (j + 1)]
/-- what the cell k is, by its kind -/
def hd_ent (cI cZ cA : ClassId) (ad : Nat → Nat) (row : Nat → Int32) (sh : hd_Shp) : va_E := match sh with
  | .inl o => .inr (o.1, hd_fl ad row 0 o.2)
  | .inr (.inl n) => .inl (cI, n, .inl row)
  | .inr (.inr (.inl n)) => .inl (cZ, n, .inl row)
  | .inr (.inr (.inr q)) => .inl (cA, q.1, .inr (.inr (.inr (.inr (fun i => some (ad (q.2 + i)))))))
def hd_ws (cI cZ cA : ClassId) (ad : Nat → Nat) (M : hd_Mem) : va_W := (List.range 78).map fun k => (ad k, hd_ent cI cZ cA ad (M k) (hd_lay k))
theorem hd_ws_at {cI cZ cA : ClassId} {ad : Nat → Nat} {M : hd_Mem} {k : Nat} (h : k < 78) : (hd_ws cI cZ cA ad M)[k]? = some (ad k, hd_ent cI cZ cA ad (M k) (hd_lay k)) := by
  simp [hd_ws, List.getElem?_map, List.getElem?_range h]
theorem hd_ws_none {cI cZ cA : ClassId} {ad : Nat → Nat} {M : hd_Mem} {k : Nat} (h : ¬ k < 78) : (hd_ws cI cZ cA ad M)[k]? = none := by
  simp [hd_ws]; omega
theorem hd_ws_inv {cI cZ cA : ClassId} {ad : Nat → Nat} {M : hd_Mem} {k : Nat} {q : Nat × va_E} (h : (hd_ws cI cZ cA ad M)[k]? = some q) : k < 78 ∧ q = (ad k, hd_ent cI cZ cA ad (M k) (hd_lay k)) := by
  by_cases hk : k < 78
  · rw [hd_ws_at hk] at h
    exact ⟨hk, (Option.some.inj h).symm⟩
  · rw [hd_ws_none hk] at h
    cases h
theorem hd_ws_set {cI cZ cA : ClassId} {ad : Nat → Nat} {M M' : hd_Mem} {k : Nat} (h : k < 78) (ho : ∀ j, j ≠ k → M' j = M j) {e : va_E} (he : e = hd_ent cI cZ cA ad (M' k) (hd_lay k)) : (hd_ws cI cZ cA ad M).set k (ad k, e) = hd_ws cI cZ cA ad M' := by
  subst he
  apply List.ext_getElem?
  intro i
  by_cases hi : i < 78
  · by_cases hk : i = k
    · subst hk
      rw [List.getElem?_set_self (by simp [hd_ws]; omega), hd_ws_at hi]
    · rw [List.getElem?_set_ne (Ne.symm hk), hd_ws_at hi, hd_ws_at hi, ho i hk]
  · rw [hd_ws_none hi, List.getElem?_set]
    split
    · omega
    · exact hd_ws_none hi
theorem hd_D {cI cZ cA : ClassId} {ad : Nat → Nat} {M : hd_Mem} {A : Nat → Prop} (hi : ∀ i j, i < 78 → j < 78 → ad i = ad j → i = j) (hA : ∀ k, k < 78 → A (ad k)) : va_D A (hd_ws cI cZ cA ad M) := by
  refine ⟨fun i j p q h1 h2 h3 => ?_, fun k q h => ?_⟩
  · obtain ⟨a1, rfl⟩ := hd_ws_inv h1
    obtain ⟨a2, rfl⟩ := hd_ws_inv h2
    exact hi i j a1 a2 h3
  · obtain ⟨a1, rfl⟩ := hd_ws_inv h
    exact hA k a1
theorem hd_set_ne {M : hd_Mem} {k j i : Nat} {x : Int32} (h : j ≠ k) : hd_set M k i x j = M j := by
  funext b; simp [hd_set, h]
theorem hd_set_eq {M : hd_Mem} {k i : Nat} {x : Int32} : hd_set M k i x k = upd (M k) i x := by
  funext b; simp [hd_set, upd]
theorem hd_cpy_ne {M : hd_Mem} {k t sp dp n j : Nat} (h : j ≠ t) : hd_cpy M k t sp dp n j = M j := by
  funext b; simp [hd_cpy, h]
theorem hd_cpy_eq {M : hd_Mem} {k t sp dp n : Nat} : hd_cpy M k t sp dp n t = va_cpy (M k) (M t) sp dp n := by
  funext b; simp [hd_cpy, va_cpy]
/-- the locals -/
def hd_has (ad : Nat → Nat) (ls : Array Slot) (nL : Nat) (L : List Value) : Prop := ls.size = nL ∧ L.length = nL ∧ lv_wf ls ∧ ∀ (i : Nat) (v : Value), L[i]? = some v → v = .null ∨ (hd_cat1 v = true ∧ ls[i]? = some (.val (hd_cv ad v)))
def hd_lv (ad : Nat → Nat) (L : List Value) : List (Nat × Value) := (List.range L.length).filterMap fun i => match L[i]? with
  | some v => if v = .null then none else some (i, hd_cv ad v)
  | none => none
theorem hd_lv_mem {ad : Nat → Nat} {L : List Value} {q : Nat × Value} : q ∈ hd_lv ad L ↔ ∃ (i : Nat) (v : Value), L[i]? = some v ∧ v ≠ .null ∧ q = (i, hd_cv ad v) := by
  unfold hd_lv
  rw [List.mem_filterMap]
  constructor
  · rintro ⟨i, -, h⟩
    cases hv : L[i]? with
    | none => rw [hv] at h; cases h
    | some v =>
      rw [hv] at h
      by_cases hn : v = .null
      · simp [hn] at h
      · simp only [hn, if_false] at h
        exact ⟨i, v, hv, hn, (Option.some.inj h).symm⟩
  · rintro ⟨i, v, hv, hn, rfl⟩
    refine ⟨i, List.mem_range.mpr (List.getElem?_eq_some_iff.mp hv).1, ?_⟩
    rw [hv]
    simp [hn]
theorem hd_has_lv {ad : Nat → Nat} {ls : Array Slot} {nL : Nat} {L : List Value} (h : hd_has ad ls nL L) : lv_has ls nL (hd_lv ad L) := by
  refine ⟨h.1, h.2.2.1, fun q hq => ?_⟩
  obtain ⟨i, v, hv, hn, rfl⟩ := hd_lv_mem.mp hq
  rcases h.2.2.2 i v hv with h1 | h1
  · exact absurd h1 hn
  · exact h1.2
theorem hd_has_st {ad : Nat → Nat} {ls ls' : Array Slot} {nL i : Nat} {L : List Value} {x : Int32} (h : hd_has ad ls nL L) (hi : i < L.length) (h' : lv_has ls' nL ((i, Value.int x) :: (hd_lv ad L).filter (fun q => !(q.1 == i) && !(q.1 + 1 == i && q.2.category == 2)))) : hd_has ad ls' nL (L.set i (.int x)) := by
  refine ⟨h'.1, by simp [h.2.1], h'.2.1, fun j v hj => ?_⟩
  by_cases hij : j = i
  · subst hij
    rw [List.getElem?_set_self hi] at hj
    cases hj
    exact Or.inr ⟨rfl, h'.2.2 (j, .int x) List.mem_cons_self⟩
  · rw [List.getElem?_set_ne (Ne.symm hij)] at hj
    rcases h.2.2.2 j v hj with h1 | h1
    · exact Or.inl h1
    · refine Or.inr ⟨h1.1, h'.2.2 (j, hd_cv ad v) (List.mem_cons_of_mem _ (List.mem_filter.mpr ⟨hd_lv_mem.mpr ⟨j, v, hj, ?_, rfl⟩, ?_⟩))⟩
      · rintro rfl; cases h1.1
      · have hc : (hd_cv ad v).category = 1 := by
          revert h1; cases v <;> simp [hd_cat1, hd_cv, Value.category]
        simp [hij, hc]
theorem hd_has_int {ad : Nat → Nat} {ls : Array Slot} {nL i : Nat} {L : List Value} {x : Int32} (h : hd_has ad ls nL L) (hi : L[i]? = some (.int x)) : ls[i]? = some (.val (.int x)) := by
  rcases h.2.2.2 i _ hi with h1 | h1
  · cases h1
  · exact h1.2
theorem hd_has_ref {ad : Nat → Nat} {ls : Array Slot} {nL i : Nat} {L : List Value} {x : Nat} (h : hd_has ad ls nL L) (hi : L[i]? = some (.ref x)) : ls[i]? = some (.val (.ref (ad x))) := by
  rcases h.2.2.2 i _ hi with h1 | h1
  · cases h1
  · exact h1.2
theorem hd_in_vp {i : Int32} {n : Nat} (h : hd_in i n) : vp_in i n := vp_in_iff.mpr h
/-- the locals at a method's entry -/
theorem hd_args_at : ∀ (vs : List Value) (j : Nat), (∀ v ∈ vs, v.category = 1) → ∀ (i : Nat) (v : Value), vs[i]? = some v → (j + i, v) ∈ lv_args j vs
  | [], _, _, i, v, h => by simp at h
  | w :: vs, j, hc, 0, v, h => by
    simp at h; subst h; simp [lv_args]
  | w :: vs, j, hc, i + 1, v, h => by
    have h1 : w.category = 1 := hc w List.mem_cons_self
    have h2 := hd_args_at vs (j + 1) (fun v hv => hc v (List.mem_cons_of_mem _ hv)) i v (by simpa using h)
    simp only [lv_args, h1, List.mem_cons]
    right
    simp only [show ¬ (1 : Nat) = 2 by decide, if_false]
    rw [show j + (i + 1) = j + 1 + i by omega]
    exact h2
theorem hd_sl_len : ∀ (vs : List Value), (∀ v ∈ vs, v.category = 1) → (lg_sl vs).length = vs.length
  | [], _ => rfl
  | w :: vs, h => by
    have h1 : w.category = 1 := h w List.mem_cons_self
    have h2 := hd_sl_len vs (fun v hv => h v (List.mem_cons_of_mem _ hv))
    simp only [lg_sl, List.flatMap_cons, h1] at h2 ⊢
    simp only [show ¬ (1 : Nat) = 2 by decide, if_false, List.length_append, List.length_cons, List.length_nil]
    rw [h2]; omega
theorem hd_cv_cat {ad : Nat → Nat} {v : Value} (h : hd_cat1 v = true) : (hd_cv ad v).category = 1 := by
  revert h; cases v <;> simp [hd_cat1, hd_cv, Value.category]
theorem hd_has_entry {ad : Nat → Nat} {y : Nat} {as : List Value} (hc : ∀ v ∈ as, hd_cat1 v = true) (hn : as.length ≤ hd_mx y) : hd_has ad ((lg_sl (as.map (hd_cv ad)) ++ List.replicate (hd_mx y - (lg_sl (as.map (hd_cv ad))).length) Slot.unset).toArray) (hd_mx y) (hd_entry y as) := by
  have hcat : ∀ v ∈ as.map (hd_cv ad), v.category = 1 := fun v hv => by
    obtain ⟨w, h1, rfl⟩ := List.mem_map.mp hv
    exact hd_cv_cat (hc w h1)
  have hlen := hd_sl_len _ hcat
  rw [List.length_map] at hlen
  have h := lv_entry (as.map (hd_cv ad)) (n := hd_mx y) (by omega)
  refine ⟨h.1, by simp [hd_entry]; omega, h.2.1, fun i v hi => ?_⟩
  unfold hd_entry at hi
  by_cases hil : i < as.length
  · rw [List.getElem?_append_left hil] at hi
    have hm : (0 + i, hd_cv ad v) ∈ lv_args 0 (as.map (hd_cv ad)) := hd_args_at _ 0 hcat i _ (by rw [List.getElem?_map, hi]; rfl)
    rw [Nat.zero_add] at hm
    exact Or.inr ⟨hc v (List.mem_of_getElem? hi), h.2.2 _ hm⟩
  · rw [List.getElem?_append_right (by omega)] at hi
    have := List.eq_of_mem_replicate (List.mem_of_getElem? hi)
    exact Or.inl this
end
section
/-! what an instruction of the pure machine was, when it came through -/
theorem hd_fetch_spec {y pc : Nat} {it : hd_It} (h : hd_fetch y pc = some it) : ∃ (i : Instr) (n : Nat), decode (hd_cd y) pc = .ok (i, n) ∧ hd_lenok i n = true ∧ hd_res y pc i n = some it := by
  unfold hd_fetch at h
  cases hd : decode (hd_cd y) pc with
  | error e => rw [hd] at h; cases h
  | ok q =>
    rw [hd] at h
    by_cases hl : hd_lenok q.1 q.2 = true
    · simp only [hl, if_true] at h
      exact ⟨q.1, q.2, rfl, hl, h⟩
    · simp only [hl] at h
      simp at h
theorem hd_op2_inv {pc : Nat} {L st : List Value} {M : hd_Mem} {f : Int32 → Int32 → Int32} {Cf : Int32 → Prop} {r : hd_Re} {C : Prop} (h : hd_op2 pc L st M f Cf = some (r, C)) : ∃ (y x : Int32) (rr : List Value), st = .int y :: .int x :: rr ∧ r = .inl (pc, L, .int (f x y) :: rr, M) ∧ C = Cf y := by
  unfold hd_op2 at h
  split at h
  · simp only [hd_nc, Option.some.injEq, Prod.mk.injEq] at h
    exact ⟨_, _, _, rfl, h.1.symm, h.2.symm⟩
  · cases h
theorem hd_ld_inv {pc k : Nat} {L st : List Value} {M : hd_Mem} {r : hd_Re} {C : Prop} (h : hd_ld pc L st M k = some (r, C)) : ∃ x : Int32, L[k]? = some (.int x) ∧ r = .inl (pc, L, .int x :: st, M) := by
  unfold hd_ld at h
  split at h
  · simp only [hd_nx, Option.some.injEq, Prod.mk.injEq] at h
    exact ⟨_, by assumption, h.1.symm⟩
  · cases h
theorem hd_la_inv {pc k : Nat} {L st : List Value} {M : hd_Mem} {r : hd_Re} {C : Prop} (h : hd_la pc L st M k = some (r, C)) : ∃ x : Nat, L[k]? = some (.ref x) ∧ r = .inl (pc, L, .ref x :: st, M) := by
  unfold hd_la at h
  split at h
  · simp only [hd_nx, Option.some.injEq, Prod.mk.injEq] at h
    exact ⟨_, by assumption, h.1.symm⟩
  · cases h
theorem hd_sto_inv {pc k : Nat} {L st : List Value} {M : hd_Mem} {r : hd_Re} {C : Prop} (h : hd_sto pc L st M k = some (r, C)) : ∃ (x : Int32) (rr : List Value), st = .int x :: rr ∧ k < L.length ∧ r = .inl (pc, L.set k (.int x), rr, M) := by
  unfold hd_sto at h
  split at h
  · split at h
    · simp only [hd_nx, Option.some.injEq, Prod.mk.injEq] at h
      exact ⟨_, _, rfl, by assumption, h.1.symm⟩
    · cases h
  · cases h
theorem hd_nx_inv {pc : Nat} {L st : List Value} {M : hd_Mem} {r : hd_Re} {C : Prop} (h : hd_nx pc L st M = some (r, C)) : r = .inl (pc, L, st, M) := by
  simp only [hd_nx, Option.some.injEq, Prod.mk.injEq] at h
  exact h.1.symm
theorem hd_nc_inv {Cx : Prop} {pc : Nat} {L st : List Value} {M : hd_Mem} {r : hd_Re} {C : Prop} (h : hd_nc Cx pc L st M = some (r, C)) : r = .inl (pc, L, st, M) ∧ C = Cx := by
  simp only [hd_nc, Option.some.injEq, Prod.mk.injEq] at h
  exact ⟨h.1.symm, h.2.symm⟩
theorem hd_iinc_inv {pc k Ls n r1 r2 r3 : Nat} {rt : Option FieldType} {v : Int} {kc : Int32} {L st : List Value} {M : hd_Mem} {r : hd_Re} {C : Prop} (h : hd_act Ls rt (.iinc k v, n, r1, r2, r3, kc) (pc, L, st, M) = some (r, C)) : ∃ x : Int32, L[k]? = some (.int x) ∧ r = .inl (pc + 3, L.set k (.int (x + kc)), st, M) := by
  simp only [hd_act] at h
  split at h
  · exact ⟨_, by assumption, hd_nx_inv h⟩
  · cases h
theorem hd_getf_inv {pc x Ls n r1 r2 r3 : Nat} {rt : Option FieldType} {kc : Int32} {L st : List Value} {M : hd_Mem} {r : hd_Re} {C : Prop} (h : hd_act Ls rt (.getfield x, n, r1, r2, r3, kc) (pc, L, st, M) = some (r, C)) :
    ∃ (k : Nat) (rr : List Value) (fl : List (Option Nat)), st = .ref k :: rr ∧ k < 78 ∧ hd_lay k = .inl (r1, fl) ∧ ((fl[r2]? = some none ∧ r = .inl (pc + 3, L, .int (M k r2) :: rr, M)) ∨ (∃ t, fl[r2]? = some (some t) ∧ r = .inl (pc + 3, L, .ref t :: rr, M))) := by
  simp only [hd_act] at h
  split at h
  · split at h
    · split at h
      · split at h
        · split at h
          · subst_vars
            exact ⟨_, _, _, rfl, by assumption, by assumption, Or.inl ⟨by assumption, hd_nx_inv h⟩⟩
          · subst_vars
            exact ⟨_, _, _, rfl, by assumption, by assumption, Or.inr ⟨_, by assumption, hd_nx_inv h⟩⟩
          · cases h
        · cases h
      · cases h
    · cases h
  · cases h
theorem hd_putf_inv {pc x Ls n r1 r2 r3 : Nat} {rt : Option FieldType} {kc : Int32} {L st : List Value} {M : hd_Mem} {r : hd_Re} {C : Prop} (h : hd_act Ls rt (.putfield x, n, r1, r2, r3, kc) (pc, L, st, M) = some (r, C)) :
    ∃ (w : Int32) (k : Nat) (rr : List Value) (fl : List (Option Nat)), st = .int w :: .ref k :: rr ∧ k < 78 ∧ hd_lay k = .inl (r1, fl) ∧ fl[r2]? = some none ∧ r = .inl (pc + 3, L, rr, hd_set M k r2 w) := by
  simp only [hd_act] at h
  split at h
  · split at h
    · split at h
      · split at h
        · split at h
          · subst_vars
            exact ⟨_, _, _, _, rfl, by assumption, by assumption, by assumption, hd_nx_inv h⟩
          · cases h
        · cases h
      · cases h
    · cases h
  · cases h
theorem hd_aald_inv {pc Ls n r1 r2 r3 : Nat} {rt : Option FieldType} {kc : Int32} {L st : List Value} {M : hd_Mem} {r : hd_Re} {C : Prop} (h : hd_act Ls rt (.aaload, n, r1, r2, r3, kc) (pc, L, st, M) = some (r, C)) :
    ∃ (i : Int32) (k : Nat) (rr : List Value) (z b : Nat), st = .int i :: .ref k :: rr ∧ k < 78 ∧ hd_lay k = .inr (.inr (.inr (z, b))) ∧ C = hd_in i z ∧ r = .inl (pc + 1, L, .ref (b + i.toNatClampNeg) :: rr, M) := by
  simp only [hd_act] at h
  split at h
  · split at h
    · split at h
      · obtain ⟨h1, h2⟩ := hd_nc_inv h
        exact ⟨_, _, _, _, _, rfl, by assumption, by assumption, h2, h1⟩
      · cases h
    · cases h
  · cases h
theorem hd_iret_inv {pc Ls n r1 r2 r3 : Nat} {rt : Option FieldType} {kc : Int32} {L st : List Value} {M : hd_Mem} {r : hd_Re} {C : Prop} (h : hd_act Ls rt (.ireturn, n, r1, r2, r3, kc) (pc, L, st, M) = some (r, C)) (hC : C) :
    ∃ x : Int32, st = [.int x] ∧ r = .inr (.inl (some (.int x), M)) ∧ (rt = some .int ∨ rt = some .boolean ∧ (x = 0 ∨ x = 1)) := by
  simp only [hd_act] at h
  split at h
  · split at h
    · simp only [Option.some.injEq, Prod.mk.injEq] at h
      exact ⟨_, rfl, h.1.symm, Or.inl rfl⟩
    · simp only [Option.some.injEq, Prod.mk.injEq] at h
      exact ⟨_, rfl, h.1.symm, Or.inr ⟨rfl, by rw [h.2]; exact hC⟩⟩
    · cases h
  · cases h
theorem hd_vret_inv {pc Ls n r1 r2 r3 : Nat} {rt : Option FieldType} {kc : Int32} {L st : List Value} {M : hd_Mem} {r : hd_Re} {C : Prop} (h : hd_act Ls rt (.return_, n, r1, r2, r3, kc) (pc, L, st, M) = some (r, C)) :
    st = [] ∧ rt = none ∧ r = .inr (.inl (none, M)) := by
  simp only [hd_act] at h
  split at h
  · split at h
    · simp only [Option.some.injEq, Prod.mk.injEq] at h
      exact ⟨rfl, rfl, h.1.symm⟩
    · cases h
  · cases h
theorem hd_callv_inv {pc x Ls n r1 r2 r3 : Nat} {rt : Option FieldType} {kc : Int32} {L st : List Value} {M : hd_Mem} {r : hd_Re} {C : Prop} (h : hd_act Ls rt (.invokevirtual x, n, r1, r2, r3, kc) (pc, L, st, M) = some (r, C)) :
    ∃ (k : Nat) (bs rr : List Value) (fl : List (Option Nat)), st = bs ++ .ref k :: rr ∧ k < 78 ∧ bs.length = r2 ∧ rr.length ≤ 4 ∧ st.all hd_cat1 = true ∧ hd_lay k = .inl (r3, fl) ∧ r = .inr (.inr (r1, .ref k :: bs.reverse, pc + 3, L, rr, M)) := by
  simp only [hd_act] at h
  split at h
  next k rr hdrop =>
    split at h
    next hcond =>
      obtain ⟨h1, h2, h3, h4⟩ := hcond
      split at h
      next ci fl hlay =>
        split at h
        next hci =>
          simp only [Option.some.injEq, Prod.mk.injEq] at h
          subst hci
          refine ⟨k, st.take r2, rr, fl, ?_, h1, h2, h3, h4, hlay, h.1.symm⟩
          rw [← hdrop, List.take_append_drop]
        · cases h
      · cases h
    · cases h
  · cases h
theorem hd_calls_inv {pc x Ls n r1 r2 r3 : Nat} {rt : Option FieldType} {kc : Int32} {L st : List Value} {M : hd_Mem} {r : hd_Re} {C : Prop} (h3 : r3 = 0) (h : hd_act Ls rt (.invokestatic x, n, r1, r2, r3, kc) (pc, L, st, M) = some (r, C)) :
    ∃ (bs rr : List Value), st = bs ++ rr ∧ bs.length = r2 ∧ rr.length ≤ 4 ∧ st.all hd_cat1 = true ∧ r = .inr (.inr (r1, bs.reverse, pc + 3, L, rr, M)) := by
  subst h3
  simp only [hd_act, if_true] at h
  split at h
  next hcond =>
    simp only [Option.some.injEq, Prod.mk.injEq] at h
    exact ⟨st.take r2, st.drop r2, (List.take_append_drop r2 st).symm, hcond.1, hcond.2.1, hcond.2.2, h.1.symm⟩
  · cases h
theorem hd_copy_inv {pc x Ls n r1 r2 r3 : Nat} {rt : Option FieldType} {kc : Int32} {L st : List Value} {M : hd_Mem} {r : hd_Re} {C : Prop} (h3 : r3 = 3) (h : hd_act Ls rt (.invokestatic x, n, r1, r2, r3, kc) (pc, L, st, M) = some (r, C)) :
    ∃ (nn dp sp : Int32) (t k : Nat), st = [.int nn, .int dp, .ref t, .int sp, .ref k] ∧ C = (hd_okC k sp nn ∧ hd_okC t dp nn) ∧ r = .inl (pc + 3, L, [], hd_cpy M k t sp.toNatClampNeg dp.toNatClampNeg nn.toNatClampNeg) := by
  subst h3
  simp only [hd_act, show ¬ (3 : Nat) = 0 by decide, if_false, if_true] at h
  split at h
  · obtain ⟨h1, h2⟩ := hd_nc_inv h
    exact ⟨_, _, _, _, _, rfl, h2, h1⟩
  · cases h
theorem hd_max_inv {pc x Ls n r1 r2 r3 : Nat} {rt : Option FieldType} {kc : Int32} {L st : List Value} {M : hd_Mem} {r : hd_Re} {C : Prop} (h3 : r3 = 4) (h : hd_act Ls rt (.invokestatic x, n, r1, r2, r3, kc) (pc, L, st, M) = some (r, C)) :
    ∃ (b a : Int32) (rr : List Value), st = .int b :: .int a :: rr ∧ rr.length ≤ 4 ∧ rr.all hd_cat1 = true ∧ r = .inl (pc + 3, L, .int (if a < b then b else a) :: rr, M) := by
  subst h3
  simp only [hd_act, show ¬ (4 : Nat) = 0 by decide, show ¬ (4 : Nat) = 3 by decide, if_false, if_true] at h
  split at h
  · split at h
    next hc => exact ⟨_, _, _, rfl, hc.1, hc.2, hd_nx_inv h⟩
    · cases h
  · cases h
theorem hd_min_inv {pc x Ls n r1 r2 r3 : Nat} {rt : Option FieldType} {kc : Int32} {L st : List Value} {M : hd_Mem} {r : hd_Re} {C : Prop} (h3 : r3 = 5) (h : hd_act Ls rt (.invokestatic x, n, r1, r2, r3, kc) (pc, L, st, M) = some (r, C)) :
    ∃ (b a : Int32) (rr : List Value), st = .int b :: .int a :: rr ∧ rr.length ≤ 4 ∧ rr.all hd_cat1 = true ∧ r = .inl (pc + 3, L, .int (if b < a then b else a) :: rr, M) := by
  subst h3
  simp only [hd_act, show ¬ (5 : Nat) = 0 by decide, show ¬ (5 : Nat) = 3 by decide, show ¬ (5 : Nat) = 4 by decide, if_false, if_true] at h
  split at h
  · split at h
    next hc => exact ⟨_, _, _, rfl, hc.1, hc.2, hd_nx_inv h⟩
    · cases h
  · cases h
/-! what the tables gave an instruction -/
theorem hd_find_FT {o x : Nat} {q : Nat × Nat × Nat × Nat × Nat} (h : hd_FT.find? (fun q => q.1 == o && q.2.1 == x) = some q) : q.1 = o ∧ q.2.1 = x ∧ hd_fok q := by
  have h1 := List.find?_some h
  simp only [Bool.and_eq_true, beq_iff_eq] at h1
  exact ⟨h1.1, h1.2, hd_FT_ok q (List.mem_of_find?_eq_some h)⟩
theorem hd_find_LT {o x : Nat} {q : Nat × Nat × Int32 × Nat} (h : hd_LT.find? (fun q => q.1 == o && q.2.1 == x) = some q) : q.1 = o ∧ q.2.1 = x ∧ hd_lok q := by
  have h1 := List.find?_some h
  simp only [Bool.and_eq_true, beq_iff_eq] at h1
  exact ⟨h1.1, h1.2, hd_LT_ok q (List.mem_of_find?_eq_some h)⟩
theorem hd_find_CT {o x : Nat} {q : Nat × Nat × Nat × Nat × Nat} (h : hd_CT.find? (fun q => q.1 == o && q.2.1 == x) = some q) : q.1 = o ∧ q.2.1 = x ∧ hd_cok q := by
  have h1 := List.find?_some h
  simp only [Bool.and_eq_true, beq_iff_eq] at h1
  exact ⟨h1.1, h1.2, hd_CT_ok q (List.mem_of_find?_eq_some h)⟩
theorem hd_res_getf {y pc x n n' r1 r2 r3 : Nat} {kc : Int32} {i' : Instr} (h : hd_res y pc (.getfield x) n = some (i', n', r1, r2, r3, kc)) : i' = .getfield x ∧ n' = n ∧ r1 < 9 ∧ r2 < (hd_c r1).2.2 ∧ Cond.fieldLink (hd_own (hd_ow y)) x ((hd_c r1).2.1 r2).1 ((hd_c r1).2.1 r2).2.1 ((hd_c r1).2.1 r2).2.2.1 ∈ hd_tb := by
  simp only [hd_res] at h
  split at h
  next q hq =>
    obtain ⟨h1, h2, h3, h4, h5⟩ := hd_find_FT hq
    simp only [Option.some.injEq, Prod.mk.injEq] at h
    obtain ⟨rfl, rfl, rfl, rfl, -, -⟩ := h
    rw [h1, h2] at h3
    exact ⟨rfl, rfl, h4, h5, hd_tb_at h3 rfl⟩
  · cases h
theorem hd_res_putf {y pc x n n' r1 r2 r3 : Nat} {kc : Int32} {i' : Instr} (h : hd_res y pc (.putfield x) n = some (i', n', r1, r2, r3, kc)) : i' = .putfield x ∧ n' = n ∧ r1 < 9 ∧ r2 < (hd_c r1).2.2 ∧ Cond.fieldLink (hd_own (hd_ow y)) x ((hd_c r1).2.1 r2).1 ((hd_c r1).2.1 r2).2.1 ((hd_c r1).2.1 r2).2.2.1 ∈ hd_tb ∧ ((hd_c r1).2.1 r2).2.2.2 = false ∧ hd_ty r1 r2 = .int := by
  simp only [hd_res] at h
  split at h
  next q hq =>
    obtain ⟨h1, h2, h3, h4, h5⟩ := hd_find_FT hq
    split at h
    next hc =>
      simp only [Option.some.injEq, Prod.mk.injEq] at h
      obtain ⟨rfl, rfl, rfl, rfl, -, -⟩ := h
      rw [h1, h2] at h3
      exact ⟨rfl, rfl, h4, h5, hd_tb_at h3 rfl, hc.1, hc.2⟩
    · cases h
  · cases h
theorem hd_res_ldc {y pc x n n' r1 r2 r3 : Nat} {kc : Int32} {i' : Instr} (h : hd_res y pc (.ldc x) n = some (i', n', r1, r2, r3, kc)) : i' = .ldc x ∧ n' = n ∧ Cond.constant (hd_own (hd_ow y)) x kc ∈ hd_tb := by
  simp only [hd_res] at h
  split at h
  next q hq =>
    obtain ⟨h1, h2, h3⟩ := hd_find_LT hq
    simp only [Option.some.injEq, Prod.mk.injEq] at h
    obtain ⟨rfl, rfl, -, -, -, rfl⟩ := h
    unfold hd_lok at h3
    rw [h1, h2] at h3
    exact ⟨rfl, rfl, hd_tb_at h3 rfl⟩
  · cases h
theorem hd_res_ldcw {y pc x n n' r1 r2 r3 : Nat} {kc : Int32} {i' : Instr} (h : hd_res y pc (.ldc_w x) n = some (i', n', r1, r2, r3, kc)) : i' = .ldc_w x ∧ n' = n ∧ Cond.constant (hd_own (hd_ow y)) x kc ∈ hd_tb := by
  simp only [hd_res] at h
  split at h
  next q hq =>
    obtain ⟨h1, h2, h3⟩ := hd_find_LT hq
    simp only [Option.some.injEq, Prod.mk.injEq] at h
    obtain ⟨rfl, rfl, -, -, -, rfl⟩ := h
    unfold hd_lok at h3
    rw [h1, h2] at h3
    exact ⟨rfl, rfl, hd_tb_at h3 rfl⟩
  · cases h
theorem hd_res_callv {y pc x n n' r1 r2 r3 : Nat} {kc : Int32} {i' : Instr} (h : hd_res y pc (.invokevirtual x) n = some (i', n', r1, r2, r3, kc)) : i' = .invokevirtual x ∧ n' = n ∧ r1 < 139 ∧ r2 = hd_np r1 ∧ r3 = hd_ow r1 ∧ hd_fr r1 + 1 ≤ hd_fr y ∧ 8 + (hd_mx r1 + 11) + hd_lo r1 ≤ hd_lo y ∧ hd_np r1 + 1 ≤ hd_mx r1 ∧ Cond.methodLink (hd_own (hd_ow y)) x (hd_nm r1) ∈ hd_tb ∧ Cond.instanceMethod (hd_nm r1) ∈ hd_tb ∧ Cond.selects (hd_nm r1).cls (hd_nm r1) (hd_nm r1) ∈ hd_tb := by
  simp only [hd_res] at h
  split at h
  next q hq =>
    obtain ⟨h1, h2, h3⟩ := hd_find_CT hq
    split at h
    next hc =>
      obtain ⟨c1, c2, c3, c4⟩ := hc
      simp only [Option.some.injEq, Prod.mk.injEq] at h
      obtain ⟨rfl, rfl, rfl, rfl, rfl, -⟩ := h
      rcases h3 with h3 | h3 | h3 | h3 | h3 | h3
      · obtain ⟨-, k1, k2, k3, k4⟩ := h3
        rw [h1, h2] at k2
        exact ⟨rfl, rfl, k1, rfl, rfl, c2, c3, c4, hd_tb_at k2 rfl, hd_tb_at k3 rfl, hd_tb_at k4 rfl⟩
      all_goals (have := h3.1; omega)
    · cases h
  · cases h
theorem hd_res_calls {y pc x n n' r1 r2 r3 : Nat} {kc : Int32} {i' : Instr} (h : hd_res y pc (.invokestatic x) n = some (i', n', r1, r2, r3, kc)) : i' = .invokestatic x ∧ n' = n ∧ ((r3 = 0 ∧ r1 < 139 ∧ r2 = hd_np r1 ∧ hd_fr r1 + 1 ≤ hd_fr y ∧ 8 + (hd_mx r1 + 11) + hd_lo r1 ≤ hd_lo y ∧ hd_np r1 ≤ hd_mx r1 ∧ Cond.static (hd_nm r1) ∈ hd_tb ∧ (Cond.methodLink (hd_own (hd_ow y)) x (hd_nm r1) ∈ hd_tb ∨ ((hd_ow y = 3 ∧ x = 37 ∧ r1 = D_hasBit) ∨ (hd_ow y = 6 ∧ x = 23 ∧ r1 = D_within)))) ∨ (1 ≤ hd_fr y ∧ 26 ≤ hd_lo y ∧ ((r3 = 3 ∧ Cond.methodLink (hd_own (hd_ow y)) x arraycopyName ∈ hd_tb) ∨ (r3 = 4 ∧ Cond.methodLink (hd_own (hd_ow y)) x Lib.Math.max.name ∈ hd_tb) ∨ (r3 = 5 ∧ Cond.methodLink (hd_own (hd_ow y)) x Lib.Math.min.name ∈ hd_tb)))) := by
  simp only [hd_res] at h
  split at h
  next q hq =>
    obtain ⟨h1, h2, h3⟩ := hd_find_CT hq
    split at h
    next hc =>
      obtain ⟨c1, c2, c3, c4⟩ := hc
      simp only [Option.some.injEq, Prod.mk.injEq] at h
      obtain ⟨rfl, rfl, rfl, rfl, rfl, -⟩ := h
      rcases h3 with h3 | h3 | h3 | h3 | h3 | h3
      · have := h3.1; omega
      · obtain ⟨-, k1, k2, k3⟩ := h3
        rw [h1, h2] at k2
        exact ⟨rfl, rfl, Or.inl ⟨rfl, k1, rfl, c2, c3, c4, hd_tb_at k3 rfl, Or.inl (hd_tb_at k2 rfl)⟩⟩
      · obtain ⟨-, k1, k2, k3⟩ := h3
        rw [h1, h2] at k2
        exact ⟨rfl, rfl, Or.inl ⟨rfl, k1, rfl, c2, c3, c4, hd_tb_at k3 rfl, Or.inr k2⟩⟩
      all_goals (have := h3.1; omega)
    · split at h
      next hc =>
        obtain ⟨c1, c2, c3⟩ := hc
        simp only [Option.some.injEq, Prod.mk.injEq] at h
        obtain ⟨rfl, rfl, rfl, rfl, rfl, -⟩ := h
        rcases h3 with h3 | h3 | h3 | h3 | h3 | h3
        · have := h3.1; omega
        · have := h3.1; omega
        · have := h3.1; omega
        · obtain ⟨k1, k2⟩ := h3
          rw [h1, h2] at k2
          exact ⟨rfl, rfl, Or.inr ⟨c2, c3, Or.inl ⟨k1, hd_tb_at k2 rfl⟩⟩⟩
        · obtain ⟨k1, k2⟩ := h3
          rw [h1, h2] at k2
          exact ⟨rfl, rfl, Or.inr ⟨c2, c3, Or.inr (Or.inl ⟨k1, hd_tb_at k2 rfl⟩)⟩⟩
        · obtain ⟨k1, k2⟩ := h3
          rw [h1, h2] at k2
          exact ⟨rfl, rfl, Or.inr ⟨c2, c3, Or.inr (Or.inr ⟨k1, hd_tb_at k2 rfl⟩)⟩⟩
      · cases h
  · cases h
end
section
/-! THE PURE MACHINE IS THE REAL ONE: what hd_Ev says of a method is a contract of it -/
def hd_ks (j : Nat) : Int32 := [1, 3, 5, 11].getD j 0
def hd_A (ad : Nat → Nat) : Nat → Prop := fun q => ∃ k, k < 78 ∧ q = ad k
def hd_ro (ad : Nat → Nat) (Ls : Nat) (xs : Nat → Int32) (A : Nat → Prop) (U : State) (H : Heap) : Prop :=
  va_Z "HoursDesk" "KINDS_OF" "[I" (.ref (ad 79)) A U H ∧ va_T .int (ad 79) 4 (fun j => .int (hd_ks j)) A U H ∧ va_X (ad 78) Ls xs U H ∧ ad 78 < H.size ∧ ¬ A (ad 78) ∧
  va_Nw (.methodLinkNest "HoursDesk$People" 37 ⟨"HoursDesk", "hasBit", "(II)Z"⟩ "HoursDesk") U ∧ va_Nw (.methodLinkNest "HoursDesk$Sheets" 23 ⟨"HoursDesk", "within", "(III)Z"⟩ "HoursDesk") U ∧ va_Nw (.fieldLinkNest "HoursDesk$People" 34 "HoursDesk" "KINDS_OF" "[I" "HoursDesk") U
abbrev hd_tys (cI cZ cA : ClassId) : List (ClassId × FieldType) := [(cI, .int), (cZ, .boolean), (cA, .array .int)]
def hd_Cx (p : Program) (R : Room) (s : State) (m : MethodId) (args : Array Value) (c : Code) (D : va_G) (cI cZ cA : ClassId) (ad : Nat → Nat) (Ls : Nat) (xs : Nat → Int32) (y : Nat) (A : Nat → Prop) (cells slots : Nat) : Prop :=
  p.tables.exec = Jvm.exec ∧ c.code = hd_cd y ∧ c.maxLocals = hd_mx y ∧ s.vm.findClass (hd_own (hd_ow y)) = some m.cls ∧ (∀ w ∈ hd_tb, w.before args s = true) ∧ va_K D hd_cl (hd_tys cI cZ cA) s ∧ hd_ro ad Ls xs A s s.heap ∧ (∀ k, k < 78 → A (ad k)) ∧ hd_fr y ≤ R.frames ∧ hd_lo y ≤ R.locals ∧ cells ≤ R.cells ∧ slots ≤ R.slots
def hd_end (y : Nat) (v : Option Value) (pc : Nat) : Prop := (v = none ∧ hd_rt y = none ∧ decode (hd_cd y) pc = .ok (.return_, 1)) ∨ (∃ x : Int32, v = some (.int x) ∧ (hd_rt y = some .int ∨ hd_rt y = some .boolean ∧ (x = 0 ∨ x = 1)) ∧ decode (hd_cd y) pc = .ok (.ireturn, 1))
def hd_S1 (l : Launch) (D : va_G) (cI cZ cA : ClassId) (ad : Nat → Nat) (Ls : Nat) (xs : Nat → Int32) (n : Nat) : Prop :=
  ∀ (p : Program) (e : Env) (R : Room) (s : State) (m : MethodId) (args : Array Value) (below : List Frame) (meth : Method) (c : Code) (y : Nat) (A : Nat → Prop) (cells slots : Nat) (Qf : State → Prop) (Q : Option Value → hd_Mem → Prop), hd_Cx p R s m args c D cI cZ cA ad Ls xs y A cells slots →
  (∀ (v : Option Value) (M' : hd_Mem) (H' : Heap) (locs' : List Loc) (pc' : Nat) (ls' : Array Slot), Q v M' → M' 78 = xs → M' 79 = hd_ks → va_P D hd_cl (hd_ws cI cZ cA ad M') H' → va_S A s.heap H' locs' → hd_end y v pc' → W p l e R s m args below meth c H' locs' cells slots Qf (F0 m pc' ls' v.toList)) →
  ∀ (st : hd_S) (H : Heap) (locs : List Loc) (ls : Array Slot), hd_Ev Ls n y st Q → st.2.2.2 78 = xs → st.2.2.2 79 = hd_ks → va_P D hd_cl (hd_ws cI cZ cA ad st.2.2.2) H → va_S A s.heap H locs → hd_has ad ls (hd_mx y) st.2.1 →
  W p l e R s m args below meth c H locs cells slots Qf (F0 m st.1 ls (st.2.2.1.map (hd_cv ad)))
def hd_mw (y : Nat) : List Cond := Cond.code (hd_nm y) (hd_cd y) (hd_mx y) (hd_rt y) :: hd_tb
def hd_rm (y : Nat) : Room := { frames := hd_fr y, cells := 0, slots := 0, locals := hd_lo y }
def hd_W (D : va_G) (cI cZ cA : ClassId) (ad : Nat → Nat) (Ls : Nat) (xs : Nat → Int32) (M : hd_Mem) (U : State) : Prop := va_P D hd_cl (hd_ws cI cZ cA ad M) U.heap ∧ va_K D hd_cl (hd_tys cI cZ cA) U ∧ hd_ro ad Ls xs (hd_A ad) U U.heap
def hd_Q (D : va_G) (cI cZ cA : ClassId) (ad : Nat → Nat) (xs : Nat → Int32) (rt : Option FieldType) (Q : Option Value → hd_Mem → Prop) : Array Value → State → Outcome → State → Prop := match rt with
  | none => va_Qv (fun u : hd_Mem => Q none u ∧ u 78 = xs ∧ u 79 = hd_ks) (fun u t => va_P D hd_cl (hd_ws cI cZ cA ad u) t.heap) (hd_A ad)
  | some _ => va_Qi (fun (r : Int32) (u : hd_Mem) => Q (some (.int r)) u ∧ u 78 = xs ∧ u 79 = hd_ks) (fun u t => va_P D hd_cl (hd_ws cI cZ cA ad u) t.heap) (hd_A ad)
def hd_S2 (l : Launch) (D : va_G) (cI cZ cA : ClassId) (ad : Nat → Nat) (Ls : Nat) (xs : Nat → Int32) (n : Nat) : Prop :=
  ∀ (z : Nat) (as : List Value) (M : hd_Mem) (Q : Option Value → hd_Mem → Prop), z < 139 → M 78 = xs → M 79 = hd_ks → (∀ v ∈ as, hd_cat1 v = true) → as.length ≤ hd_mx z → hd_Ev Ls n z (0, hd_entry z as, [], M) Q →
  Met l (hd_nm z) (hd_mw z) (hd_rm z) (va_Pc (as.map (hd_cv ad)) (hd_W D cI cZ cA ad Ls xs M)) (hd_Q D cI cZ cA ad xs (hd_rt z) Q) 0 0 (hd_A ad)
theorem hd_ro_moved {ad : Nat → Nat} {Ls : Nat} {xs : Nat → Int32} {A B : Nat → Prop} {s U : State} {H : Heap} {locs : List Loc} (h : hd_ro ad Ls xs A s s.heap) (hAB : ∀ q, B q → A q) (hS : va_S A s.heap H locs) (hU : U.heap = H) (hW : s.WarmedH U.vm) : hd_ro ad Ls xs B U U.heap := by
  obtain ⟨h1, h2, h3, h4, h5, h6, h7, h8⟩ := h
  subst hU
  refine ⟨((h1.kept hS.2.1).moved hW.alike).narrow hAB, ((h2.kept hS.2.1).moved hW.alike).narrow hAB, (h3.kept (hS.2.1 _ h4 h5)).moved hW.alike, Nat.lt_of_lt_of_le h4 hS.1, fun q => h5 (hAB _ q), h6.warmM hW, h7.warmM hW, h8.warmF hW⟩
theorem hd_blind {D : va_G} {cI cZ cA : ClassId} {ad : Nat → Nat} {Ls : Nat} {xs : Nat → Int32} {M : hd_Mem} {av : List Value} : FrameBlind (va_Pc av (hd_W D cI cZ cA ad Ls xs M)) := by
  intro a U g mk q
  obtain ⟨q0, q1, q2, q3⟩ := q
  obtain ⟨h1, h2, h3, h4, h5, h6, h7, h8⟩ := q3
  exact ⟨q0, q1, va_K.moved (u := U) (U := U.calling g mk a) (Vm.Alike.refl U.vm) q2, h1.moved (U := U.calling g mk a) (Vm.Alike.refl U.vm), h2.moved (U := U.calling g mk a) (Vm.Alike.refl U.vm), h3.moved (U := U.calling g mk a) (Vm.Alike.refl U.vm), h4, h5, h6.same rfl rfl, h7.same rfl rfl, h8.same rfl rfl⟩
theorem hd_good (z : Nat) (hz : z < 139) : GoodIn hd_tb (hd_mw z) := by
  intro w hw
  rcases List.mem_cons.mp hw with rfl | hw
  · exact ⟨hd_tb_in (hd_code_ok z hz) rfl, Or.inl rfl⟩
  · exact ⟨hw, good_of_word (List.mem_filter.mp hw).2⟩
theorem hd_cats {ad : Nat → Nat} : ∀ (rr : List Value), rr.all hd_cat1 = true → ((rr.map (hd_cv ad)).map fun v => v.category).sum = rr.length
  | [], _ => rfl
  | v :: t, h => by
    simp only [List.all_cons, Bool.and_eq_true] at h
    simp only [List.map_cons, List.sum_cons, hd_cats t h.2, hd_cv_cat h.1, List.length_cons]
    omega
end
section
/-! one step of the pure machine is one of the real -/
set_option maxHeartbeats 4000000 in
theorem hd_aald {p : Program} {l : Launch} {e : Env} {R : Room} {s : State} {m : MethodId} {args : Array Value} {below : List Frame} {meth : Method} {c : Code} {H : Heap} {locs : List Loc} {cells slots : Nat} {Q : State → Prop} {cc : ByteArray} {pc a : Nat} {ls : Array Slot} {rest : List Value} {D : va_G} {cl : List vw_C} {tys : List (ClassId × FieldType)} {ws : va_W} (hexec : p.tables.exec = Jvm.exec) (hb : c.code = cc) (hK : va_K D cl tys s) (hP : va_P D cl ws H) (q0 t0 : Nat) {cA : ClassId} {n : Nat} {f : Nat → Option Nat} (ha : ws[q0]? = some (a, .inl (cA, n, .inr (.inr (.inr (.inr f)))))) (ht : tys[t0]? = some (cA, .array .int)) {i : Int32} (hin : vp_in i n) (hdg : decode cc pc = .ok (.aaload, 1))
    (kk : W p l e R s m args below meth c H locs cells slots Q (F0 m (pc + 1) ls (va_rf (f i.toNatClampNeg) :: rest))) : W p l e R s m args below meth c H locs cells slots Q (F0 m pc ls (.int i :: .ref a :: rest)) := by
  have hlt : i.toNatClampNeg < n := Nat.not_le.mp fun q => hin (Or.inr q)
  exact W.aald (v := va_rf (f i.toNatClampNeg)) (ty := .array .int) hexec hb (hP q0 _ ha) ((hK.2 t0 _ ht).1 n (fun j => va_rf (f j))) rfl (fun q => by cases q) (by show ¬ (i < 0 ∨ (arrV _ _ _).slots.size ≤ _); rw [arrV_size]; exact hin) (by show (arrV _ _ _).slots[_]? = _; rw [arrV_read _ _ hlt]) rfl rfl hdg kk
theorem hd_zn {x : Int32} (h : x = 0 ∨ x = 1) : vp_nar .boolean x = x := by rcases h with rfl | rfl <;> rfl
theorem hd_zn2 {x : Int32} (h : x = 0 ∨ x = 1) : narrow .boolean (.int x) = .int x := by rcases h with rfl | rfl <;> rfl
theorem hd_clamp {x : Int32} (h : 0 ≤ x.toInt) : (x.toNatClampNeg : Int) = x.toInt := by
  have : x.toNatClampNeg = x.toInt.toNat := rfl
  rw [this]; omega
theorem hd_nlt {x : Int32} (h : 0 ≤ x.toInt) : ¬ x < 0 := by
  rw [Int32.lt_iff_toInt_lt]
  show ¬ x.toInt < 0
  omega
theorem hd_own_c : ∀ ci, ci < 9 → (hd_c ci).1 = hd_own ci := by decide +kernel
set_option maxHeartbeats 16000000 in
set_option maxRecDepth 100000 in
theorem hd_step {l : Launch} {D : va_G} {cI cZ cA : ClassId} {ad : Nat → Nat} {Ls : Nat} {xs : Nat → Int32} {n : Nat} (hinj : ∀ i j, i < 78 → j < 78 → ad i = ad j → i = j) (h1 : hd_S1 l D cI cZ cA ad Ls xs n) (h2 : hd_S2 l D cI cZ cA ad Ls xs n) : hd_S1 l D cI cZ cA ad Ls xs (n + 1) := by
  intro p e R s m args below meth c y A cells slots Qf Q hC kret st H locs ls hEv hxs hks hP hS hl
  obtain ⟨it, r, C, hf, ha, hc, hr⟩ := hEv
  obtain ⟨pc, L, sk, M⟩ := st
  obtain ⟨i, k9, hdec, hlen, hres⟩ := hd_fetch_spec hf
  obtain ⟨i', n', r1, r2, r3, kc⟩ := it
  have hCC := hC
  obtain ⟨hx, hb, hml, hown, hts, hK, hro, hA, hfr, hlo, hcl, hsl⟩ := hCC
  have hD : ∀ M : hd_Mem, va_D A (hd_ws cI cZ cA ad M) := fun M => hd_D hinj hA
  have go : ∀ (s' : hd_S) (H' : Heap) (locs' : List Loc) (ls' : Array Slot), hd_Ev Ls n y s' Q → s'.2.2.2 78 = xs → s'.2.2.2 79 = hd_ks → va_P D hd_cl (hd_ws cI cZ cA ad s'.2.2.2) H' → va_S A s.heap H' locs' → hd_has ad ls' (hd_mx y) s'.2.1 → W p l e R s m args below meth c H' locs' cells slots Qf (F0 m s'.1 ls' (s'.2.2.1.map (hd_cv ad))) := fun s' H' locs' ls' a1 a2 a3 a4 a5 a6 => h1 p e R s m args below meth c y A cells slots Qf Q hC kret s' H' locs' ls' a1 a2 a3 a4 a5 a6
  dsimp only at hdec hlen hres ha hxs hks hP hl ⊢
  have hsame : ∀ {iq : Instr}, hd_res y pc iq k9 = some (iq, k9, 0, 0, 0, 0) → i = iq → i' = iq ∧ n' = k9 := fun {iq} h q => by
    subst q
    rw [h] at hres
    simp only [Option.some.injEq, Prod.mk.injEq] at hres
    exact ⟨hres.1.symm, hres.2.1.symm⟩
  cases i
  case iconst v =>
    have hn : k9 = 1 := by simpa [hd_lenok, hd_len] using hlen
    subst hn
    simp only [hd_res, Option.some.injEq, Prod.mk.injEq] at hres
    obtain ⟨rfl, rfl, -, -, -, rfl⟩ := hres
    obtain rfl := hd_nx_inv ha
    exact lv_iconst hx hb hdec rfl (go _ H locs ls hr hxs hks hP hS hl)
  case bipush v =>
    have hn : k9 = 2 := by simpa [hd_lenok, hd_len] using hlen
    subst hn
    simp only [hd_res, Option.some.injEq, Prod.mk.injEq] at hres
    obtain ⟨rfl, rfl, -, -, -, rfl⟩ := hres
    obtain rfl := hd_nx_inv ha
    exact lv_bipush hx hb hdec rfl (go _ H locs ls hr hxs hks hP hS hl)
  case sipush v =>
    have hn : k9 = 3 := by simpa [hd_lenok, hd_len] using hlen
    subst hn
    simp only [hd_res, Option.some.injEq, Prod.mk.injEq] at hres
    obtain ⟨rfl, rfl, -, -, -, rfl⟩ := hres
    obtain rfl := hd_nx_inv ha
    exact lv_sipush hx hb hdec rfl (go _ H locs ls hr hxs hks hP hS hl)
  case ldc v =>
    have hn : k9 = 2 := by simpa [hd_lenok, hd_len] using hlen
    subst hn
    obtain ⟨rfl, rfl, hw⟩ := hd_res_ldc hres
    obtain rfl := hd_nx_inv ha
    exact lv_ldc hx hb hown (hts _ hw) hdec (go _ H locs ls hr hxs hks hP hS hl)
  case ldc_w v =>
    have hn : k9 = 3 := by simpa [hd_lenok, hd_len] using hlen
    subst hn
    obtain ⟨rfl, rfl, hw⟩ := hd_res_ldcw hres
    obtain rfl := hd_nx_inv ha
    exact lv_ldcw hx hb hown (hts _ hw) hdec (go _ H locs ls hr hxs hks hP hS hl)
  case iload_n k =>
    have hn : k9 = 1 := by simpa [hd_lenok, hd_len] using hlen
    subst hn
    obtain ⟨rfl, rfl⟩ := hsame rfl rfl
    obtain ⟨x, hx1, rfl⟩ := hd_ld_inv (k := k.val) ha
    exact lv_iload_n hx hb hdec rfl (hd_has_int hl hx1) (go _ H locs ls hr hxs hks hP hS hl)
  case iload k =>
    have hn : k9 = 2 := by simpa [hd_lenok, hd_len] using hlen
    subst hn
    obtain ⟨rfl, rfl⟩ := hsame rfl rfl
    obtain ⟨x, hx1, rfl⟩ := hd_ld_inv (k := k) ha
    exact lv_iload hx hb hdec (hd_has_int hl hx1) (go _ H locs ls hr hxs hks hP hS hl)
  case aload_n k =>
    have hn : k9 = 1 := by simpa [hd_lenok, hd_len] using hlen
    subst hn
    obtain ⟨rfl, rfl⟩ := hsame rfl rfl
    obtain ⟨x, hx1, rfl⟩ := hd_la_inv (k := k.val) ha
    exact lv_aload_n hx hb hdec rfl (hd_has_ref hl hx1) (go _ H locs ls hr hxs hks hP hS hl)
  case istore_n k =>
    have hn : k9 = 1 := by simpa [hd_lenok, hd_len] using hlen
    subst hn
    obtain ⟨rfl, rfl⟩ := hsame rfl rfl
    obtain ⟨x, rr, rfl, hk, rfl⟩ := hd_sto_inv (k := k.val) ha
    exact lv_istore_n hx hb hdec rfl (hd_has_lv hl) (hl.2.1 ▸ hk) rfl (fun ls' hl' => go _ H locs ls' hr hxs hks hP hS (hd_has_st hl hk hl'))
  case istore k =>
    have hn : k9 = 2 := by simpa [hd_lenok, hd_len] using hlen
    subst hn
    obtain ⟨rfl, rfl⟩ := hsame rfl rfl
    obtain ⟨x, rr, rfl, hk, rfl⟩ := hd_sto_inv (k := k) ha
    exact lv_istore hx hb hdec (hd_has_lv hl) (hl.2.1 ▸ hk) rfl (fun ls' hl' => go _ H locs ls' hr hxs hks hP hS (hd_has_st hl hk hl'))
  case iinc k v =>
    have hn : k9 = 3 := by simpa [hd_lenok, hd_len] using hlen
    subst hn
    simp only [hd_res, Option.some.injEq, Prod.mk.injEq] at hres
    obtain ⟨rfl, rfl, -, -, -, rfl⟩ := hres
    obtain ⟨x, hk, rfl⟩ := hd_iinc_inv ha
    have hlt := (List.getElem?_eq_some_iff.mp hk).1
    obtain ⟨q, hq⟩ := List.getElem?_of_mem (hd_lv_mem (ad := ad) (L := L) (q := (k, .int x)).mpr ⟨k, .int x, hk, by simp, rfl⟩)
    exact lv_iinc hx hb hdec (hd_has_lv hl) hq rfl (hl.2.1 ▸ hlt) rfl (fun ls' hl' => go _ H locs ls' hr hxs hks hP hS (hd_has_st hl hlt hl'))
  case iadd =>
    have hn : k9 = 1 := by simpa [hd_lenok, hd_len] using hlen
    subst hn
    obtain ⟨rfl, rfl⟩ := hsame rfl rfl
    obtain ⟨b, a, rr, rfl, rfl, -⟩ := hd_op2_inv ha
    exact lv_iadd hx hb hdec (go _ H locs ls hr hxs hks hP hS hl)
  case isub =>
    have hn : k9 = 1 := by simpa [hd_lenok, hd_len] using hlen
    subst hn
    obtain ⟨rfl, rfl⟩ := hsame rfl rfl
    obtain ⟨b, a, rr, rfl, rfl, -⟩ := hd_op2_inv ha
    exact lv_isub hx hb hdec (go _ H locs ls hr hxs hks hP hS hl)
  case imul =>
    have hn : k9 = 1 := by simpa [hd_lenok, hd_len] using hlen
    subst hn
    obtain ⟨rfl, rfl⟩ := hsame rfl rfl
    obtain ⟨b, a, rr, rfl, rfl, -⟩ := hd_op2_inv ha
    exact lv_imul hx hb hdec (go _ H locs ls hr hxs hks hP hS hl)
  case iand =>
    have hn : k9 = 1 := by simpa [hd_lenok, hd_len] using hlen
    subst hn
    obtain ⟨rfl, rfl⟩ := hsame rfl rfl
    obtain ⟨b, a, rr, rfl, rfl, -⟩ := hd_op2_inv ha
    exact lv_iand hx hb hdec (go _ H locs ls hr hxs hks hP hS hl)
  case ior =>
    have hn : k9 = 1 := by simpa [hd_lenok, hd_len] using hlen
    subst hn
    obtain ⟨rfl, rfl⟩ := hsame rfl rfl
    obtain ⟨b, a, rr, rfl, rfl, -⟩ := hd_op2_inv ha
    exact lv_ior hx hb hdec (go _ H locs ls hr hxs hks hP hS hl)
  case ixor =>
    have hn : k9 = 1 := by simpa [hd_lenok, hd_len] using hlen
    subst hn
    obtain ⟨rfl, rfl⟩ := hsame rfl rfl
    obtain ⟨b, a, rr, rfl, rfl, -⟩ := hd_op2_inv ha
    exact lv_ixor hx hb hdec (go _ H locs ls hr hxs hks hP hS hl)
  case ishl =>
    have hn : k9 = 1 := by simpa [hd_lenok, hd_len] using hlen
    subst hn
    obtain ⟨rfl, rfl⟩ := hsame rfl rfl
    obtain ⟨b, a, rr, rfl, rfl, -⟩ := hd_op2_inv ha
    exact lv_ishl hx hb hdec (go _ H locs ls hr hxs hks hP hS hl)
  case ishr =>
    have hn : k9 = 1 := by simpa [hd_lenok, hd_len] using hlen
    subst hn
    obtain ⟨rfl, rfl⟩ := hsame rfl rfl
    obtain ⟨b, a, rr, rfl, rfl, -⟩ := hd_op2_inv ha
    exact lv_ishr hx hb hdec (go _ H locs ls hr hxs hks hP hS hl)
  case idiv =>
    have hn : k9 = 1 := by simpa [hd_lenok, hd_len] using hlen
    subst hn
    obtain ⟨rfl, rfl⟩ := hsame rfl rfl
    obtain ⟨b, a, rr, rfl, rfl, rfl⟩ := hd_op2_inv ha
    exact lv_idiv hx hb hdec hc (go _ H locs ls hr hxs hks hP hS hl)
  case irem =>
    have hn : k9 = 1 := by simpa [hd_lenok, hd_len] using hlen
    subst hn
    obtain ⟨rfl, rfl⟩ := hsame rfl rfl
    obtain ⟨b, a, rr, rfl, rfl, rfl⟩ := hd_op2_inv ha
    exact lv_irem hx hb hdec hc (go _ H locs ls hr hxs hks hP hS hl)
  case iushr =>
    have hn : k9 = 1 := by simpa [hd_lenok, hd_len] using hlen
    subst hn
    obtain ⟨rfl, rfl⟩ := hsame rfl rfl
    obtain ⟨b, a, rr, rfl, rfl, -⟩ := hd_op2_inv ha
    exact lv_iushr hx hb hdec rfl (go _ H locs ls hr hxs hks hP hS hl)
  case i2l =>
    have hn : k9 = 1 := by simpa [hd_lenok, hd_len] using hlen
    subst hn
    obtain ⟨rfl, rfl⟩ := hsame rfl rfl
    simp only [hd_act] at ha
    split at ha
    · obtain rfl := hd_nx_inv ha
      exact lv_i2l hx hb hdec rfl (go _ H locs ls hr hxs hks hP hS hl)
    · cases ha
  case i2b =>
    have hn : k9 = 1 := by simpa [hd_lenok, hd_len] using hlen
    subst hn
    obtain ⟨rfl, rfl⟩ := hsame rfl rfl
    simp only [hd_act] at ha
    split at ha
    · obtain rfl := hd_nx_inv ha
      exact lv_i2b hx hb hdec rfl (go _ H locs ls hr hxs hks hP hS hl)
    · cases ha
  case i2s =>
    have hn : k9 = 1 := by simpa [hd_lenok, hd_len] using hlen
    subst hn
    obtain ⟨rfl, rfl⟩ := hsame rfl rfl
    simp only [hd_act] at ha
    split at ha
    · obtain rfl := hd_nx_inv ha
      exact lv_i2s hx hb hdec rfl (go _ H locs ls hr hxs hks hP hS hl)
    · cases ha
  case ladd =>
    have hn : k9 = 1 := by simpa [hd_lenok, hd_len] using hlen
    subst hn
    obtain ⟨rfl, rfl⟩ := hsame rfl rfl
    simp only [hd_act] at ha
    split at ha
    · obtain rfl := hd_nx_inv ha
      exact lv_ladd hx hb hdec (go _ H locs ls hr hxs hks hP hS hl)
    · cases ha
  case lcmp =>
    have hn : k9 = 1 := by simpa [hd_lenok, hd_len] using hlen
    subst hn
    obtain ⟨rfl, rfl⟩ := hsame rfl rfl
    simp only [hd_act] at ha
    split at ha
    · obtain rfl := hd_nx_inv ha
      exact W.lcmp hx hb hdec (go _ H locs ls hr hxs hks hP hS hl)
    · cases ha
  case dup =>
    have hn : k9 = 1 := by simpa [hd_lenok, hd_len] using hlen
    subst hn
    obtain ⟨rfl, rfl⟩ := hsame rfl rfl
    simp only [hd_act] at ha
    split at ha
    · split at ha
      next hcat =>
        obtain rfl := hd_nx_inv ha
        exact lv_dup hx hb hdec (hd_cv_cat hcat) (go _ H locs ls hr hxs hks hP hS hl)
      · cases ha
    · cases ha
  case dup2 =>
    have hn : k9 = 1 := by simpa [hd_lenok, hd_len] using hlen
    subst hn
    obtain ⟨rfl, rfl⟩ := hsame rfl rfl
    simp only [hd_act] at ha
    split at ha
    · split at ha
      next hcat =>
        obtain rfl := hd_nx_inv ha
        exact lv_dup2_11 hx hb hdec (hd_cv_cat hcat.1) (hd_cv_cat hcat.2) (go _ H locs ls hr hxs hks hP hS hl)
      · cases ha
    · cases ha
  case pop =>
    have hn : k9 = 1 := by simpa [hd_lenok, hd_len] using hlen
    subst hn
    obtain ⟨rfl, rfl⟩ := hsame rfl rfl
    simp only [hd_act] at ha
    split at ha
    · split at ha
      next hcat =>
        obtain rfl := hd_nx_inv ha
        exact lv_pop hx hb hdec (hd_cv_cat hcat) (go _ H locs ls hr hxs hks hP hS hl)
      · cases ha
    · cases ha
  case ifCond o off =>
    have hn : k9 = 3 := by simpa [hd_lenok, hd_len] using hlen
    subst hn
    simp only [hd_res] at hres
    split at hres
    next hpos =>
      simp only [Option.some.injEq, Prod.mk.injEq] at hres
      obtain ⟨rfl, rfl, rfl, -, -, -⟩ := hres
      simp only [hd_act] at ha
      split at ha
      · obtain rfl := hd_nx_inv ha
        have ht : (pc : Int) + off = ((((pc : Int) + off).toNat : Nat) : Int) := (Int.toNat_of_nonneg hpos).symm
        have g := go _ H locs ls hr hxs hks hP hS hl
        cases o
        · exact lv_if_eq hx hb hdec ht (fun q => by simp only [hd_br, if_pos q] at g; exact g) (fun q => by simp only [hd_br, if_neg q] at g; exact g)
        · exact lv_if_ne hx hb hdec ht (fun q => by simp only [hd_br, if_neg q] at g; exact g) (fun q => by simp only [hd_br, if_pos q] at g; exact g)
        · exact lv_if_lt hx hb hdec ht (fun q => by simp only [hd_br, if_pos q] at g; exact g) (fun q => by simp only [hd_br, if_neg q] at g; exact g)
        · exact lv_if_ge hx hb hdec ht (fun q => by simp only [hd_br, if_pos q] at g; exact g) (fun q => by simp only [hd_br, if_neg q] at g; exact g)
        · exact lv_if_gt hx hb hdec ht (fun q => by simp only [hd_br, if_pos q] at g; exact g) (fun q => by simp only [hd_br, if_neg q] at g; exact g)
        · exact lv_if_le hx hb hdec ht (fun q => by simp only [hd_br, if_pos q] at g; exact g) (fun q => by simp only [hd_br, if_neg q] at g; exact g)
      · cases ha
    · cases hres
  case if_icmp o off =>
    have hn : k9 = 3 := by simpa [hd_lenok, hd_len] using hlen
    subst hn
    simp only [hd_res] at hres
    split at hres
    next hpos =>
      simp only [Option.some.injEq, Prod.mk.injEq] at hres
      obtain ⟨rfl, rfl, rfl, -, -, -⟩ := hres
      simp only [hd_act] at ha
      split at ha
      · obtain rfl := hd_nx_inv ha
        have ht : (pc : Int) + off = ((((pc : Int) + off).toNat : Nat) : Int) := (Int.toNat_of_nonneg hpos).symm
        have g := go _ H locs ls hr hxs hks hP hS hl
        cases o
        · exact lv_icmp_eq hx hb hdec ht (fun q => by simp only [hd_br, if_pos q] at g; exact g) (fun q => by simp only [hd_br, if_neg q] at g; exact g)
        · exact lv_icmp_ne hx hb hdec ht (fun q => by simp only [hd_br, if_neg q] at g; exact g) (fun q => by simp only [hd_br, if_pos q] at g; exact g)
        · exact lv_icmp_lt hx hb hdec ht (fun q => by simp only [hd_br, if_pos q] at g; exact g) (fun q => by simp only [hd_br, if_neg q] at g; exact g)
        · exact lv_icmp_ge hx hb hdec ht (fun q => by simp only [hd_br, if_pos q] at g; exact g) (fun q => by simp only [hd_br, if_neg q] at g; exact g)
        · exact lv_icmp_gt hx hb hdec ht (fun q => by simp only [hd_br, if_pos q] at g; exact g) (fun q => by simp only [hd_br, if_neg q] at g; exact g)
        · exact lv_icmp_le hx hb hdec ht (fun q => by simp only [hd_br, if_pos q] at g; exact g) (fun q => by simp only [hd_br, if_neg q] at g; exact g)
      · cases ha
    · cases hres
  case goto off =>
    have hn : k9 = 3 := by simpa [hd_lenok, hd_len] using hlen
    subst hn
    simp only [hd_res] at hres
    split at hres
    next hpos =>
      simp only [Option.some.injEq, Prod.mk.injEq] at hres
      obtain ⟨rfl, rfl, rfl, -, -, -⟩ := hres
      obtain rfl := hd_nx_inv ha
      exact lv_goto hx hb hdec (Int.toNat_of_nonneg hpos).symm (go _ H locs ls hr hxs hks hP hS hl)
    · cases hres
  case tableswitch d lo hi offs =>
    simp only [hd_res] at hres
    split at hres
    next hpos =>
      obtain ⟨p1, p2, p3⟩ := hpos
      simp only [Option.some.injEq, Prod.mk.injEq] at hres
      obtain ⟨rfl, rfl, -, -, -, -⟩ := hres
      simp only [hd_act] at ha
      split at ha
      next x rr =>
        obtain rfl := hd_nx_inv ha
        have g := go _ H locs ls hr hxs hks hP hS hl
        by_cases q : x.toInt < lo ∨ hi < x.toInt
        · simp only [hd_sw, if_pos q] at g
          exact lv_tableOut hx hb hdec q (Int.toNat_of_nonneg p1).symm g
        · simp only [hd_sw, if_neg q] at g
          have hlt : (x.toInt - lo).toNat < offs.size := by omega
          have hgd : offs.getD (x.toInt - lo).toNat d = offs[(x.toInt - lo).toNat] := by simp [Array.getD, hlt]
          rw [hgd] at g
          exact lv_tableIn hx hb hdec (fun z => q (Or.inl z)) (fun z => q (Or.inr z)) (Array.getElem?_eq_getElem hlt) (Int.toNat_of_nonneg (p2 _ (by simp))).symm g
      · cases ha
    · cases hres
  case getfield x =>
    have hn : k9 = 3 := by simpa [hd_lenok, hd_len] using hlen
    subst hn
    obtain ⟨rfl, rfl, hr1, hr2, hw⟩ := hd_res_getf hres
    obtain ⟨k, rr, fl, rfl, hk, hlay, h9⟩ := hd_getf_inv ha
    have he : (hd_ws cI cZ cA ad M)[k]? = some (ad k, .inr (r1, hd_fl ad (M k) 0 fl)) := by rw [hd_ws_at hk, hlay]; rfl
    rcases h9 with ⟨h9, rfl⟩ | ⟨t, h9, rfl⟩
    · exact va_get hx hb hts (hd_ws_in r1 hr1) hown hK hP k he (hd_cl_at r1 hr1) r2 hr2 (hts _ hw) (fun _ q => q) (v := .int (M k r2)) (by rw [hd_fl_int fl 0 r2 h9, Nat.zero_add]) hdec (go _ H locs ls hr hxs hks hP hS hl)
    · exact va_get hx hb hts (hd_ws_in r1 hr1) hown hK hP k he (hd_cl_at r1 hr1) r2 hr2 (hts _ hw) (fun _ q => q) (v := .ref (ad t)) (hd_fl_ref fl 0 r2 t h9) hdec (go _ H locs ls hr hxs hks hP hS hl)
  case putfield x =>
    have hn : k9 = 3 := by simpa [hd_lenok, hd_len] using hlen
    subst hn
    obtain ⟨rfl, rfl, hr1, hr2, hw, hfin, hty⟩ := hd_res_putf hres
    obtain ⟨w, k, rr, fl, rfl, hk, hlay, h9, rfl⟩ := hd_putf_inv ha
    have he : (hd_ws cI cZ cA ad M)[k]? = some (ad k, .inr (r1, hd_fl ad (M k) 0 fl)) := by rw [hd_ws_at hk, hlay]; rfl
    have hE : (hd_ws cI cZ cA ad M).set k (ad k, .inr (r1, (hd_fl ad (M k) 0 fl).set r2 (.int w))) = hd_ws cI cZ cA ad (hd_set M k r2 w) := hd_ws_set hk (fun j hj => hd_set_ne hj) (by rw [hlay, hd_set_eq, hd_fl_set fl (M k) 0 r2 h9, Nat.zero_add]; rfl)
    refine va_put hx hb hts (hd_ws_in r1 hr1) (hd_ty r1) (hd_ty_ok r1 hr1) (hd_nms r1 hr1) hown hK hP (hD M) hS k he (hd_cl_at r1 hr1) r2 hr2 (hts _ hw) (fun _ q => q) hfin (ty := .int) (v := .int w) (by rw [hd_ty_ok r1 hr1 r2 hr2, hty]) rfl rfl (by rw [hd_fl_len]; exact (List.getElem?_eq_some_iff.mp h9).1) hdec (fun H1 locs1 hP1 hD1 hS1 => ?_)
    rw [hE] at hP1
    exact go _ H1 locs1 ls hr (by dsimp only; rw [hd_set_ne (by omega)]; exact hxs) (by dsimp only; rw [hd_set_ne (by omega)]; exact hks) hP1 hS1 hl
  case getstatic x =>
    have hn : k9 = 3 := by simpa [hd_lenok, hd_len] using hlen
    subst hn
    simp only [hd_res] at hres
    split at hres
    next hq =>
      obtain ⟨q1, rfl⟩ := hq
      simp only [Option.some.injEq, Prod.mk.injEq] at hres
      obtain ⟨rfl, rfl, -, -, -, -⟩ := hres
      obtain rfl := hd_nx_inv ha
      rw [q1] at hown
      exact va_getsN hx hb hro.1 hS hown (va_Nw.use rfl hro.2.2.2.2.2.2.2) (fun _ q => q) hdec (go _ H locs ls hr hxs hks hP hS hl)
    · cases hres
  case iaload =>
    have hn : k9 = 1 := by simpa [hd_lenok, hd_len] using hlen
    subst hn
    obtain ⟨rfl, rfl⟩ := hsame rfl rfl
    simp only [hd_act] at ha
    split at ha
    next i k rr =>
      obtain ⟨rfl, rfl⟩ := hd_nc_inv ha
      obtain ⟨z, hz, hin⟩ := hc
      unfold hd_arr at hz
      split at hz
      next hk =>
        cases hlay : hd_lay k with
        | inl q => rw [hlay] at hz; cases hz
        | inr q =>
          cases q with
          | inr q => rw [hlay] at hz; cases hz
          | inl q =>
            rw [hlay] at hz
            obtain rfl := Option.some.inj hz
            exact va_iald hx hb hK hP k 0 (cA := cI) (n := q) (f := M k) (by rw [hd_ws_at hk, hlay]; rfl) rfl (hd_in_vp hin) hdec (go _ H locs ls hr hxs hks hP hS hl)
      · split at hz
        next hk =>
          subst hk
          obtain rfl := Option.some.inj hz
          have g := go _ H locs ls hr hxs hks hP hS hl
          dsimp only at g
          rw [hxs] at g
          exact va_sld hx hb hro.2.2.1 hro.2.2.2.1 hro.2.2.2.2.1 hS (hd_in_vp hin) hdec g
        · split at hz
          next hk =>
            subst hk
            obtain rfl := Option.some.inj hz
            have g := go _ H locs ls hr hxs hks hP hS hl
            dsimp only at g
            rw [hks] at g
            exact va_ti hx hb hro.2.1 hS (hd_in_vp hin) rfl hdec g
          · cases hz
    · cases ha
  case iastore =>
    have hn : k9 = 1 := by simpa [hd_lenok, hd_len] using hlen
    subst hn
    obtain ⟨rfl, rfl⟩ := hsame rfl rfl
    simp only [hd_act] at ha
    split at ha
    next w i k rr =>
      obtain ⟨rfl, rfl⟩ := hd_nc_inv ha
      obtain ⟨hk, z, hlay, hin⟩ := hc
      have hE : (hd_ws cI cZ cA ad M).set k (ad k, .inl (cI, z, .inl (upd (M k) i.toNatClampNeg w))) = hd_ws cI cZ cA ad (hd_set M k i.toNatClampNeg w) := hd_ws_set hk (fun j hj => hd_set_ne hj) (by rw [hlay, hd_set_eq]; rfl)
      refine va_iast hx hb hK hP (hD M) hS k 0 (cA := cI) (n := z) (f := M k) (by rw [hd_ws_at hk, hlay]; rfl) rfl (hd_in_vp hin) hdec (fun H1 locs1 hP1 hD1 hS1 => ?_)
      rw [hE] at hP1
      exact go _ H1 locs1 ls hr (by dsimp only; rw [hd_set_ne (by omega)]; exact hxs) (by dsimp only; rw [hd_set_ne (by omega)]; exact hks) hP1 hS1 hl
    · cases ha
  case baload =>
    have hn : k9 = 1 := by simpa [hd_lenok, hd_len] using hlen
    subst hn
    obtain ⟨rfl, rfl⟩ := hsame rfl rfl
    simp only [hd_act] at ha
    split at ha
    next i k rr =>
      obtain ⟨rfl, rfl⟩ := hd_nc_inv ha
      obtain ⟨hk, z, hlay, hin⟩ := hc
      exact va_zald hx hb hK hP k 1 (cA := cZ) (n := z) (f := M k) (by rw [hd_ws_at hk, hlay]; rfl) rfl (hd_in_vp hin) hdec (go _ H locs ls hr hxs hks hP hS hl)
    · cases ha
  case bastore =>
    have hn : k9 = 1 := by simpa [hd_lenok, hd_len] using hlen
    subst hn
    obtain ⟨rfl, rfl⟩ := hsame rfl rfl
    simp only [hd_act] at ha
    split at ha
    next w i k rr =>
      obtain ⟨rfl, rfl⟩ := hd_nc_inv ha
      obtain ⟨⟨hk, z, hlay, hin⟩, hw⟩ := hc
      have hE : (hd_ws cI cZ cA ad M).set k (ad k, .inl (cZ, z, .inl (upd (M k) i.toNatClampNeg (vp_nar .boolean w)))) = hd_ws cI cZ cA ad (hd_set M k i.toNatClampNeg w) := hd_ws_set hk (fun j hj => hd_set_ne hj) (by rw [hlay, hd_set_eq, hd_zn hw]; rfl)
      refine va_zast hx hb hK hP (hD M) hS k 1 (cA := cZ) (n := z) (f := M k) (by rw [hd_ws_at hk, hlay]; rfl) rfl (hd_in_vp hin) hdec (fun H1 locs1 hP1 hD1 hS1 => ?_)
      rw [hE] at hP1
      exact go _ H1 locs1 ls hr (by dsimp only; rw [hd_set_ne (by omega)]; exact hxs) (by dsimp only; rw [hd_set_ne (by omega)]; exact hks) hP1 hS1 hl
    · cases ha
  case aaload =>
    have hn : k9 = 1 := by simpa [hd_lenok, hd_len] using hlen
    subst hn
    obtain ⟨rfl, rfl⟩ := hsame rfl rfl
    obtain ⟨i, k, rr, z, b, rfl, hk, hlay, rfl, rfl⟩ := hd_aald_inv ha
    exact hd_aald hx hb hK hP k 2 (cA := cA) (n := z) (f := fun i => some (ad (b + i))) (by rw [hd_ws_at hk, hlay]; rfl) rfl (hd_in_vp hc) hdec (go _ H locs ls hr hxs hks hP hS hl)
  case arraylength =>
    have hn : k9 = 1 := by simpa [hd_lenok, hd_len] using hlen
    subst hn
    obtain ⟨rfl, rfl⟩ := hsame rfl rfl
    simp only [hd_act] at ha
    split at ha
    · split at ha
      next hk =>
        subst hk
        obtain rfl := hd_nx_inv ha
        exact va_slen hx hb hro.2.2.1 hro.2.2.2.1 hro.2.2.2.2.1 hS hdec (go _ H locs ls hr hxs hks hP hS hl)
      · cases ha
    · cases ha
  case ireturn =>
    have hn : k9 = 1 := by simpa [hd_lenok, hd_len] using hlen
    subst hn
    obtain ⟨rfl, rfl⟩ := hsame rfl rfl
    obtain ⟨x, rfl, rfl, h9⟩ := hd_iret_inv ha hc
    exact kret (some (.int x)) M H locs pc ls hr hxs hks hP hS (Or.inr ⟨x, rfl, h9, hdec⟩)
  case return_ =>
    have hn : k9 = 1 := by simpa [hd_lenok, hd_len] using hlen
    subst hn
    obtain ⟨rfl, rfl⟩ := hsame rfl rfl
    obtain ⟨rfl, h9, rfl⟩ := hd_vret_inv ha
    exact kret none M H locs pc ls hr hxs hks hP hS (Or.inl ⟨rfl, h9, hdec⟩)
  case invokevirtual x =>
    have hn : k9 = 3 := by simpa [hd_lenok, hd_len] using hlen
    subst hn
    obtain ⟨rfl, rfl, hz, rfl, rfl, f1, f2, f3, w1, w2, w3⟩ := hd_res_callv hres
    obtain ⟨k, bs, rr, fl, rfl, hk, hbs, hrr, hall, hlay, rfl⟩ := hd_callv_inv ha
    have hmok := hd_MT_ok r1 (List.mem_range.mpr hz)
    obtain ⟨o1, o2, o3, o4, o5, o6, o7⟩ := hmok
    have hall2 : (∀ v ∈ bs, hd_cat1 v = true) ∧ rr.all hd_cat1 = true := by
      simp only [List.all_append, List.all_cons, Bool.and_eq_true] at hall
      exact ⟨fun v hv => List.all_eq_true.mp hall.1 v hv, hall.2.2⟩
    have hM := h2 r1 (.ref k :: bs.reverse) M _ hz hxs hks (fun v hv => by
      rcases List.mem_cons.mp hv with rfl | hv
      · rfl
      · exact hall2.1 v (List.mem_reverse.mp hv)) (by simp [hbs]; omega) hr
    have he : (hd_ws cI cZ cA ad M)[k]? = some (ad k, .inr (hd_ow r1, hd_fl ad (M k) 0 fl)) := by rw [hd_ws_at hk, hlay]; rfl
    have hci : hd_ow r1 < 9 := by
      by_cases q : hd_ow r1 < 9
      · exact q
      · exfalso
        obtain ⟨r9, h8, -⟩ := hP k _ he
        have : hd_cl[hd_ow r1]? = none := by simp [hd_cl]; omega
        dsimp only at h8
        rw [this] at h8
        cases h8
    have hnm : (hd_c (hd_ow r1)).1 = (hd_nm r1).cls := by rw [o2]; exact hd_own_c _ hci
    have hrecv := va_recv hK hP (hd_cl_at _ hci) he
    rw [hnm] at hrecv
    have cw : CallW R s args (hd_own (hd_ow y)) (hd_nm r1).cls x (hd_nm r1) (hd_cd r1) (hd_mx r1) (hd_rt r1) (hd_mw r1) (hd_rm r1) 0 0 (hd_np r1) := ⟨callB_of (hd_np r1) hts (hd_good r1 hz) rfl rfl rfl (hts _ (hd_tb_at o1 rfl)) (hts _ w1) ⟨o3, o4, o5⟩ ⟨Nat.le_trans f1 hfr, Nat.le_trans f2 hlo⟩, hts _ w2, hts _ w3⟩
    have hp : PreV s H (hd_nm r1).cls (ad k) (va_Pc ((.ref k :: bs.reverse).map (hd_cv ad)) (hd_W D cI cZ cA ad Ls xs M)) (bs.reverse.map (hd_cv ad)) := ⟨hd_blind, hrecv, fun U hU hW => ⟨rfl, by rw [hU]; exact hP, va_K.moved hW.alike hK, hd_ro_moved hro (fun q ⟨k, h8, h9⟩ => by rw [h9]; exact hA k h8) hS hU hW⟩⟩
    have hrun := va_runV (p := p) (l := l) (e := e) (below := below) (meth := meth) (H := H) (locs := locs) (cells := cells) (slots := slots) (g := F0 m pc ls ((bs ++ .ref k :: rr).map (hd_cv ad))) (rest := rr.map (hd_cv ad)) ⟨hx, hb, hml, hown, hts⟩ hM cw hp rfl (by simp [hbs]) hl.1 (by simp [hd_cv]) (by
      have := hd_cats (ad := ad) rr hall2.2
      refine lv_room ?_
      omega) hdec ⟨hcl, hsl⟩
    have hAA : ∀ q, hd_A ad q → A q := fun q ⟨k, h8, h9⟩ => by rw [h9]; exact hA k h8
    cases hrt : hd_rt r1 with
    | none =>
      rw [hrt] at hrun
      refine va_callv (a := #[]) hrun hS (fun q _ h8 => hAA q h8) hAA (fun u t H1 locs1 ht hvm hw hB hz1 hk1 hS1 => ?_)
      rw [ht] at hB
      exact go _ H1 locs1 ls hw.1 hw.2.1 hw.2.2 hB hS1 hl
    | some ty =>
      rw [hrt] at hrun
      refine va_calli (a := #[]) hrun hS (fun q _ h8 => hAA q h8) hAA (fun r8 u t H1 locs1 ht hvm hw hB hz1 hk1 hS1 => ?_)
      rw [ht] at hB
      exact go _ H1 locs1 ls hw.1 hw.2.1 hw.2.2 hB hS1 hl
  case invokestatic x =>
    have hn : k9 = 3 := by simpa [hd_lenok, hd_len] using hlen
    subst hn
    obtain ⟨rfl, rfl, h9⟩ := hd_res_calls hres
    rcases h9 with ⟨h3, hz, rfl, f1, f2, f3, w2, w1⟩ | ⟨f1, f2, h9⟩
    · obtain ⟨bs, rr, rfl, hbs, hrr, hall, rfl⟩ := hd_calls_inv h3 ha
      have hmok := hd_MT_ok r1 (List.mem_range.mpr hz)
      obtain ⟨o1, o2, o3, o4, o5, o6, o7⟩ := hmok
      have hall2 : (∀ v ∈ bs, hd_cat1 v = true) ∧ rr.all hd_cat1 = true := by
        simp only [List.all_append, Bool.and_eq_true] at hall
        exact ⟨fun v hv => List.all_eq_true.mp hall.1 v hv, hall.2⟩
      have hM := h2 r1 bs.reverse M _ hz hxs hks (fun v hv => hall2.1 v (List.mem_reverse.mp hv)) (by simp [hbs]; omega) hr
      have hp : PreS s H (va_Pc (bs.reverse.map (hd_cv ad)) (hd_W D cI cZ cA ad Ls xs M)) (bs.reverse.map (hd_cv ad)) := ⟨hd_blind, fun U hU hW => ⟨rfl, by rw [hU]; exact hP, va_K.moved hW.alike hK, hd_ro_moved hro (fun q ⟨k, h8, h9⟩ => by rw [h9]; exact hA k h8) hS hU hW⟩⟩
      have hsum : ((rr.map (hd_cv ad)).map fun v => v.category).sum ≤ 8 := by
        have := hd_cats (ad := ad) rr hall2.2
        omega
      have hAA : ∀ q, hd_A ad q → A q := fun q ⟨k, h8, h9⟩ => by rw [h9]; exact hA k h8
      have hrun : va_Run p l e R s m args below meth c H locs cells slots 0 0 (F0 m pc ls ((bs ++ rr).map (hd_cv ad))) (rr.map (hd_cv ad)) (hd_Q D cI cZ cA ad xs (hd_rt r1) (fun v M' => hd_Ev Ls n y (pc + 3, L, v.toList ++ rr, M') Q) (bs.reverse.map (hd_cv ad)).toArray) (hd_A ad) := by
        rcases w1 with w1 | w1
        · exact va_runS ⟨hx, hb, hml, hown, hts⟩ hM ⟨callB_of (hd_np r1) hts (hd_good r1 hz) rfl rfl rfl (hts _ (hd_tb_at o1 rfl)) (hts _ w1) ⟨o3, o4, o5⟩ ⟨Nat.le_trans f1 hfr, Nat.le_trans f2 hlo⟩, hts _ w2⟩ hp rfl (by simp [hbs]) hl.1 (by simp) (lv_room hsum) hdec ⟨hcl, hsl⟩
        · rcases w1 with ⟨w3, rfl, rfl⟩ | ⟨w3, rfl, rfl⟩
          · rw [w3] at hown
            exact va_runSN (host := "HoursDesk") ⟨hx, hb, hml, hown, hts⟩ hM ⟨va_cnB (hd_np D_hasBit) hts (hd_good _ hz) rfl rfl rfl hro.2.2.2.2.2.1 (hts _ (hd_tb_at o1 rfl)) ⟨o3, o4, o5⟩ ⟨Nat.le_trans f1 hfr, Nat.le_trans f2 hlo⟩, hts _ w2, trivial⟩ hp rfl (by simp [hbs]) hl.1 (by simp) (lv_room hsum) hdec ⟨hcl, hsl⟩
          · rw [w3] at hown
            exact va_runSN (host := "HoursDesk") ⟨hx, hb, hml, hown, hts⟩ hM ⟨va_cnB (hd_np D_within) hts (hd_good _ hz) rfl rfl rfl hro.2.2.2.2.2.2.1 (hts _ (hd_tb_at o1 rfl)) ⟨o3, o4, o5⟩ ⟨Nat.le_trans f1 hfr, Nat.le_trans f2 hlo⟩, hts _ w2, trivial⟩ hp rfl (by simp [hbs]) hl.1 (by simp) (lv_room hsum) hdec ⟨hcl, hsl⟩
      cases hrt : hd_rt r1 with
      | none =>
        rw [hrt] at hrun
        refine va_callv (a := #[]) hrun hS (fun q _ h8 => hAA q h8) hAA (fun u t H1 locs1 ht hvm hw hB hz1 hk1 hS1 => ?_)
        rw [ht] at hB
        exact go _ H1 locs1 ls hw.1 hw.2.1 hw.2.2 hB hS1 hl
      | some ty =>
        rw [hrt] at hrun
        refine va_calli (a := #[]) hrun hS (fun q _ h8 => hAA q h8) hAA (fun r8 u t H1 locs1 ht hvm hw hB hz1 hk1 hS1 => ?_)
        rw [ht] at hB
        exact go _ H1 locs1 ls hw.1 hw.2.1 hw.2.2 hB hS1 hl
    · obtain ⟨⟨j1, j2, j3⟩, j4, j5, j6, j7, j8⟩ := hd_JDK_ok
      have hml2 : c.maxLocals = ls.size := by rw [hml, hl.1]
      rcases h9 with ⟨h3, w1⟩ | ⟨h3, w1⟩ | ⟨h3, w1⟩
      · obtain ⟨nn, dp, sp, t, k, rfl, rfl, rfl⟩ := hd_copy_inv h3 ha
        obtain ⟨⟨hk, z0, hl0, b1, b2, b3⟩, ht, z1, hl1, b4, b5, b6⟩ := hc
        have hE : (hd_ws cI cZ cA ad M).set t (ad t, .inl (cI, z1, .inl (va_cpy (M k) (M t) sp.toNatClampNeg dp.toNatClampNeg nn.toNatClampNeg))) = hd_ws cI cZ cA ad (hd_cpy M k t sp.toNatClampNeg dp.toNatClampNeg nn.toNatClampNeg) := hd_ws_set ht (fun j hj => hd_cpy_ne hj) (by rw [hl1, hd_cpy_eq]; rfl)
        have e1 := hd_clamp b1
        have e2 := hd_clamp b2
        have e3 := hd_clamp b4
        refine va_copyi hx hb hml2 hown (hts _ w1) (hts _ (hd_tb_in j1 rfl)) (hts _ (hd_tb_in j2 rfl)) (hts _ (hd_tb_in j3 rfl)) hK hP (hD M) hS k t 0 0 (c0 := cI) (c1 := cI) (n0 := z0) (n1 := z1) (f := M k) (g := M t) (ty := .int) (by rw [hd_ws_at hk, hl0]; rfl) (by rw [hd_ws_at ht, hl1]; rfl) rfl rfl rfl (hd_nlt b1) (hd_nlt b4) (hd_nlt b2) (by omega) (by omega) (fun _ _ => rfl) (Nat.le_trans f1 hfr) (by
          show 0 + (nativeFrameWords "java/lang/System" "arraycopy" 5 + 11) ≤ R.locals
          have : nativeFrameWords "java/lang/System" "arraycopy" 5 = 7 := by decide
          omega) hdec (fun H1 locs1 hP1 hD1 hS1 => ?_)
        rw [hE] at hP1
        exact go _ H1 locs1 ls hr (by dsimp only; rw [hd_cpy_ne (by omega)]; exact hxs) (by dsimp only; rw [hd_cpy_ne (by omega)]; exact hks) hP1 hS1 hl
      · obtain ⟨b, a, rr, rfl, q1, q2, rfl⟩ := hd_max_inv h3 ha
        have := hd_cats (ad := ad) rr q2
        exact va_mmax hx hb hml2 hown (hts _ w1) (hts _ (hd_tb_in j4 rfl)) (hts _ (hd_tb_in j6 rfl)) (hts _ (hd_tb_in j7 rfl)) (Nat.le_trans f1 hfr) (by omega) hcl hsl hdec (go _ H locs ls hr hxs hks hP hS hl)
      · obtain ⟨b, a, rr, rfl, q1, q2, rfl⟩ := hd_min_inv h3 ha
        have := hd_cats (ad := ad) rr q2
        exact va_mmin hx hb hml2 hown (hts _ w1) (hts _ (hd_tb_in j5 rfl)) (hts _ (hd_tb_in j6 rfl)) (hts _ (hd_tb_in j8 rfl)) (Nat.le_trans f1 hfr) (by omega) hcl hsl hdec (go _ H locs ls hr hxs hks hP hS hl)
  all_goals (exfalso; rw [hsame rfl rfl |>.1] at ha; simp [hd_act] at ha)
end
section
/-! THE CONTRACT OF EACH METHOD out of a run of the pure machine -/
set_option maxHeartbeats 4000000 in
theorem hd_S2_of {l : Launch} {D : va_G} {cI cZ cA : ClassId} {ad : Nat → Nat} {Ls : Nat} {xs : Nat → Int32} {n : Nat} (h1 : hd_S1 l D cI cZ cA ad Ls xs n) : hd_S2 l D cI cZ cA ad Ls xs n := by
  intro z as M Q hz hxs hks hcat hlen hEv
  obtain ⟨o1, o2, o3, o4, o5, o6, o7⟩ := hd_MT_ok z (List.mem_range.mpr hz)
  refine Met.ofW (cc := hd_cd z) (maxL := hd_mx z) (ret := hd_rt z) o6 rfl ?_
  intro p e s m args below meth c s₁ B hml hv
  obtain ⟨rfl, hP, hK, hro⟩ := hv
  have hx := B.exec
  have hb := B.bytes
  have hr := B.returns
  have hlocks := B.notSynchronized
  have hts0 := atoms_spec (ws := hd_mw z) B.pre
  have hts : ∀ w ∈ hd_tb, w.before ((as.map (hd_cv ad)).toArray) s = true := fun w hw => hts0 w (List.mem_cons_of_mem _ hw)
  have hown : s.vm.findClass (hd_own (hd_ow z)) = some m.cls := by
    rw [← o2]
    exact findClass_of_methodNamed B.named
  rw [lg_entry_eq]
  have hl := hd_has_entry (ad := ad) (y := z) hcat hlen
  refine h1 p e (hd_rm z) s m _ below meth c z (hd_A ad) 0 0 (MQ below (hd_Q D cI cZ cA ad xs (hd_rt z) Q) ((as.map (hd_cv ad)).toArray) s 0 0 (hd_A ad)) Q ⟨hx, hb, hml, hown, hts, hK, hro, fun k hk => ⟨k, hk, rfl⟩, Nat.le_refl _, Nat.le_refl _, Nat.le_refl _, Nat.le_refl _⟩ ?_ (0, hd_entry z as, [], M) s.heap [] _ hEv hxs hks hP va_S.rf hl
  intro v M' H' locs' pc' ls' hQ hx' hk' hP' hS' hend
  rcases hend with ⟨rfl, hrt, hdec⟩ | ⟨x, rfl, hrt, hdec⟩
  · rw [hrt] at hr ⊢
    exact W.vret hx hb hr (fun t ht hW => ⟨⟨M', rfl, ⟨hQ, hx', hk'⟩, by dsimp only; rw [ht]; exact hP'⟩, hS'.F ht⟩) hS'.2.2 hdec hlocks
  · rcases hrt with hrt | ⟨hrt, h01⟩
    · rw [hrt] at hr ⊢
      exact W.iret hx hb hr (fun t ht hW => ⟨⟨x, M', rfl, ⟨hQ, hx', hk'⟩, by dsimp only; rw [ht]; exact hP'⟩, hS'.F ht⟩) hS'.2.2 hdec hlocks
    · rw [hrt] at hr ⊢
      exact W.zret hx hb hr (hd_zn2 h01) (fun t ht hW => ⟨⟨x, M', rfl, ⟨hQ, hx', hk'⟩, by dsimp only; rw [ht]; exact hP'⟩, hS'.F ht⟩) hS'.2.2 hdec hlocks
theorem hd_S1_all {l : Launch} {D : va_G} {cI cZ cA : ClassId} {ad : Nat → Nat} {Ls : Nat} {xs : Nat → Int32} (hinj : ∀ i j, i < 78 → j < 78 → ad i = ad j → i = j) : ∀ n, hd_S1 l D cI cZ cA ad Ls xs n
  | 0 => fun _ _ _ _ _ _ _ _ _ _ _ _ _ _ _ _ _ _ _ _ _ h => h.elim
  | n + 1 => hd_step hinj (hd_S1_all hinj n) (hd_S2_of (hd_S1_all hinj n))
end
