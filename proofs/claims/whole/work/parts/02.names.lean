/-! NAMES: printed by wip/whole/gen1.py out of the program's own tables -/
def RX0 : String := "AccessLattice$Grounds"
def TX0 : u_T := fun k => match k with
  | 0 => ("AccessLattice$Grounds", "kind", "[I", true)
  | 1 => ("AccessLattice$Grounds", "number", "[I", true)
  | _ => ("AccessLattice$Grounds", "size", "I", false)
def tyX0 : Nat → FieldType := fun k => match k with
  | 0 => .array .int
  | 1 => .array .int
  | _ => .int
def RX1 : String := "AccessLattice$Loans"
def TX1 : u_T := fun k => match k with
  | 0 => ("AccessLattice$Loans", "from", "[I", true)
  | 1 => ("AccessLattice$Loans", "to", "[I", true)
  | 2 => ("AccessLattice$Loans", "role", "[I", true)
  | 3 => ("AccessLattice$Loans", "until", "[I", true)
  | 4 => ("AccessLattice$Loans", "further", "[I", true)
  | 5 => ("AccessLattice$Loans", "source", "[I", true)
  | 6 => ("AccessLattice$Loans", "taken", "J", false)
  | _ => ("AccessLattice$Loans", "count", "I", false)
def tyX1 : Nat → FieldType := fun k => match k with
  | 0 => .array .int
  | 1 => .array .int
  | 2 => .array .int
  | 3 => .array .int
  | 4 => .array .int
  | 5 => .array .int
  | 6 => .long
  | _ => .int
def RX2 : String := "AccessLattice$Reader"
def TX2 : u_T := fun k => match k with
  | 0 => ("AccessLattice$Reader", "code", "[I", true)
  | 1 => ("AccessLattice$Reader", "waiting", "[I", true)
  | 2 => ("AccessLattice$Reader", "size", "I", false)
  | 3 => ("AccessLattice$Reader", "top", "I", false)
  | 4 => ("AccessLattice$Reader", "open", "I", false)
  | 5 => ("AccessLattice$Reader", "place", "I", false)
  | 6 => ("AccessLattice$Reader", "fault", "I", false)
  | _ => ("AccessLattice$Reader", "due", "Z", false)
def tyX2 : Nat → FieldType := fun k => match k with
  | 0 => .array .int
  | 1 => .array .int
  | 2 => .int
  | 3 => .int
  | 4 => .int
  | 5 => .int
  | 6 => .int
  | _ => .boolean
def RX3 : String := "AccessLattice$Roles"
def TX3 : u_T := fun k => match k with
  | 0 => ("AccessLattice$Roles", "down", "[I", true)
  | 1 => ("AccessLattice$Roles", "up", "[I", true)
  | 2 => ("AccessLattice$Roles", "reach", "[I", true)
  | 3 => ("AccessLattice$Roles", "rise", "[I", true)
  | 4 => ("AccessLattice$Roles", "distance", "[I", true)
  | 5 => ("AccessLattice$Roles", "walks", "[I", true)
  | 6 => ("AccessLattice$Roles", "longer", "[I", true)
  | _ => ("AccessLattice$Roles", "pairs", "I", false)
def tyX3 : Nat → FieldType := fun k => match k with
  | 0 => .array .int
  | 1 => .array .int
  | 2 => .array .int
  | 3 => .array .int
  | 4 => .array .int
  | 5 => .array .int
  | 6 => .array .int
  | _ => .int
def RX4 : String := "AccessLattice$Rules"
def TX4 : u_T := fun k => match k with
  | 0 => ("AccessLattice$Rules", "role", "[I", true)
  | 1 => ("AccessLattice$Rules", "acts", "[I", true)
  | 2 => ("AccessLattice$Rules", "thing", "[I", true)
  | 3 => ("AccessLattice$Rules", "from", "[I", true)
  | 4 => ("AccessLattice$Rules", "to", "[I", true)
  | 5 => ("AccessLattice$Rules", "uses", "[I", true)
  | 6 => ("AccessLattice$Rules", "size", "[I", true)
  | 7 => ("AccessLattice$Rules", "codes", "[I", true)
  | 8 => ("AccessLattice$Rules", "there", "I", false)
  | 9 => ("AccessLattice$Rules", "denies", "I", false)
  | 10 => ("AccessLattice$Rules", "deep", "I", false)
  | _ => ("AccessLattice$Rules", "count", "I", false)
def tyX4 : Nat → FieldType := fun k => match k with
  | 0 => .array .int
  | 1 => .array .int
  | 2 => .array .int
  | 3 => .array .int
  | 4 => .array .int
  | 5 => .array .int
  | 6 => .array .int
  | 7 => .array .int
  | 8 => .int
  | 9 => .int
  | 10 => .int
  | _ => .int
def RX5 : String := "AccessLattice$Search"
def TX5 : u_T := fun k => match k with
  | 0 => ("AccessLattice$Search", "options", "[I", true)
  | 1 => ("AccessLattice$Search", "picked", "[I", true)
  | 2 => ("AccessLattice$Search", "size", "I", false)
  | 3 => ("AccessLattice$Search", "turned", "I", false)
  | 4 => ("AccessLattice$Search", "lost", "J", false)
  | _ => ("AccessLattice$Search", "gone", "I", false)
def tyX5 : Nat → FieldType := fun k => match k with
  | 0 => .array .int
  | 1 => .array .int
  | 2 => .int
  | 3 => .int
  | 4 => .long
  | _ => .int
def RX6 : String := "AccessLattice$State"
def TX6 : u_T := fun k => match k with
  | 0 => ("AccessLattice$State", "roles", "LAccessLattice$Roles;", true)
  | 1 => ("AccessLattice$State", "loans", "LAccessLattice$Loans;", true)
  | 2 => ("AccessLattice$State", "rules", "LAccessLattice$Rules;", true)
  | 3 => ("AccessLattice$State", "userAttributes", "[I", true)
  | 4 => ("AccessLattice$State", "thingAttributes", "[I", true)
  | 5 => ("AccessLattice$State", "parent", "[I", true)
  | 6 => ("AccessLattice$State", "assigned", "[I", true)
  | 7 => ("AccessLattice$State", "barred", "[I", true)
  | 8 => ("AccessLattice$State", "rows", "[I", true)
  | 9 => ("AccessLattice$State", "tally", "[I", true)
  | 10 => ("AccessLattice$State", "barredPairs", "I", false)
  | 11 => ("AccessLattice$State", "booked", "I", false)
  | _ => ("AccessLattice$State", "now", "I", false)
def tyX6 : Nat → FieldType := fun k => match k with
  | 0 => .object "AccessLattice$Roles"
  | 1 => .object "AccessLattice$Loans"
  | 2 => .object "AccessLattice$Rules"
  | 3 => .array .int
  | 4 => .array .int
  | 5 => .array .int
  | 6 => .array .int
  | 7 => .array .int
  | 8 => .array .int
  | 9 => .array .int
  | 10 => .int
  | 11 => .int
  | _ => .int
def RX7 : String := "AccessLattice$Tape"
def TX7 : u_T := fun k => match k with
  | 0 => ("AccessLattice$Tape", "bytes", "[I", true)
  | _ => ("AccessLattice$Tape", "length", "I", false)
def tyX7 : Nat → FieldType := fun k => match k with
  | 0 => .array .int
  | _ => .int
def RX8 : String := "AccessLattice$View"
def TX8 : u_T := fun k => match k with
  | 0 => ("AccessLattice$View", "state", "LAccessLattice$State;", true)
  | 1 => ("AccessLattice$View", "owned", "[I", true)
  | 2 => ("AccessLattice$View", "held", "[I", true)
  | 3 => ("AccessLattice$View", "givens", "[I", true)
  | 4 => ("AccessLattice$View", "stack", "[I", true)
  | 5 => ("AccessLattice$View", "standing", "J", false)
  | 6 => ("AccessLattice$View", "timely", "I", false)
  | _ => ("AccessLattice$View", "tick", "I", false)
def tyX8 : Nat → FieldType := fun k => match k with
  | 0 => .object "AccessLattice$State"
  | 1 => .array .int
  | 2 => .array .int
  | 3 => .array .int
  | 4 => .array .int
  | 5 => .long
  | 6 => .int
  | _ => .int
def RX9 : String := "AccessLattice"
def TX9 : u_T := fun k => match k with
  | 0 => ("AccessLattice", "live", "LAccessLattice$View;", true)
  | 1 => ("AccessLattice", "kept", "LAccessLattice$View;", true)
  | 2 => ("AccessLattice", "state", "LAccessLattice$State;", true)
  | 3 => ("AccessLattice", "tape", "LAccessLattice$Tape;", true)
  | 4 => ("AccessLattice", "reader", "LAccessLattice$Reader;", true)
  | 5 => ("AccessLattice", "search", "LAccessLattice$Search;", true)
  | 6 => ("AccessLattice", "grounds", "LAccessLattice$Grounds;", true)
  | 7 => ("AccessLattice", "route", "[I", true)
  | 8 => ("AccessLattice", "starts", "[I", true)
  | _ => ("AccessLattice", "imaged", "Z", false)
def tyX9 : Nat → FieldType := fun k => match k with
  | 0 => .object "AccessLattice$View"
  | 1 => .object "AccessLattice$View"
  | 2 => .object "AccessLattice$State"
  | 3 => .object "AccessLattice$Tape"
  | 4 => .object "AccessLattice$Reader"
  | 5 => .object "AccessLattice$Search"
  | 6 => .object "AccessLattice$Grounds"
  | 7 => .array .int
  | 8 => .array .int
  | _ => .boolean
def RX10 : String := "AccessLatticeModel"
def TX10 : u_T := fun k => match k with
  | 0 => ("AccessLatticeModel", "s", "[I", true)
  | 1 => ("AccessLatticeModel", "image", "[I", true)
  | 2 => ("AccessLatticeModel", "mind", "[I", true)
  | 3 => ("AccessLatticeModel", "isKept", "Z", false)
  | 4 => ("AccessLatticeModel", "down", "[I", true)
  | 5 => ("AccessLatticeModel", "under", "[I", true)
  | 6 => ("AccessLatticeModel", "held", "[I", true)
  | 7 => ("AccessLatticeModel", "far", "[I", true)
  | 8 => ("AccessLatticeModel", "stands", "[Z", true)
  | 9 => ("AccessLatticeModel", "tape", "[I", true)
  | 10 => ("AccessLatticeModel", "mark", "[I", true)
  | 11 => ("AccessLatticeModel", "letters", "I", false)
  | 12 => ("AccessLatticeModel", "at", "I", false)
  | 13 => ("AccessLatticeModel", "fault", "I", false)
  | 14 => ("AccessLatticeModel", "open", "I", false)
  | 15 => ("AccessLatticeModel", "end", "I", false)
  | 16 => ("AccessLatticeModel", "reader", "I", false)
  | 17 => ("AccessLatticeModel", "asker", "I", false)
  | 18 => ("AccessLatticeModel", "act", "I", false)
  | 19 => ("AccessLatticeModel", "asked", "I", false)
  | 20 => ("AccessLatticeModel", "deep", "I", false)
  | 21 => ("AccessLatticeModel", "sort", "[I", true)
  | 22 => ("AccessLatticeModel", "ground", "[I", true)
  | 23 => ("AccessLatticeModel", "grounds", "I", false)
  | 24 => ("AccessLatticeModel", "decider", "I", false)
  | 25 => ("AccessLatticeModel", "candidate", "[I", true)
  | 26 => ("AccessLatticeModel", "chosen", "[I", true)
  | 27 => ("AccessLatticeModel", "candidates", "I", false)
  | 28 => ("AccessLatticeModel", "fitting", "I", false)
  | 29 => ("AccessLatticeModel", "gone", "I", false)
  | 30 => ("AccessLatticeModel", "was", "[I", true)
  | _ => ("AccessLatticeModel", "shown", "[I", true)
def tyX10 : Nat → FieldType := fun k => match k with
  | 0 => .array .int
  | 1 => .array .int
  | 2 => .array .int
  | 3 => .boolean
  | 4 => .array .int
  | 5 => .array .int
  | 6 => .array .int
  | 7 => .array .int
  | 8 => .array .boolean
  | 9 => .array .int
  | 10 => .array .int
  | 11 => .int
  | 12 => .int
  | 13 => .int
  | 14 => .int
  | 15 => .int
  | 16 => .int
  | 17 => .int
  | 18 => .int
  | 19 => .int
  | 20 => .int
  | 21 => .array .int
  | 22 => .array .int
  | 23 => .int
  | 24 => .int
  | 25 => .array .int
  | 26 => .array .int
  | 27 => .int
  | 28 => .int
  | 29 => .int
  | 30 => .array .int
  | _ => .array .int
def am_cls : List vw_C := [(RX0, TX0, 3), (RX1, TX1, 8), (RX2, TX2, 8), (RX3, TX3, 8), (RX4, TX4, 12), (RX5, TX5, 6), (RX6, TX6, 13), (RX7, TX7, 2), (RX8, TX8, 8), (RX9, TX9, 10), (RX10, TX10, 32)]
/-- the kinds of the fields: 0 int, 1 boolean, 2 long, 3 reference -/
def am_ftab : List (List Nat) := [[3, 3, 0], [3, 3, 3, 3, 3, 3, 2, 0], [3, 3, 0, 0, 0, 0, 0, 1], [3, 3, 3, 3, 3, 3, 3, 0], [3, 3, 3, 3, 3, 3, 3, 3, 0, 0, 0, 0], [3, 3, 0, 0, 2, 0], [3, 3, 3, 3, 3, 3, 3, 3, 3, 3, 0, 0, 0], [3, 0], [3, 3, 3, 3, 3, 2, 0, 0], [3, 3, 3, 3, 3, 3, 3, 3, 3, 1], [3, 3, 3, 1, 3, 3, 3, 3, 3, 3, 3, 0, 0, 0, 0, 0, 0, 0, 0, 0, 0, 3, 3, 0, 0, 3, 3, 0, 0, 0, 3, 3]]
def am_tbl : List Cond := lw_tbl.filter goodWord
theorem am_in {w : Cond} (h : w ∈ lw_tbl) (g : goodWord w = true) : w ∈ am_tbl := List.mem_filter.mpr ⟨h, g⟩
theorem am_in1 {w : Cond} {k : Nat} (h : tables_1_1[k]? = some w) (g : goodWord w = true) : w ∈ am_tbl := am_in (List.mem_append_right _ (List.mem_append_left _ (List.mem_of_getElem? h))) g
theorem am_in2 {w : Cond} {k : Nat} (h : tables_1_2[k]? = some w) (g : goodWord w = true) : w ∈ am_tbl := am_in (List.mem_append_right _ (List.mem_append_right _ (List.mem_append_left _ (List.mem_of_getElem? h)))) g
theorem am_in3 {w : Cond} {k : Nat} (h : tables_1_3[k]? = some w) (g : goodWord w = true) : w ∈ am_tbl := am_in (List.mem_append_right _ (List.mem_append_right _ (List.mem_append_right _ (List.mem_append_left _ (List.mem_of_getElem? h))))) g
theorem am_in4 {w : Cond} {k : Nat} (h : tables_1_4[k]? = some w) (g : goodWord w = true) : w ∈ am_tbl := am_in (List.mem_append_right _ (List.mem_append_right _ (List.mem_append_right _ (List.mem_append_right _ (List.mem_append_left _ (List.mem_of_getElem? h)))))) g
theorem am_in5 {w : Cond} {k : Nat} (h : tables_1_5[k]? = some w) (g : goodWord w = true) : w ∈ am_tbl := am_in (List.mem_append_right _ (List.mem_append_right _ (List.mem_append_right _ (List.mem_append_right _ (List.mem_append_right _ (List.mem_append_left _ (List.mem_of_getElem? h))))))) g
theorem am_in6 {w : Cond} {k : Nat} (h : tables_1_6[k]? = some w) (g : goodWord w = true) : w ∈ am_tbl := am_in (List.mem_append_right _ (List.mem_append_right _ (List.mem_append_right _ (List.mem_append_right _ (List.mem_append_right _ (List.mem_append_right _ (List.mem_append_left _ (List.mem_of_getElem? h)))))))) g
theorem am_in7 {w : Cond} {k : Nat} (h : tables_1_7[k]? = some w) (g : goodWord w = true) : w ∈ am_tbl := am_in (List.mem_append_right _ (List.mem_append_right _ (List.mem_append_right _ (List.mem_append_right _ (List.mem_append_right _ (List.mem_append_right _ (List.mem_append_right _ (List.mem_of_getElem? h)))))))) g
theorem am_inS {q : MethodName × Nat} {k : Nat} (h : lw_privs[k]? = some q) : Cond.selects q.1.cls q.1 q.1 ∈ am_tbl := am_in (List.mem_append_left _ (List.mem_map.mpr ⟨q, List.mem_of_getElem? h, rfl⟩)) rfl
/-- links to nest mates, which no list of good words holds: (class, place, method, host) -/
def am_nsl : List (String × Nat × MethodName × String) := [("AccessLattice", 11, ⟨"AccessLattice$View", "<init>", "()V"⟩, "AccessLattice"), ("AccessLattice$Roles", 40, ⟨"AccessLattice", "has", "(II)Z"⟩, "AccessLattice"), ("AccessLattice$State", 20, ⟨"AccessLattice$Loans", "<init>", "()V"⟩, "AccessLattice"), ("AccessLattice$State", 27, ⟨"AccessLattice$Rules", "<init>", "()V"⟩, "AccessLattice"), ("AccessLattice", 26, ⟨"AccessLattice$Tape", "<init>", "()V"⟩, "AccessLattice"), ("AccessLattice", 33, ⟨"AccessLattice$Reader", "<init>", "()V"⟩, "AccessLattice"), ("AccessLattice", 40, ⟨"AccessLattice$Search", "<init>", "()V"⟩, "AccessLattice"), ("AccessLattice", 47, ⟨"AccessLattice$Grounds", "<init>", "()V"⟩, "AccessLattice"), ("AccessLattice$Rules", 63, ⟨"AccessLattice", "has", "(II)Z"⟩, "AccessLattice"), ("AccessLattice$View", 98, ⟨"AccessLattice", "has", "(II)Z"⟩, "AccessLattice"), ("AccessLattice$View", 102, ⟨"AccessLattice", "hasLong", "(JI)Z"⟩, "AccessLattice"), ("AccessLattice$State", 64, ⟨"AccessLattice", "has", "(II)Z"⟩, "AccessLattice"), ("AccessLattice$Reader", 77, ⟨"AccessLattice", "between", "(III)Z"⟩, "AccessLattice"), ("AccessLattice$Tape", 23, ⟨"AccessLattice", "between", "(III)Z"⟩, "AccessLattice"), ("AccessLattice$Reader", 111, ⟨"AccessLattice", "isRole", "(I)Z"⟩, "AccessLattice"), ("AccessLattice$View", 188, ⟨"AccessLattice", "between", "(III)Z"⟩, "AccessLattice"), ("AccessLattice$Rules", 71, ⟨"AccessLattice", "between", "(III)Z"⟩, "AccessLattice"), ("AccessLattice$Search", 78, ⟨"AccessLattice", "hasLong", "(JI)Z"⟩, "AccessLattice"), ("AccessLattice$Search", 82, ⟨"AccessLattice", "between", "(III)Z"⟩, "AccessLattice")]
def am_nst : List Cond := am_nsl.map fun q => Cond.methodLinkNest q.1 q.2.1 q.2.2.1 q.2.2.2
theorem am_nst_in : ∀ w ∈ am_nst, w ∈ lw_tbl := by
  intro w hw
  obtain ⟨q, hq, rfl⟩ := List.mem_map.mp hw
  have key : ∀ q ∈ am_nsl, Cond.methodLinkNest q.1 q.2.1 q.2.2.1 q.2.2.2 ∈ lw_tbl := List.forall_mem_cons.mpr ⟨(List.mem_append_right _ (List.mem_append_left _ (List.mem_of_getElem? (l := tables_1_1) (i := 26) rfl))), List.forall_mem_cons.mpr ⟨(List.mem_append_right _ (List.mem_append_left _ (List.mem_of_getElem? (l := tables_1_1) (i := 46) rfl))), List.forall_mem_cons.mpr ⟨(List.mem_append_right _ (List.mem_append_left _ (List.mem_of_getElem? (l := tables_1_1) (i := 83) rfl))), List.forall_mem_cons.mpr ⟨(List.mem_append_right _ (List.mem_append_left _ (List.mem_of_getElem? (l := tables_1_1) (i := 130) rfl))), List.forall_mem_cons.mpr ⟨(List.mem_append_right _ (List.mem_append_right _ (List.mem_append_left _ (List.mem_of_getElem? (l := tables_1_2) (i := 44) rfl)))), List.forall_mem_cons.mpr ⟨(List.mem_append_right _ (List.mem_append_right _ (List.mem_append_left _ (List.mem_of_getElem? (l := tables_1_2) (i := 60) rfl)))), List.forall_mem_cons.mpr ⟨(List.mem_append_right _ (List.mem_append_right _ (List.mem_append_left _ (List.mem_of_getElem? (l := tables_1_2) (i := 93) rfl)))), List.forall_mem_cons.mpr ⟨(List.mem_append_right _ (List.mem_append_right _ (List.mem_append_left _ (List.mem_of_getElem? (l := tables_1_2) (i := 118) rfl)))), List.forall_mem_cons.mpr ⟨(List.mem_append_right _ (List.mem_append_right _ (List.mem_append_left _ (List.mem_of_getElem? (l := tables_1_2) (i := 223) rfl)))), List.forall_mem_cons.mpr ⟨(List.mem_append_right _ (List.mem_append_right _ (List.mem_append_left _ (List.mem_of_getElem? (l := tables_1_2) (i := 236) rfl)))), List.forall_mem_cons.mpr ⟨(List.mem_append_right _ (List.mem_append_right _ (List.mem_append_left _ (List.mem_of_getElem? (l := tables_1_2) (i := 237) rfl)))), List.forall_mem_cons.mpr ⟨(List.mem_append_right _ (List.mem_append_right _ (List.mem_append_right _ (List.mem_append_left _ (List.mem_of_getElem? (l := tables_1_3) (i := 4) rfl))))), List.forall_mem_cons.mpr ⟨(List.mem_append_right _ (List.mem_append_right _ (List.mem_append_right _ (List.mem_append_left _ (List.mem_of_getElem? (l := tables_1_3) (i := 103) rfl))))), List.forall_mem_cons.mpr ⟨(List.mem_append_right _ (List.mem_append_right _ (List.mem_append_right _ (List.mem_append_left _ (List.mem_of_getElem? (l := tables_1_3) (i := 129) rfl))))), List.forall_mem_cons.mpr ⟨(List.mem_append_right _ (List.mem_append_right _ (List.mem_append_right _ (List.mem_append_left _ (List.mem_of_getElem? (l := tables_1_3) (i := 192) rfl))))), List.forall_mem_cons.mpr ⟨(List.mem_append_right _ (List.mem_append_right _ (List.mem_append_right _ (List.mem_append_left _ (List.mem_of_getElem? (l := tables_1_3) (i := 229) rfl))))), List.forall_mem_cons.mpr ⟨(List.mem_append_right _ (List.mem_append_right _ (List.mem_append_right _ (List.mem_append_right _ (List.mem_append_left _ (List.mem_of_getElem? (l := tables_1_4) (i := 37) rfl)))))), List.forall_mem_cons.mpr ⟨(List.mem_append_right _ (List.mem_append_right _ (List.mem_append_right _ (List.mem_append_right _ (List.mem_append_left _ (List.mem_of_getElem? (l := tables_1_4) (i := 85) rfl)))))), List.forall_mem_cons.mpr ⟨(List.mem_append_right _ (List.mem_append_right _ (List.mem_append_right _ (List.mem_append_right _ (List.mem_append_left _ (List.mem_of_getElem? (l := tables_1_4) (i := 103) rfl)))))), fun _ h => absurd h List.not_mem_nil⟩⟩⟩⟩⟩⟩⟩⟩⟩⟩⟩⟩⟩⟩⟩⟩⟩⟩⟩
  exact key q hq
/-- what a method is: its name, bytes, locals, answer -/
abbrev am_I : Type := MethodName × ByteArray × Nat × Option FieldType
def am_infos_0 : List am_I := [(⟨"AccessLattice", "<init>", "()V"⟩, prog_1_method_1_code, 1, none), (⟨"AccessLattice$View", "<init>", "()V"⟩, prog_10_method_1_code, 1, none), (⟨"AccessLattice$State", "<init>", "()V"⟩, prog_8_method_1_code, 2, none), (⟨"AccessLattice$Roles", "<init>", "()V"⟩, prog_5_method_1_code, 1, none), (⟨"AccessLattice$Roles", "close", "()V"⟩, prog_5_method_3_code, 3, none), (⟨"AccessLattice", "has", "(II)Z"⟩, prog_1_method_61_code, 2, (some .boolean)), (⟨"AccessLattice$Loans", "<init>", "()V"⟩, prog_3_method_1_code, 1, none), (⟨"AccessLattice$Rules", "<init>", "()V"⟩, prog_6_method_1_code, 1, none), (⟨"AccessLattice$Tape", "<init>", "()V"⟩, prog_9_method_1_code, 1, none), (⟨"AccessLattice$Reader", "<init>", "()V"⟩, prog_4_method_1_code, 1, none), (⟨"AccessLattice$Search", "<init>", "()V"⟩, prog_7_method_1_code, 1, none), (⟨"AccessLattice$Grounds", "<init>", "()V"⟩, prog_2_method_1_code, 1, none), (⟨"AccessLattice", "attribute", "(IIII)I"⟩, prog_1_method_2_code, 8, (some .int)), (⟨"AccessLattice", "within01", "(I)Z"⟩, prog_1_method_53_code, 1, (some .boolean)), (⟨"AccessLattice", "isThing", "(I)Z"⟩, prog_1_method_55_code, 1, (some .boolean)), (⟨"AccessLattice", "between", "(III)Z"⟩, prog_1_method_52_code, 3, (some .boolean)), (⟨"AccessLattice", "within", "(II)I"⟩, prog_1_method_3_code, 4, (some .int)), (⟨"AccessLattice$State", "stepsUp", "(II)I"⟩, prog_8_method_2_code, 5, (some .int)), (⟨"AccessLattice", "senior", "(III)I"⟩, prog_1_method_4_code, 4, (some .int)), (⟨"AccessLattice", "isRole", "(I)Z"⟩, prog_1_method_56_code, 1, (some .boolean)), (⟨"AccessLattice", "addSenior", "(II)I"⟩, prog_1_method_5_code, 4, (some .int)), (⟨"AccessLattice$Roles", "put", "(IIZ)V"⟩, prog_5_method_2_code, 4, none), (⟨"AccessLattice$View", "someBarred", "()Z"⟩, prog_10_method_7_code, 2, (some .boolean)), (⟨"AccessLattice$View", "settle", "(I)V"⟩, prog_10_method_2_code, 3, none), (⟨"AccessLattice$Roles", "spread", "(I)I"⟩, prog_5_method_4_code, 4, (some .int)), (⟨"AccessLattice$View", "turnTo", "(I)V"⟩, prog_10_method_3_code, 2, none), (⟨"AccessLattice$Rules", "timely", "(I)I"⟩, prog_6_method_5_code, 4, (some .int)), (⟨"AccessLattice$Rules", "end", "(I)J"⟩, prog_6_method_4_code, 2, (some .long)), (⟨"AccessLattice$View", "settleLoans", "(J)V"⟩, prog_10_method_5_code, 9, none), (⟨"AccessLattice", "hasLong", "(JI)Z"⟩, prog_1_method_62_code, 3, (some .boolean)), (⟨"AccessLattice$State", "isBarred", "(I)Z"⟩, prog_8_method_4_code, 3, (some .boolean)), (⟨"AccessLattice", "assign", "(III)I"⟩, prog_1_method_6_code, 5, (some .int)), (⟨"AccessLattice", "isUser", "(I)Z"⟩, prog_1_method_54_code, 1, (some .boolean)), (⟨"java/lang/Integer", "bitCount", "(I)I"⟩, prog_13_method_49_code, 1, (some .int)), (⟨"AccessLattice", "exclude", "(III)I"⟩, prog_1_method_7_code, 4, (some .int)), (⟨"AccessLattice$State", "toggleBarred", "(II)V"⟩, prog_8_method_3_code, 3, none), (⟨"AccessLattice", "step", "(I)I"⟩, prog_1_method_8_code, 2, (some .int)), (⟨"AccessLattice", "lend", "(IIIII)I"⟩, prog_1_method_9_code, 9, (some .int)), (⟨"AccessLattice$View", "sourceFor", "(III)I"⟩, prog_10_method_8_code, 6, (some .int)), (⟨"AccessLattice$View", "isStanding", "(I)Z"⟩, prog_10_method_6_code, 2, (some .boolean)), (⟨"AccessLattice", "takeBack", "(I)I"⟩, prog_1_method_10_code, 3, (some .int)), (⟨"AccessLattice", "isLoan", "(I)Z"⟩, prog_1_method_59_code, 2, (some .boolean)), (⟨"java/lang/Long", "bitCount", "(J)I"⟩, prog_14_method_50_code, 2, (some .int)), (⟨"AccessLattice", "loan", "(II)I"⟩, prog_1_method_11_code, 4, (some .int)), (⟨"AccessLattice", "holds", "(II)I"⟩, prog_1_method_12_code, 3, (some .int)), (⟨"AccessLattice", "feed", "(I)I"⟩, prog_1_method_13_code, 2, (some .int)), (⟨"AccessLattice", "rule", "(IIIII)I"⟩, prog_1_method_14_code, 12, (some .int)), (⟨"AccessLattice$Reader", "readCondition", "(LAccessLattice$Tape;)I"⟩, prog_4_method_3_code, 3, (some .int)), (⟨"AccessLattice$Reader", "start", "()V"⟩, prog_4_method_2_code, 1, none), (⟨"AccessLattice$Reader", "readOperand", "(LAccessLattice$Tape;)V"⟩, prog_4_method_4_code, 3, none), (⟨"AccessLattice$Tape", "at", "(I)I"⟩, prog_9_method_2_code, 2, (some .int)), (⟨"AccessLattice$Reader", "openWith", "(I)V"⟩, prog_4_method_5_code, 2, none), (⟨"AccessLattice$Reader", "push", "(I)V"⟩, prog_4_method_14_code, 2, none), (⟨"AccessLattice$Reader", "readAttribute", "(II)V"⟩, prog_4_method_6_code, 3, none), (⟨"AccessLattice$Reader", "takeOperand", "(II)V"⟩, prog_4_method_8_code, 3, none), (⟨"AccessLattice$Reader", "emit", "(I)V"⟩, prog_4_method_15_code, 2, none), (⟨"AccessLattice$Reader", "endOperand", "()V"⟩, prog_4_method_9_code, 2, none), (⟨"AccessLattice$Reader", "topMark", "()I"⟩, prog_4_method_13_code, 1, (some .int)), (⟨"AccessLattice$Reader", "readNumber", "(LAccessLattice$Tape;)V"⟩, prog_4_method_7_code, 5, none), (⟨"AccessLattice$Tape", "isFigure", "(I)Z"⟩, prog_9_method_3_code, 2, (some .boolean)), (⟨"AccessLattice$Reader", "readOperator", "(I)V"⟩, prog_4_method_10_code, 3, none), (⟨"AccessLattice$Reader", "rankOf", "(I)I"⟩, prog_4_method_12_code, 1, (some .int)), (⟨"AccessLattice$Reader", "popDownTo", "(I)V"⟩, prog_4_method_11_code, 3, none), (⟨"AccessLattice$Rules", "keepCode", "(I[II)V"⟩, prog_6_method_2_code, 5, none)]
def am_infos_1 : List am_I := [(⟨"AccessLattice$Rules", "open", "(IZZ)V"⟩, prog_6_method_3_code, 5, none), (⟨"AccessLattice", "off", "(I)I"⟩, prog_1_method_15_code, 2, (some .int)), (⟨"AccessLattice", "isRule", "(I)Z"⟩, prog_1_method_60_code, 2, (some .boolean)), (⟨"AccessLattice", "of", "(II)I"⟩, prog_1_method_16_code, 4, (some .int)), (⟨"AccessLattice", "uses", "(II)I"⟩, prog_1_method_17_code, 3, (some .int)), (⟨"AccessLattice", "left", "(I)I"⟩, prog_1_method_18_code, 3, (some .int)), (⟨"AccessLattice", "seniors", "()I"⟩, prog_1_method_19_code, 4, (some .int)), (⟨"AccessLattice$Reader", "readPairs", "(LAccessLattice$Tape;)I"⟩, prog_4_method_16_code, 3, (some .int)), (⟨"AccessLattice$Reader", "readMark", "(LAccessLattice$Tape;I)V"⟩, prog_4_method_17_code, 3, none), (⟨"AccessLattice$Reader", "readRole", "(LAccessLattice$Tape;)V"⟩, prog_4_method_18_code, 4, none), (⟨"AccessLattice", "may", "(III)I"⟩, prog_1_method_20_code, 6, (some .int)), (⟨"AccessLattice", "isAsked", "(III)Z"⟩, prog_1_method_58_code, 3, (some .boolean)), (⟨"AccessLattice", "isAct", "(I)Z"⟩, prog_1_method_57_code, 1, (some .boolean)), (⟨"AccessLattice$View", "rulesOn", "(II)I"⟩, prog_10_method_12_code, 7, (some .int)), (⟨"AccessLattice$View", "decider", "(IIII)I"⟩, prog_10_method_14_code, 6, (some .int)), (⟨"AccessLattice$Rules", "ofRoles", "(II)I"⟩, prog_6_method_6_code, 5, (some .int)), (⟨"AccessLattice$View", "met", "(IIII)I"⟩, prog_10_method_13_code, 7, (some .int)), (⟨"AccessLattice$View", "meets", "(IIII)Z"⟩, prog_10_method_17_code, 9, (some .boolean)), (⟨"AccessLattice$View", "work", "(II)I"⟩, prog_10_method_18_code, 5, (some .int)), (⟨"AccessLattice$View", "combined", "(III)I"⟩, prog_10_method_19_code, 3, (some .int)), (⟨"AccessLattice$Rules", "first", "(I)I"⟩, prog_6_method_7_code, 4, (some .int)), (⟨"AccessLattice$Rules", "answerBy", "(I)I"⟩, prog_6_method_8_code, 2, (some .int)), (⟨"AccessLattice", "tellGrounds", "(II)V"⟩, prog_1_method_21_code, 9, none), (⟨"AccessLattice$Grounds", "add", "(II)V"⟩, prog_2_method_2_code, 3, none), (⟨"AccessLattice$View", "lentTo", "(I)I"⟩, prog_10_method_9_code, 4, (some .int)), (⟨"AccessLattice$Roles", "fewest", "([III[I)I"⟩, prog_5_method_5_code, 10, (some .int)), (⟨"AccessLattice$Roles", "walk", "([III[I)I"⟩, prog_5_method_6_code, 7, (some .int)), (⟨"AccessLattice$Roles", "nearest", "(II)I"⟩, prog_5_method_7_code, 4, (some .int)), (⟨"AccessLattice$View", "leastLoan", "(II)I"⟩, prog_10_method_10_code, 4, (some .int)), (⟨"AccessLattice", "tellLoans", "(I)V"⟩, prog_1_method_22_code, 5, none), (⟨"AccessLattice$Rules", "useUp", "(I)V"⟩, prog_6_method_9_code, 2, none), (⟨"AccessLattice$State", "note", "(IIIII)V"⟩, prog_8_method_5_code, 7, none), (⟨"AccessLattice", "why", "(II)I"⟩, prog_1_method_23_code, 3, (some .int)), (⟨"AccessLattice", "who", "(III)I"⟩, prog_1_method_24_code, 4, (some .int)), (⟨"AccessLattice$View", "usersWith", "(III)I"⟩, prog_10_method_16_code, 7, (some .int)), (⟨"AccessLattice", "where", "(II)I"⟩, prog_1_method_25_code, 5, (some .int)), (⟨"AccessLattice$View", "answer", "(III)I"⟩, prog_10_method_15_code, 4, (some .int)), (⟨"AccessLattice", "could", "(III)I"⟩, prog_1_method_26_code, 6, (some .int)), (⟨"AccessLattice", "least", "(IIII)I"⟩, prog_1_method_27_code, 7, (some .int)), (⟨"AccessLattice$Search", "leastChange", "(LAccessLattice$View;III)I"⟩, prog_7_method_2_code, 7, (some .int)), (⟨"AccessLattice$Search", "addOptions", "(IIJ)V"⟩, prog_7_method_4_code, 6, none), (⟨"AccessLattice$Search", "fewest", "(LAccessLattice$View;IIZ)I"⟩, prog_7_method_6_code, 8, (some .int)), (⟨"AccessLattice$Search", "suits", "(LAccessLattice$View;IIIZ)Z"⟩, prog_7_method_8_code, 13, (some .boolean)), (⟨"AccessLattice$Search", "sumUp", "(I)V"⟩, prog_7_method_9_code, 4, none), (⟨"AccessLattice$Search", "chosen", "(I)I"⟩, prog_7_method_5_code, 2, (some .int)), (⟨"AccessLattice$View", "suppose", "(IIJ)V"⟩, prog_10_method_4_code, 5, none), (⟨"AccessLattice$Search", "pickNext", "(I)Z"⟩, prog_7_method_7_code, 4, (some .boolean)), (⟨"AccessLattice", "until", "(III)I"⟩, prog_1_method_28_code, 6, (some .int)), (⟨"AccessLattice", "lose", "(IIII)I"⟩, prog_1_method_29_code, 6, (some .int)), (⟨"AccessLattice$Search", "leastLoss", "(LAccessLattice$View;III)I"⟩, prog_7_method_3_code, 8, (some .int)), (⟨"AccessLattice$View", "loansBehind", "(I)J"⟩, prog_10_method_11_code, 7, (some .long)), (⟨"AccessLattice", "changes", "(IIII)I"⟩, prog_1_method_30_code, 9, (some .int)), (⟨"AccessLattice", "ways", "(II)I"⟩, prog_1_method_31_code, 5, (some .int)), (⟨"AccessLattice$Roles", "countWays", "([II)I"⟩, prog_5_method_8_code, 7, (some .int)), (⟨"AccessLattice", "idle", "(I)I"⟩, prog_1_method_32_code, 5, (some .int)), (⟨"AccessLattice", "unlike", "(III)I"⟩, prog_1_method_33_code, 8, (some .int)), (⟨"AccessLattice", "book", "(II)I"⟩, prog_1_method_34_code, 3, (some .int)), (⟨"AccessLattice", "shadowed", "(I)I"⟩, prog_1_method_35_code, 3, (some .int)), (⟨"AccessLattice", "covers", "(II)Z"⟩, prog_1_method_36_code, 6, (some .boolean)), (⟨"AccessLattice", "clash", "(II)I"⟩, prog_1_method_37_code, 5, (some .int)), (⟨"AccessLattice", "clashWith", "(II)Z"⟩, prog_1_method_38_code, 5, (some .boolean)), (⟨"AccessLattice", "reaches", "(II)Z"⟩, prog_1_method_39_code, 4, (some .boolean)), (⟨"AccessLattice", "join", "(III)I"⟩, prog_1_method_40_code, 7, (some .int)), (⟨"AccessLattice", "roles", "(II)I"⟩, prog_1_method_41_code, 4, (some .int))]
def am_infos_2 : List am_I := [(⟨"AccessLattice", "level", "(I)I"⟩, prog_1_method_42_code, 2, (some .int)), (⟨"AccessLattice$Roles", "longestDown", "(I)I"⟩, prog_5_method_9_code, 7, (some .int)), (⟨"AccessLattice", "chain", "(III)I"⟩, prog_1_method_43_code, 5, (some .int)), (⟨"AccessLattice", "under", "(I)I"⟩, prog_1_method_44_code, 4, (some .int)), (⟨"AccessLattice", "decides", "(II)I"⟩, prog_1_method_45_code, 9, (some .int)), (⟨"AccessLattice", "wouldTurn", "(IIIII)Z"⟩, prog_1_method_46_code, 7, (some .boolean)), (⟨"AccessLattice", "since", "(I)I"⟩, prog_1_method_47_code, 6, (some .int)), (⟨"AccessLattice", "differing", "(IIII)I"⟩, prog_1_method_48_code, 11, (some .int)), (⟨"AccessLattice", "image", "()I"⟩, prog_1_method_49_code, 1, (some .int)), (⟨"AccessLattice$State", "copyFrom", "(LAccessLattice$State;)V"⟩, prog_8_method_6_code, 2, none), (⟨"AccessLattice$Roles", "copyFrom", "(LAccessLattice$Roles;)V"⟩, prog_5_method_10_code, 2, none), (⟨"AccessLattice$Loans", "copyFrom", "(LAccessLattice$Loans;)V"⟩, prog_3_method_2_code, 2, none), (⟨"AccessLattice$Rules", "copyFrom", "(LAccessLattice$Rules;)V"⟩, prog_6_method_10_code, 2, none), (⟨"AccessLattice", "back", "()I"⟩, prog_1_method_50_code, 1, (some .int)), (⟨"AccessLattice", "count", "(I)I"⟩, prog_1_method_51_code, 2, (some .int)), (⟨"AccessLatticeModel", "<init>", "()V"⟩, prog_12_method_1_code, 2, none), (⟨"AccessLatticeModel", "lattice", "()V"⟩, prog_12_method_12_code, 5, none), (⟨"AccessLatticeModel", "has", "(II)Z"⟩, prog_12_method_6_code, 2, (some .boolean)), (⟨"AccessLatticeModel", "attribute", "(IIII)I"⟩, prog_12_method_16_code, 7, (some .int)), (⟨"AccessLatticeModel", "isIn", "(III)Z"⟩, prog_12_method_2_code, 3, (some .boolean)), (⟨"AccessLatticeModel", "isOne", "(I)Z"⟩, prog_12_method_3_code, 1, (some .boolean)), (⟨"AccessLatticeModel", "within", "(II)I"⟩, prog_12_method_17_code, 4, (some .int)), (⟨"AccessLatticeModel", "depth", "(II)I"⟩, prog_12_method_15_code, 5, (some .int)), (⟨"AccessLatticeModel", "senior", "(III)I"⟩, prog_12_method_25_code, 4, (some .int)), (⟨"AccessLatticeModel", "isRole", "(I)Z"⟩, prog_12_method_4_code, 1, (some .boolean)), (⟨"AccessLatticeModel", "isAnyUnlike", "()Z"⟩, prog_12_method_24_code, 2, (some .boolean)), (⟨"AccessLatticeModel", "holders", "()V"⟩, prog_12_method_22_code, 2, none), (⟨"AccessLatticeModel", "stand", "()V"⟩, prog_12_method_18_code, 2, none), (⟨"AccessLatticeModel", "allUnder", "(I)I"⟩, prog_12_method_13_code, 4, (some .int)), (⟨"AccessLatticeModel", "standAgain", "()V"⟩, prog_12_method_19_code, 4, none), (⟨"AccessLatticeModel", "loanAt", "(II)I"⟩, prog_12_method_9_code, 3, (some .int)), (⟨"AccessLatticeModel", "heldBy", "(I)I"⟩, prog_12_method_21_code, 4, (some .int)), (⟨"AccessLatticeModel", "isUnlike", "(I)Z"⟩, prog_12_method_23_code, 3, (some .boolean)), (⟨"AccessLatticeModel", "assign", "(III)I"⟩, prog_12_method_26_code, 4, (some .int)), (⟨"AccessLatticeModel", "ones", "(I)I"⟩, prog_12_method_7_code, 3, (some .int)), (⟨"AccessLatticeModel", "exclude", "(III)I"⟩, prog_12_method_27_code, 4, (some .int)), (⟨"AccessLatticeModel", "step", "(I)I"⟩, prog_12_method_28_code, 2, (some .int)), (⟨"AccessLatticeModel", "lend", "(IIIII)I"⟩, prog_12_method_30_code, 9, (some .int)), (⟨"AccessLatticeModel", "sourceFor", "(III)I"⟩, prog_12_method_29_code, 5, (some .int)), (⟨"AccessLatticeModel", "takeBack", "(I)I"⟩, prog_12_method_31_code, 3, (some .int)), (⟨"AccessLatticeModel", "standing", "()I"⟩, prog_12_method_20_code, 3, (some .int)), (⟨"AccessLatticeModel", "loan", "(II)I"⟩, prog_12_method_32_code, 3, (some .int)), (⟨"AccessLatticeModel", "holds", "(II)I"⟩, prog_12_method_33_code, 3, (some .int)), (⟨"AccessLatticeModel", "feed", "(I)I"⟩, prog_12_method_34_code, 2, (some .int)), (⟨"AccessLatticeModel", "rule", "(IIIII)I"⟩, prog_12_method_52_code, 9, (some .int)), (⟨"AccessLatticeModel", "reads", "()I"⟩, prog_12_method_49_code, 1, (some .int)), (⟨"AccessLatticeModel", "begins", "()V"⟩, prog_12_method_48_code, 1, none), (⟨"AccessLatticeModel", "either", "()V"⟩, prog_12_method_42_code, 2, none), (⟨"AccessLatticeModel", "both", "()V"⟩, prog_12_method_43_code, 2, none), (⟨"AccessLatticeModel", "compares", "()V"⟩, prog_12_method_44_code, 2, none), (⟨"AccessLatticeModel", "adds", "()V"⟩, prog_12_method_45_code, 2, none), (⟨"AccessLatticeModel", "times", "()V"⟩, prog_12_method_46_code, 2, none), (⟨"AccessLatticeModel", "unit", "()V"⟩, prog_12_method_47_code, 2, none), (⟨"AccessLatticeModel", "seesDigit", "()Z"⟩, prog_12_method_37_code, 1, (some .boolean)), (⟨"AccessLatticeModel", "figures", "(I)I"⟩, prog_12_method_39_code, 4, (some .int)), (⟨"AccessLatticeModel", "fails", "(I)V"⟩, prog_12_method_35_code, 2, none), (⟨"AccessLatticeModel", "puts", "(I)V"⟩, prog_12_method_40_code, 2, none), (⟨"AccessLatticeModel", "takes", "(I)V"⟩, prog_12_method_38_code, 2, none), (⟨"AccessLatticeModel", "sees", "(I)Z"⟩, prog_12_method_36_code, 2, (some .boolean)), (⟨"AccessLatticeModel", "joins", "(I)V"⟩, prog_12_method_41_code, 3, none), (⟨"AccessLatticeModel", "off", "(I)I"⟩, prog_12_method_54_code, 2, (some .int)), (⟨"AccessLatticeModel", "isRule", "(I)Z"⟩, prog_12_method_11_code, 2, (some .boolean)), (⟨"AccessLatticeModel", "ruleAt", "(II)I"⟩, prog_12_method_10_code, 3, (some .int)), (⟨"AccessLatticeModel", "rulesThere", "()I"⟩, prog_12_method_53_code, 3, (some .int))]
def am_infos_3 : List am_I := [(⟨"AccessLatticeModel", "of", "(II)I"⟩, prog_12_method_55_code, 3, (some .int)), (⟨"AccessLatticeModel", "uses", "(II)I"⟩, prog_12_method_56_code, 3, (some .int)), (⟨"AccessLatticeModel", "left", "(I)I"⟩, prog_12_method_57_code, 2, (some .int)), (⟨"AccessLatticeModel", "seniors", "()I"⟩, prog_12_method_58_code, 4, (some .int)), (⟨"AccessLatticeModel", "may", "(III)I"⟩, prog_12_method_69_code, 5, (some .int)), (⟨"AccessLatticeModel", "isAsk", "(III)Z"⟩, prog_12_method_63_code, 3, (some .boolean)), (⟨"AccessLatticeModel", "isAct", "(I)Z"⟩, prog_12_method_5_code, 1, (some .boolean)), (⟨"AccessLatticeModel", "answer", "(III)I"⟩, prog_12_method_62_code, 6, (some .int)), (⟨"AccessLatticeModel", "fits", "(IIII)Z"⟩, prog_12_method_59_code, 7, (some .boolean)), (⟨"AccessLatticeModel", "part", "()I"⟩, prog_12_method_51_code, 4, (some .int)), (⟨"AccessLatticeModel", "joined", "(III)I"⟩, prog_12_method_50_code, 3, (some .int)), (⟨"AccessLatticeModel", "books", "(IIII)V"⟩, prog_12_method_68_code, 6, none), (⟨"AccessLatticeModel", "grounds", "(I)V"⟩, prog_12_method_67_code, 7, none), (⟨"AccessLatticeModel", "grounds", "(II)V"⟩, prog_12_method_64_code, 3, none), (⟨"AccessLatticeModel", "allAbove", "(I)I"⟩, prog_12_method_14_code, 4, (some .int)), (⟨"AccessLatticeModel", "distances", "(IZ)V"⟩, prog_12_method_65_code, 7, none), (⟨"AccessLatticeModel", "nearer", "(IZ)I"⟩, prog_12_method_66_code, 4, (some .int)), (⟨"AccessLatticeModel", "why", "(II)I"⟩, prog_12_method_70_code, 3, (some .int)), (⟨"AccessLatticeModel", "who", "(III)I"⟩, prog_12_method_72_code, 4, (some .int)), (⟨"AccessLatticeModel", "whoBy", "(III)I"⟩, prog_12_method_71_code, 6, (some .int)), (⟨"AccessLatticeModel", "where", "(II)I"⟩, prog_12_method_73_code, 5, (some .int)), (⟨"AccessLatticeModel", "could", "(III)I"⟩, prog_12_method_74_code, 7, (some .int)), (⟨"AccessLatticeModel", "least", "(IIII)I"⟩, prog_12_method_80_code, 5, (some .int)), (⟨"AccessLatticeModel", "tried", "(IIIIZ)I"⟩, prog_12_method_79_code, 8, (some .int)), (⟨"AccessLatticeModel", "fitting", "(III)V"⟩, prog_12_method_60_code, 5, none), (⟨"AccessLatticeModel", "answerBy", "(I)I"⟩, prog_12_method_61_code, 5, (some .int)), (⟨"AccessLatticeModel", "offers", "(I)V"⟩, prog_12_method_75_code, 2, none), (⟨"AccessLatticeModel", "tries", "(IIIIZ)Z"⟩, prog_12_method_78_code, 8, (some .boolean)), (⟨"AccessLatticeModel", "does", "(IZ)Z"⟩, prog_12_method_77_code, 4, (some .boolean)), (⟨"AccessLatticeModel", "turns", "(IIZ)V"⟩, prog_12_method_76_code, 4, none), (⟨"AccessLatticeModel", "lose", "(IIII)I"⟩, prog_12_method_81_code, 5, (some .int)), (⟨"AccessLatticeModel", "until", "(III)I"⟩, prog_12_method_83_code, 5, (some .int)), (⟨"AccessLatticeModel", "shows", "(III)V"⟩, prog_12_method_82_code, 6, none), (⟨"AccessLatticeModel", "changes", "(IIII)I"⟩, prog_12_method_84_code, 7, (some .int)), (⟨"AccessLatticeModel", "ways", "(II)I"⟩, prog_12_method_86_code, 5, (some .int)), (⟨"AccessLatticeModel", "waysFrom", "(II)I"⟩, prog_12_method_85_code, 5, (some .int)), (⟨"AccessLatticeModel", "idle", "(I)I"⟩, prog_12_method_87_code, 4, (some .int)), (⟨"AccessLatticeModel", "unlike", "(III)I"⟩, prog_12_method_88_code, 6, (some .int)), (⟨"AccessLatticeModel", "book", "(II)I"⟩, prog_12_method_89_code, 3, (some .int)), (⟨"AccessLatticeModel", "shadowed", "(I)I"⟩, prog_12_method_92_code, 3, (some .int)), (⟨"AccessLatticeModel", "shadows", "(II)Z"⟩, prog_12_method_91_code, 3, (some .boolean)), (⟨"AccessLatticeModel", "isWithin", "(II)Z"⟩, prog_12_method_90_code, 3, (some .boolean)), (⟨"AccessLatticeModel", "clash", "(II)I"⟩, prog_12_method_94_code, 5, (some .int)), (⟨"AccessLatticeModel", "clashes", "(II)Z"⟩, prog_12_method_93_code, 3, (some .boolean)), (⟨"AccessLatticeModel", "join", "(III)I"⟩, prog_12_method_95_code, 6, (some .int)), (⟨"AccessLatticeModel", "roles", "(II)I"⟩, prog_12_method_96_code, 3, (some .int)), (⟨"AccessLatticeModel", "level", "(I)I"⟩, prog_12_method_98_code, 2, (some .int)), (⟨"AccessLatticeModel", "levels", "()V"⟩, prog_12_method_97_code, 4, none), (⟨"AccessLatticeModel", "chain", "(III)I"⟩, prog_12_method_99_code, 6, (some .int)), (⟨"AccessLatticeModel", "under", "(I)I"⟩, prog_12_method_100_code, 4, (some .int)), (⟨"AccessLatticeModel", "decides", "(II)I"⟩, prog_12_method_101_code, 8, (some .int)), (⟨"AccessLatticeModel", "since", "(I)I"⟩, prog_12_method_102_code, 5, (some .int)), (⟨"AccessLatticeModel", "copies", "([I[I)V"⟩, prog_12_method_8_code, 3, none), (⟨"AccessLatticeModel", "image", "()I"⟩, prog_12_method_103_code, 1, (some .int)), (⟨"AccessLatticeModel", "back", "()I"⟩, prog_12_method_104_code, 1, (some .int)), (⟨"AccessLatticeModel", "count", "(I)I"⟩, prog_12_method_105_code, 2, (some .int))]
def am_infos : List am_I := am_infos_0 ++ (am_infos_1 ++ (am_infos_2 ++ (am_infos_3)))
theorem am_infos_in_0 : ∀ q ∈ am_infos_0, Cond.code q.1 q.2.1 q.2.2.1 q.2.2.2 ∈ am_tbl := List.forall_mem_cons.mpr ⟨am_in1 (k := 20) rfl rfl, List.forall_mem_cons.mpr ⟨am_in1 (k := 28) rfl rfl, List.forall_mem_cons.mpr ⟨am_in1 (k := 34) rfl rfl, List.forall_mem_cons.mpr ⟨am_in1 (k := 40) rfl rfl, List.forall_mem_cons.mpr ⟨am_in1 (k := 45) rfl rfl, List.forall_mem_cons.mpr ⟨am_in1 (k := 48) rfl rfl, List.forall_mem_cons.mpr ⟨am_in1 (k := 85) rfl rfl, List.forall_mem_cons.mpr ⟨am_in1 (k := 132) rfl rfl, List.forall_mem_cons.mpr ⟨am_in2 (k := 46) rfl rfl, List.forall_mem_cons.mpr ⟨am_in2 (k := 62) rfl rfl, List.forall_mem_cons.mpr ⟨am_in2 (k := 95) rfl rfl, List.forall_mem_cons.mpr ⟨am_in2 (k := 120) rfl rfl, List.forall_mem_cons.mpr ⟨am_in2 (k := 169) rfl rfl, List.forall_mem_cons.mpr ⟨am_in2 (k := 172) rfl rfl, List.forall_mem_cons.mpr ⟨am_in2 (k := 175) rfl rfl, List.forall_mem_cons.mpr ⟨am_in2 (k := 178) rfl rfl, List.forall_mem_cons.mpr ⟨am_in2 (k := 182) rfl rfl, List.forall_mem_cons.mpr ⟨am_in2 (k := 186) rfl rfl, List.forall_mem_cons.mpr ⟨am_in2 (k := 190) rfl rfl, List.forall_mem_cons.mpr ⟨am_in2 (k := 193) rfl rfl, List.forall_mem_cons.mpr ⟨am_in2 (k := 197) rfl rfl, List.forall_mem_cons.mpr ⟨am_in2 (k := 202) rfl rfl, List.forall_mem_cons.mpr ⟨am_in2 (k := 206) rfl rfl, List.forall_mem_cons.mpr ⟨am_in2 (k := 210) rfl rfl, List.forall_mem_cons.mpr ⟨am_in2 (k := 214) rfl rfl, List.forall_mem_cons.mpr ⟨am_in2 (k := 218) rfl rfl, List.forall_mem_cons.mpr ⟨am_in2 (k := 222) rfl rfl, List.forall_mem_cons.mpr ⟨am_in2 (k := 227) rfl rfl, List.forall_mem_cons.mpr ⟨am_in2 (k := 232) rfl rfl, List.forall_mem_cons.mpr ⟨am_in2 (k := 239) rfl rfl, List.forall_mem_cons.mpr ⟨am_in3 (k := 3) rfl rfl, List.forall_mem_cons.mpr ⟨am_in3 (k := 8) rfl rfl, List.forall_mem_cons.mpr ⟨am_in3 (k := 11) rfl rfl, List.forall_mem_cons.mpr ⟨am_in3 (k := 14) rfl rfl, List.forall_mem_cons.mpr ⟨am_in3 (k := 21) rfl rfl, List.forall_mem_cons.mpr ⟨am_in3 (k := 25) rfl rfl, List.forall_mem_cons.mpr ⟨am_in3 (k := 29) rfl rfl, List.forall_mem_cons.mpr ⟨am_in3 (k := 33) rfl rfl, List.forall_mem_cons.mpr ⟨am_in3 (k := 38) rfl rfl, List.forall_mem_cons.mpr ⟨am_in3 (k := 42) rfl rfl, List.forall_mem_cons.mpr ⟨am_in3 (k := 47) rfl rfl, List.forall_mem_cons.mpr ⟨am_in3 (k := 51) rfl rfl, List.forall_mem_cons.mpr ⟨am_in3 (k := 55) rfl rfl, List.forall_mem_cons.mpr ⟨am_in3 (k := 62) rfl rfl, List.forall_mem_cons.mpr ⟨am_in3 (k := 66) rfl rfl, List.forall_mem_cons.mpr ⟨am_in3 (k := 70) rfl rfl, List.forall_mem_cons.mpr ⟨am_in3 (k := 74) rfl rfl, List.forall_mem_cons.mpr ⟨am_in3 (k := 78) rfl rfl, List.forall_mem_cons.mpr ⟨am_in3 (k := 82) rfl rfl, List.forall_mem_cons.mpr ⟨am_in3 (k := 86) rfl rfl, List.forall_mem_cons.mpr ⟨am_in3 (k := 90) rfl rfl, List.forall_mem_cons.mpr ⟨am_in3 (k := 94) rfl rfl, List.forall_mem_cons.mpr ⟨am_in3 (k := 98) rfl rfl, List.forall_mem_cons.mpr ⟨am_in3 (k := 102) rfl rfl, List.forall_mem_cons.mpr ⟨am_in3 (k := 107) rfl rfl, List.forall_mem_cons.mpr ⟨am_in3 (k := 111) rfl rfl, List.forall_mem_cons.mpr ⟨am_in3 (k := 115) rfl rfl, List.forall_mem_cons.mpr ⟨am_in3 (k := 119) rfl rfl, List.forall_mem_cons.mpr ⟨am_in3 (k := 123) rfl rfl, List.forall_mem_cons.mpr ⟨am_in3 (k := 127) rfl rfl, List.forall_mem_cons.mpr ⟨am_in3 (k := 133) rfl rfl, List.forall_mem_cons.mpr ⟨am_in3 (k := 136) rfl rfl, List.forall_mem_cons.mpr ⟨am_in3 (k := 140) rfl rfl, List.forall_mem_cons.mpr ⟨am_in3 (k := 147) rfl rfl, fun _ h => absurd h List.not_mem_nil⟩⟩⟩⟩⟩⟩⟩⟩⟩⟩⟩⟩⟩⟩⟩⟩⟩⟩⟩⟩⟩⟩⟩⟩⟩⟩⟩⟩⟩⟩⟩⟩⟩⟩⟩⟩⟩⟩⟩⟩⟩⟩⟩⟩⟩⟩⟩⟩⟩⟩⟩⟩⟩⟩⟩⟩⟩⟩⟩⟩⟩⟩⟩⟩
theorem am_infos_in_1 : ∀ q ∈ am_infos_1, Cond.code q.1 q.2.1 q.2.2.1 q.2.2.2 ∈ am_tbl := List.forall_mem_cons.mpr ⟨am_in3 (k := 155) rfl rfl, List.forall_mem_cons.mpr ⟨am_in3 (k := 159) rfl rfl, List.forall_mem_cons.mpr ⟨am_in3 (k := 163) rfl rfl, List.forall_mem_cons.mpr ⟨am_in3 (k := 167) rfl rfl, List.forall_mem_cons.mpr ⟨am_in3 (k := 171) rfl rfl, List.forall_mem_cons.mpr ⟨am_in3 (k := 175) rfl rfl, List.forall_mem_cons.mpr ⟨am_in3 (k := 179) rfl rfl, List.forall_mem_cons.mpr ⟨am_in3 (k := 183) rfl rfl, List.forall_mem_cons.mpr ⟨am_in3 (k := 187) rfl rfl, List.forall_mem_cons.mpr ⟨am_in3 (k := 191) rfl rfl, List.forall_mem_cons.mpr ⟨am_in3 (k := 196) rfl rfl, List.forall_mem_cons.mpr ⟨am_in3 (k := 199) rfl rfl, List.forall_mem_cons.mpr ⟨am_in3 (k := 202) rfl rfl, List.forall_mem_cons.mpr ⟨am_in3 (k := 206) rfl rfl, List.forall_mem_cons.mpr ⟨am_in3 (k := 211) rfl rfl, List.forall_mem_cons.mpr ⟨am_in3 (k := 215) rfl rfl, List.forall_mem_cons.mpr ⟨am_in3 (k := 219) rfl rfl, List.forall_mem_cons.mpr ⟨am_in3 (k := 223) rfl rfl, List.forall_mem_cons.mpr ⟨am_in3 (k := 228) rfl rfl, List.forall_mem_cons.mpr ⟨am_in3 (k := 232) rfl rfl, List.forall_mem_cons.mpr ⟨am_in3 (k := 236) rfl rfl, List.forall_mem_cons.mpr ⟨am_in4 (k := 0) rfl rfl, List.forall_mem_cons.mpr ⟨am_in4 (k := 4) rfl rfl, List.forall_mem_cons.mpr ⟨am_in4 (k := 8) rfl rfl, List.forall_mem_cons.mpr ⟨am_in4 (k := 12) rfl rfl, List.forall_mem_cons.mpr ⟨am_in4 (k := 16) rfl rfl, List.forall_mem_cons.mpr ⟨am_in4 (k := 20) rfl rfl, List.forall_mem_cons.mpr ⟨am_in4 (k := 24) rfl rfl, List.forall_mem_cons.mpr ⟨am_in4 (k := 28) rfl rfl, List.forall_mem_cons.mpr ⟨am_in4 (k := 32) rfl rfl, List.forall_mem_cons.mpr ⟨am_in4 (k := 36) rfl rfl, List.forall_mem_cons.mpr ⟨am_in4 (k := 41) rfl rfl, List.forall_mem_cons.mpr ⟨am_in4 (k := 46) rfl rfl, List.forall_mem_cons.mpr ⟨am_in4 (k := 50) rfl rfl, List.forall_mem_cons.mpr ⟨am_in4 (k := 54) rfl rfl, List.forall_mem_cons.mpr ⟨am_in4 (k := 61) rfl rfl, List.forall_mem_cons.mpr ⟨am_in4 (k := 65) rfl rfl, List.forall_mem_cons.mpr ⟨am_in4 (k := 69) rfl rfl, List.forall_mem_cons.mpr ⟨am_in4 (k := 74) rfl rfl, List.forall_mem_cons.mpr ⟨am_in4 (k := 78) rfl rfl, List.forall_mem_cons.mpr ⟨am_in4 (k := 84) rfl rfl, List.forall_mem_cons.mpr ⟨am_in4 (k := 89) rfl rfl, List.forall_mem_cons.mpr ⟨am_in4 (k := 94) rfl rfl, List.forall_mem_cons.mpr ⟨am_in4 (k := 98) rfl rfl, List.forall_mem_cons.mpr ⟨am_in4 (k := 102) rfl rfl, List.forall_mem_cons.mpr ⟨am_in4 (k := 107) rfl rfl, List.forall_mem_cons.mpr ⟨am_in4 (k := 115) rfl rfl, List.forall_mem_cons.mpr ⟨am_in4 (k := 120) rfl rfl, List.forall_mem_cons.mpr ⟨am_in4 (k := 124) rfl rfl, List.forall_mem_cons.mpr ⟨am_in4 (k := 128) rfl rfl, List.forall_mem_cons.mpr ⟨am_in4 (k := 132) rfl rfl, List.forall_mem_cons.mpr ⟨am_in4 (k := 136) rfl rfl, List.forall_mem_cons.mpr ⟨am_in4 (k := 140) rfl rfl, List.forall_mem_cons.mpr ⟨am_in4 (k := 144) rfl rfl, List.forall_mem_cons.mpr ⟨am_in4 (k := 149) rfl rfl, List.forall_mem_cons.mpr ⟨am_in4 (k := 153) rfl rfl, List.forall_mem_cons.mpr ⟨am_in4 (k := 157) rfl rfl, List.forall_mem_cons.mpr ⟨am_in4 (k := 161) rfl rfl, List.forall_mem_cons.mpr ⟨am_in4 (k := 165) rfl rfl, List.forall_mem_cons.mpr ⟨am_in4 (k := 170) rfl rfl, List.forall_mem_cons.mpr ⟨am_in4 (k := 174) rfl rfl, List.forall_mem_cons.mpr ⟨am_in4 (k := 182) rfl rfl, List.forall_mem_cons.mpr ⟨am_in4 (k := 186) rfl rfl, List.forall_mem_cons.mpr ⟨am_in4 (k := 190) rfl rfl, fun _ h => absurd h List.not_mem_nil⟩⟩⟩⟩⟩⟩⟩⟩⟩⟩⟩⟩⟩⟩⟩⟩⟩⟩⟩⟩⟩⟩⟩⟩⟩⟩⟩⟩⟩⟩⟩⟩⟩⟩⟩⟩⟩⟩⟩⟩⟩⟩⟩⟩⟩⟩⟩⟩⟩⟩⟩⟩⟩⟩⟩⟩⟩⟩⟩⟩⟩⟩⟩⟩
theorem am_infos_in_2 : ∀ q ∈ am_infos_2, Cond.code q.1 q.2.1 q.2.2.1 q.2.2.2 ∈ am_tbl := List.forall_mem_cons.mpr ⟨am_in4 (k := 194) rfl rfl, List.forall_mem_cons.mpr ⟨am_in4 (k := 198) rfl rfl, List.forall_mem_cons.mpr ⟨am_in4 (k := 202) rfl rfl, List.forall_mem_cons.mpr ⟨am_in4 (k := 206) rfl rfl, List.forall_mem_cons.mpr ⟨am_in4 (k := 210) rfl rfl, List.forall_mem_cons.mpr ⟨am_in4 (k := 214) rfl rfl, List.forall_mem_cons.mpr ⟨am_in4 (k := 218) rfl rfl, List.forall_mem_cons.mpr ⟨am_in4 (k := 222) rfl rfl, List.forall_mem_cons.mpr ⟨am_in4 (k := 226) rfl rfl, List.forall_mem_cons.mpr ⟨am_in4 (k := 230) rfl rfl, List.forall_mem_cons.mpr ⟨am_in4 (k := 234) rfl rfl, List.forall_mem_cons.mpr ⟨am_in4 (k := 238) rfl rfl, List.forall_mem_cons.mpr ⟨am_in5 (k := 3) rfl rfl, List.forall_mem_cons.mpr ⟨am_in5 (k := 7) rfl rfl, List.forall_mem_cons.mpr ⟨am_in5 (k := 11) rfl rfl, List.forall_mem_cons.mpr ⟨am_in5 (k := 16) rfl rfl, List.forall_mem_cons.mpr ⟨am_in5 (k := 21) rfl rfl, List.forall_mem_cons.mpr ⟨am_in5 (k := 24) rfl rfl, List.forall_mem_cons.mpr ⟨am_in5 (k := 126) rfl rfl, List.forall_mem_cons.mpr ⟨am_in5 (k := 129) rfl rfl, List.forall_mem_cons.mpr ⟨am_in5 (k := 132) rfl rfl, List.forall_mem_cons.mpr ⟨am_in5 (k := 136) rfl rfl, List.forall_mem_cons.mpr ⟨am_in5 (k := 140) rfl rfl, List.forall_mem_cons.mpr ⟨am_in5 (k := 144) rfl rfl, List.forall_mem_cons.mpr ⟨am_in5 (k := 147) rfl rfl, List.forall_mem_cons.mpr ⟨am_in5 (k := 151) rfl rfl, List.forall_mem_cons.mpr ⟨am_in5 (k := 155) rfl rfl, List.forall_mem_cons.mpr ⟨am_in5 (k := 159) rfl rfl, List.forall_mem_cons.mpr ⟨am_in5 (k := 163) rfl rfl, List.forall_mem_cons.mpr ⟨am_in5 (k := 167) rfl rfl, List.forall_mem_cons.mpr ⟨am_in5 (k := 171) rfl rfl, List.forall_mem_cons.mpr ⟨am_in5 (k := 175) rfl rfl, List.forall_mem_cons.mpr ⟨am_in5 (k := 179) rfl rfl, List.forall_mem_cons.mpr ⟨am_in5 (k := 183) rfl rfl, List.forall_mem_cons.mpr ⟨am_in5 (k := 186) rfl rfl, List.forall_mem_cons.mpr ⟨am_in5 (k := 190) rfl rfl, List.forall_mem_cons.mpr ⟨am_in5 (k := 194) rfl rfl, List.forall_mem_cons.mpr ⟨am_in5 (k := 198) rfl rfl, List.forall_mem_cons.mpr ⟨am_in5 (k := 202) rfl rfl, List.forall_mem_cons.mpr ⟨am_in5 (k := 206) rfl rfl, List.forall_mem_cons.mpr ⟨am_in5 (k := 210) rfl rfl, List.forall_mem_cons.mpr ⟨am_in5 (k := 214) rfl rfl, List.forall_mem_cons.mpr ⟨am_in5 (k := 218) rfl rfl, List.forall_mem_cons.mpr ⟨am_in5 (k := 222) rfl rfl, List.forall_mem_cons.mpr ⟨am_in5 (k := 226) rfl rfl, List.forall_mem_cons.mpr ⟨am_in5 (k := 230) rfl rfl, List.forall_mem_cons.mpr ⟨am_in5 (k := 234) rfl rfl, List.forall_mem_cons.mpr ⟨am_in5 (k := 238) rfl rfl, List.forall_mem_cons.mpr ⟨am_in6 (k := 2) rfl rfl, List.forall_mem_cons.mpr ⟨am_in6 (k := 6) rfl rfl, List.forall_mem_cons.mpr ⟨am_in6 (k := 10) rfl rfl, List.forall_mem_cons.mpr ⟨am_in6 (k := 14) rfl rfl, List.forall_mem_cons.mpr ⟨am_in6 (k := 18) rfl rfl, List.forall_mem_cons.mpr ⟨am_in6 (k := 22) rfl rfl, List.forall_mem_cons.mpr ⟨am_in6 (k := 26) rfl rfl, List.forall_mem_cons.mpr ⟨am_in6 (k := 30) rfl rfl, List.forall_mem_cons.mpr ⟨am_in6 (k := 34) rfl rfl, List.forall_mem_cons.mpr ⟨am_in6 (k := 38) rfl rfl, List.forall_mem_cons.mpr ⟨am_in6 (k := 42) rfl rfl, List.forall_mem_cons.mpr ⟨am_in6 (k := 46) rfl rfl, List.forall_mem_cons.mpr ⟨am_in6 (k := 50) rfl rfl, List.forall_mem_cons.mpr ⟨am_in6 (k := 54) rfl rfl, List.forall_mem_cons.mpr ⟨am_in6 (k := 58) rfl rfl, List.forall_mem_cons.mpr ⟨am_in6 (k := 62) rfl rfl, fun _ h => absurd h List.not_mem_nil⟩⟩⟩⟩⟩⟩⟩⟩⟩⟩⟩⟩⟩⟩⟩⟩⟩⟩⟩⟩⟩⟩⟩⟩⟩⟩⟩⟩⟩⟩⟩⟩⟩⟩⟩⟩⟩⟩⟩⟩⟩⟩⟩⟩⟩⟩⟩⟩⟩⟩⟩⟩⟩⟩⟩⟩⟩⟩⟩⟩⟩⟩⟩⟩
theorem am_infos_in_3 : ∀ q ∈ am_infos_3, Cond.code q.1 q.2.1 q.2.2.1 q.2.2.2 ∈ am_tbl := List.forall_mem_cons.mpr ⟨am_in6 (k := 66) rfl rfl, List.forall_mem_cons.mpr ⟨am_in6 (k := 70) rfl rfl, List.forall_mem_cons.mpr ⟨am_in6 (k := 74) rfl rfl, List.forall_mem_cons.mpr ⟨am_in6 (k := 78) rfl rfl, List.forall_mem_cons.mpr ⟨am_in6 (k := 83) rfl rfl, List.forall_mem_cons.mpr ⟨am_in6 (k := 86) rfl rfl, List.forall_mem_cons.mpr ⟨am_in6 (k := 89) rfl rfl, List.forall_mem_cons.mpr ⟨am_in6 (k := 93) rfl rfl, List.forall_mem_cons.mpr ⟨am_in6 (k := 97) rfl rfl, List.forall_mem_cons.mpr ⟨am_in6 (k := 101) rfl rfl, List.forall_mem_cons.mpr ⟨am_in6 (k := 104) rfl rfl, List.forall_mem_cons.mpr ⟨am_in6 (k := 108) rfl rfl, List.forall_mem_cons.mpr ⟨am_in6 (k := 112) rfl rfl, List.forall_mem_cons.mpr ⟨am_in6 (k := 116) rfl rfl, List.forall_mem_cons.mpr ⟨am_in6 (k := 120) rfl rfl, List.forall_mem_cons.mpr ⟨am_in6 (k := 124) rfl rfl, List.forall_mem_cons.mpr ⟨am_in6 (k := 128) rfl rfl, List.forall_mem_cons.mpr ⟨am_in6 (k := 132) rfl rfl, List.forall_mem_cons.mpr ⟨am_in6 (k := 136) rfl rfl, List.forall_mem_cons.mpr ⟨am_in6 (k := 140) rfl rfl, List.forall_mem_cons.mpr ⟨am_in6 (k := 144) rfl rfl, List.forall_mem_cons.mpr ⟨am_in6 (k := 148) rfl rfl, List.forall_mem_cons.mpr ⟨am_in6 (k := 152) rfl rfl, List.forall_mem_cons.mpr ⟨am_in6 (k := 156) rfl rfl, List.forall_mem_cons.mpr ⟨am_in6 (k := 160) rfl rfl, List.forall_mem_cons.mpr ⟨am_in6 (k := 164) rfl rfl, List.forall_mem_cons.mpr ⟨am_in6 (k := 168) rfl rfl, List.forall_mem_cons.mpr ⟨am_in6 (k := 172) rfl rfl, List.forall_mem_cons.mpr ⟨am_in6 (k := 176) rfl rfl, List.forall_mem_cons.mpr ⟨am_in6 (k := 180) rfl rfl, List.forall_mem_cons.mpr ⟨am_in6 (k := 184) rfl rfl, List.forall_mem_cons.mpr ⟨am_in6 (k := 188) rfl rfl, List.forall_mem_cons.mpr ⟨am_in6 (k := 192) rfl rfl, List.forall_mem_cons.mpr ⟨am_in6 (k := 196) rfl rfl, List.forall_mem_cons.mpr ⟨am_in6 (k := 200) rfl rfl, List.forall_mem_cons.mpr ⟨am_in6 (k := 204) rfl rfl, List.forall_mem_cons.mpr ⟨am_in6 (k := 208) rfl rfl, List.forall_mem_cons.mpr ⟨am_in6 (k := 212) rfl rfl, List.forall_mem_cons.mpr ⟨am_in6 (k := 216) rfl rfl, List.forall_mem_cons.mpr ⟨am_in6 (k := 220) rfl rfl, List.forall_mem_cons.mpr ⟨am_in6 (k := 224) rfl rfl, List.forall_mem_cons.mpr ⟨am_in6 (k := 228) rfl rfl, List.forall_mem_cons.mpr ⟨am_in6 (k := 232) rfl rfl, List.forall_mem_cons.mpr ⟨am_in6 (k := 236) rfl rfl, List.forall_mem_cons.mpr ⟨am_in7 (k := 0) rfl rfl, List.forall_mem_cons.mpr ⟨am_in7 (k := 4) rfl rfl, List.forall_mem_cons.mpr ⟨am_in7 (k := 8) rfl rfl, List.forall_mem_cons.mpr ⟨am_in7 (k := 12) rfl rfl, List.forall_mem_cons.mpr ⟨am_in7 (k := 17) rfl rfl, List.forall_mem_cons.mpr ⟨am_in7 (k := 21) rfl rfl, List.forall_mem_cons.mpr ⟨am_in7 (k := 25) rfl rfl, List.forall_mem_cons.mpr ⟨am_in7 (k := 29) rfl rfl, List.forall_mem_cons.mpr ⟨am_in7 (k := 32) rfl rfl, List.forall_mem_cons.mpr ⟨am_in7 (k := 36) rfl rfl, List.forall_mem_cons.mpr ⟨am_in7 (k := 40) rfl rfl, List.forall_mem_cons.mpr ⟨am_in7 (k := 44) rfl rfl, fun _ h => absurd h List.not_mem_nil⟩⟩⟩⟩⟩⟩⟩⟩⟩⟩⟩⟩⟩⟩⟩⟩⟩⟩⟩⟩⟩⟩⟩⟩⟩⟩⟩⟩⟩⟩⟩⟩⟩⟩⟩⟩⟩⟩⟩⟩⟩⟩⟩⟩⟩⟩⟩⟩⟩⟩⟩⟩⟩⟩⟩⟩
theorem am_infos_in : ∀ q ∈ am_infos, Cond.code q.1 q.2.1 q.2.2.1 q.2.2.2 ∈ am_tbl := List.forall_mem_append.mpr ⟨am_infos_in_0, List.forall_mem_append.mpr ⟨am_infos_in_1, List.forall_mem_append.mpr ⟨am_infos_in_2, am_infos_in_3⟩⟩⟩
/-- a class of the table: its words, types, names -/
def am_CK (c : Nat) (C : String) (T : u_T) (N : Nat) (ty : Nat → FieldType) : Prop := am_cls[c]? = some (C, T, N) ∧ (∀ w ∈ u_ws C T N, w ∈ am_tbl) ∧ (∀ k, k < N → parseFieldDescriptor (T k).2.2.1 = some (ty k)) ∧ (∀ a, a < N → ∀ b, b < N → a ≠ b → (T a).2.1 ≠ (T b).2.1) ∧ (am_ftab.getD c []).length = N
theorem wsX0_in : ∀ w ∈ u_ws RX0 TX0 3, w ∈ am_tbl := List.forall_mem_cons.mpr ⟨am_in2 (k := 128) rfl rfl, List.forall_mem_cons.mpr ⟨am_in2 (k := 130) rfl rfl, List.forall_mem_cons.mpr ⟨am_in2 (k := 132) rfl rfl, fun _ h => absurd h List.not_mem_nil⟩⟩⟩
theorem nmX0 : ∀ a, a < 3 → ∀ b, b < 3 → a ≠ b → (TX0 a).2.1 ≠ (TX0 b).2.1 := by decide +kernel
theorem tyX0_ok : ∀ k, k < 3 → parseFieldDescriptor (TX0 k).2.2.1 = some (tyX0 k) := by decide +kernel
theorem ckX0 : am_CK 0 RX0 TX0 3 tyX0 := ⟨rfl, wsX0_in, tyX0_ok, nmX0, rfl⟩
theorem wsX1_in : ∀ w ∈ u_ws RX1 TX1 8, w ∈ am_tbl := List.forall_mem_cons.mpr ⟨am_in1 (k := 111) rfl rfl, List.forall_mem_cons.mpr ⟨am_in1 (k := 113) rfl rfl, List.forall_mem_cons.mpr ⟨am_in1 (k := 115) rfl rfl, List.forall_mem_cons.mpr ⟨am_in1 (k := 117) rfl rfl, List.forall_mem_cons.mpr ⟨am_in1 (k := 119) rfl rfl, List.forall_mem_cons.mpr ⟨am_in1 (k := 121) rfl rfl, List.forall_mem_cons.mpr ⟨am_in1 (k := 123) rfl rfl, List.forall_mem_cons.mpr ⟨am_in1 (k := 125) rfl rfl, fun _ h => absurd h List.not_mem_nil⟩⟩⟩⟩⟩⟩⟩⟩
theorem nmX1 : ∀ a, a < 8 → ∀ b, b < 8 → a ≠ b → (TX1 a).2.1 ≠ (TX1 b).2.1 := by decide +kernel
theorem tyX1_ok : ∀ k, k < 8 → parseFieldDescriptor (TX1 k).2.2.1 = some (tyX1 k) := by decide +kernel
theorem ckX1 : am_CK 1 RX1 TX1 8 tyX1 := ⟨rfl, wsX1_in, tyX1_ok, nmX1, rfl⟩
theorem wsX2_in : ∀ w ∈ u_ws RX2 TX2 8, w ∈ am_tbl := List.forall_mem_cons.mpr ⟨am_in2 (k := 74) rfl rfl, List.forall_mem_cons.mpr ⟨am_in2 (k := 76) rfl rfl, List.forall_mem_cons.mpr ⟨am_in2 (k := 78) rfl rfl, List.forall_mem_cons.mpr ⟨am_in2 (k := 80) rfl rfl, List.forall_mem_cons.mpr ⟨am_in2 (k := 82) rfl rfl, List.forall_mem_cons.mpr ⟨am_in2 (k := 84) rfl rfl, List.forall_mem_cons.mpr ⟨am_in2 (k := 86) rfl rfl, List.forall_mem_cons.mpr ⟨am_in2 (k := 88) rfl rfl, fun _ h => absurd h List.not_mem_nil⟩⟩⟩⟩⟩⟩⟩⟩
theorem nmX2 : ∀ a, a < 8 → ∀ b, b < 8 → a ≠ b → (TX2 a).2.1 ≠ (TX2 b).2.1 := by decide +kernel
theorem tyX2_ok : ∀ k, k < 8 → parseFieldDescriptor (TX2 k).2.2.1 = some (tyX2 k) := by decide +kernel
theorem ckX2 : am_CK 2 RX2 TX2 8 tyX2 := ⟨rfl, wsX2_in, tyX2_ok, nmX2, rfl⟩
theorem wsX3_in : ∀ w ∈ u_ws RX3 TX3 8, w ∈ am_tbl := List.forall_mem_cons.mpr ⟨am_in1 (k := 63) rfl rfl, List.forall_mem_cons.mpr ⟨am_in1 (k := 65) rfl rfl, List.forall_mem_cons.mpr ⟨am_in1 (k := 67) rfl rfl, List.forall_mem_cons.mpr ⟨am_in1 (k := 69) rfl rfl, List.forall_mem_cons.mpr ⟨am_in1 (k := 71) rfl rfl, List.forall_mem_cons.mpr ⟨am_in1 (k := 73) rfl rfl, List.forall_mem_cons.mpr ⟨am_in1 (k := 75) rfl rfl, List.forall_mem_cons.mpr ⟨am_in1 (k := 77) rfl rfl, fun _ h => absurd h List.not_mem_nil⟩⟩⟩⟩⟩⟩⟩⟩
theorem nmX3 : ∀ a, a < 8 → ∀ b, b < 8 → a ≠ b → (TX3 a).2.1 ≠ (TX3 b).2.1 := by decide +kernel
theorem tyX3_ok : ∀ k, k < 8 → parseFieldDescriptor (TX3 k).2.2.1 = some (tyX3 k) := by decide +kernel
theorem ckX3 : am_CK 3 RX3 TX3 8 tyX3 := ⟨rfl, wsX3_in, tyX3_ok, nmX3, rfl⟩
theorem wsX4_in : ∀ w ∈ u_ws RX4 TX4 12, w ∈ am_tbl := List.forall_mem_cons.mpr ⟨am_in1 (k := 164) rfl rfl, List.forall_mem_cons.mpr ⟨am_in1 (k := 166) rfl rfl, List.forall_mem_cons.mpr ⟨am_in1 (k := 168) rfl rfl, List.forall_mem_cons.mpr ⟨am_in1 (k := 170) rfl rfl, List.forall_mem_cons.mpr ⟨am_in1 (k := 172) rfl rfl, List.forall_mem_cons.mpr ⟨am_in1 (k := 174) rfl rfl, List.forall_mem_cons.mpr ⟨am_in1 (k := 176) rfl rfl, List.forall_mem_cons.mpr ⟨am_in1 (k := 178) rfl rfl, List.forall_mem_cons.mpr ⟨am_in1 (k := 180) rfl rfl, List.forall_mem_cons.mpr ⟨am_in1 (k := 182) rfl rfl, List.forall_mem_cons.mpr ⟨am_in1 (k := 184) rfl rfl, List.forall_mem_cons.mpr ⟨am_in1 (k := 186) rfl rfl, fun _ h => absurd h List.not_mem_nil⟩⟩⟩⟩⟩⟩⟩⟩⟩⟩⟩⟩
theorem nmX4 : ∀ a, a < 12 → ∀ b, b < 12 → a ≠ b → (TX4 a).2.1 ≠ (TX4 b).2.1 := by decide +kernel
theorem tyX4_ok : ∀ k, k < 12 → parseFieldDescriptor (TX4 k).2.2.1 = some (tyX4 k) := by decide +kernel
theorem ckX4 : am_CK 4 RX4 TX4 12 tyX4 := ⟨rfl, wsX4_in, tyX4_ok, nmX4, rfl⟩
theorem wsX5_in : ∀ w ∈ u_ws RX5 TX5 6, w ∈ am_tbl := List.forall_mem_cons.mpr ⟨am_in2 (k := 103) rfl rfl, List.forall_mem_cons.mpr ⟨am_in2 (k := 105) rfl rfl, List.forall_mem_cons.mpr ⟨am_in2 (k := 107) rfl rfl, List.forall_mem_cons.mpr ⟨am_in2 (k := 109) rfl rfl, List.forall_mem_cons.mpr ⟨am_in2 (k := 111) rfl rfl, List.forall_mem_cons.mpr ⟨am_in2 (k := 113) rfl rfl, fun _ h => absurd h List.not_mem_nil⟩⟩⟩⟩⟩⟩
theorem nmX5 : ∀ a, a < 6 → ∀ b, b < 6 → a ≠ b → (TX5 a).2.1 ≠ (TX5 b).2.1 := by decide +kernel
theorem tyX5_ok : ∀ k, k < 6 → parseFieldDescriptor (TX5 k).2.2.1 = some (tyX5 k) := by decide +kernel
theorem ckX5 : am_CK 5 RX5 TX5 6 tyX5 := ⟨rfl, wsX5_in, tyX5_ok, nmX5, rfl⟩
theorem wsX6_in : ∀ w ∈ u_ws RX6 TX6 13, w ∈ am_tbl := List.forall_mem_cons.mpr ⟨am_in1 (k := 224) rfl rfl, List.forall_mem_cons.mpr ⟨am_in1 (k := 226) rfl rfl, List.forall_mem_cons.mpr ⟨am_in1 (k := 228) rfl rfl, List.forall_mem_cons.mpr ⟨am_in1 (k := 230) rfl rfl, List.forall_mem_cons.mpr ⟨am_in1 (k := 232) rfl rfl, List.forall_mem_cons.mpr ⟨am_in1 (k := 234) rfl rfl, List.forall_mem_cons.mpr ⟨am_in1 (k := 236) rfl rfl, List.forall_mem_cons.mpr ⟨am_in1 (k := 238) rfl rfl, List.forall_mem_cons.mpr ⟨am_in2 (k := 0) rfl rfl, List.forall_mem_cons.mpr ⟨am_in2 (k := 2) rfl rfl, List.forall_mem_cons.mpr ⟨am_in2 (k := 4) rfl rfl, List.forall_mem_cons.mpr ⟨am_in2 (k := 6) rfl rfl, List.forall_mem_cons.mpr ⟨am_in2 (k := 8) rfl rfl, fun _ h => absurd h List.not_mem_nil⟩⟩⟩⟩⟩⟩⟩⟩⟩⟩⟩⟩⟩
theorem nmX6 : ∀ a, a < 13 → ∀ b, b < 13 → a ≠ b → (TX6 a).2.1 ≠ (TX6 b).2.1 := by decide +kernel
theorem tyX6_ok : ∀ k, k < 13 → parseFieldDescriptor (TX6 k).2.2.1 = some (tyX6 k) := by decide +kernel
theorem ckX6 : am_CK 6 RX6 TX6 13 tyX6 := ⟨rfl, wsX6_in, tyX6_ok, nmX6, rfl⟩
theorem wsX7_in : ∀ w ∈ u_ws RX7 TX7 2, w ∈ am_tbl := List.forall_mem_cons.mpr ⟨am_in2 (k := 53) rfl rfl, List.forall_mem_cons.mpr ⟨am_in2 (k := 55) rfl rfl, fun _ h => absurd h List.not_mem_nil⟩⟩
theorem nmX7 : ∀ a, a < 2 → ∀ b, b < 2 → a ≠ b → (TX7 a).2.1 ≠ (TX7 b).2.1 := by decide +kernel
theorem tyX7_ok : ∀ k, k < 2 → parseFieldDescriptor (TX7 k).2.2.1 = some (tyX7 k) := by decide +kernel
theorem ckX7 : am_CK 7 RX7 TX7 2 tyX7 := ⟨rfl, wsX7_in, tyX7_ok, nmX7, rfl⟩
theorem wsX8_in : ∀ w ∈ u_ws RX8 TX8 8, w ∈ am_tbl := List.forall_mem_cons.mpr ⟨am_in2 (k := 25) rfl rfl, List.forall_mem_cons.mpr ⟨am_in2 (k := 27) rfl rfl, List.forall_mem_cons.mpr ⟨am_in2 (k := 29) rfl rfl, List.forall_mem_cons.mpr ⟨am_in2 (k := 31) rfl rfl, List.forall_mem_cons.mpr ⟨am_in2 (k := 33) rfl rfl, List.forall_mem_cons.mpr ⟨am_in2 (k := 35) rfl rfl, List.forall_mem_cons.mpr ⟨am_in2 (k := 37) rfl rfl, List.forall_mem_cons.mpr ⟨am_in2 (k := 39) rfl rfl, fun _ h => absurd h List.not_mem_nil⟩⟩⟩⟩⟩⟩⟩⟩
theorem nmX8 : ∀ a, a < 8 → ∀ b, b < 8 → a ≠ b → (TX8 a).2.1 ≠ (TX8 b).2.1 := by decide +kernel
theorem tyX8_ok : ∀ k, k < 8 → parseFieldDescriptor (TX8 k).2.2.1 = some (tyX8 k) := by decide +kernel
theorem ckX8 : am_CK 8 RX8 TX8 8 tyX8 := ⟨rfl, wsX8_in, tyX8_ok, nmX8, rfl⟩
theorem wsX9_in : ∀ w ∈ u_ws RX9 TX9 10, w ∈ am_tbl := List.forall_mem_cons.mpr ⟨am_in2 (k := 145) rfl rfl, List.forall_mem_cons.mpr ⟨am_in2 (k := 147) rfl rfl, List.forall_mem_cons.mpr ⟨am_in2 (k := 149) rfl rfl, List.forall_mem_cons.mpr ⟨am_in2 (k := 151) rfl rfl, List.forall_mem_cons.mpr ⟨am_in2 (k := 153) rfl rfl, List.forall_mem_cons.mpr ⟨am_in2 (k := 155) rfl rfl, List.forall_mem_cons.mpr ⟨am_in2 (k := 157) rfl rfl, List.forall_mem_cons.mpr ⟨am_in2 (k := 159) rfl rfl, List.forall_mem_cons.mpr ⟨am_in2 (k := 161) rfl rfl, List.forall_mem_cons.mpr ⟨am_in2 (k := 163) rfl rfl, fun _ h => absurd h List.not_mem_nil⟩⟩⟩⟩⟩⟩⟩⟩⟩⟩
theorem nmX9 : ∀ a, a < 10 → ∀ b, b < 10 → a ≠ b → (TX9 a).2.1 ≠ (TX9 b).2.1 := by decide +kernel
theorem tyX9_ok : ∀ k, k < 10 → parseFieldDescriptor (TX9 k).2.2.1 = some (tyX9 k) := by decide +kernel
theorem ckX9 : am_CK 9 RX9 TX9 10 tyX9 := ⟨rfl, wsX9_in, tyX9_ok, nmX9, rfl⟩
theorem wsX10_in : ∀ w ∈ u_ws RX10 TX10 32, w ∈ am_tbl := List.forall_mem_cons.mpr ⟨am_in5 (k := 57) rfl rfl, List.forall_mem_cons.mpr ⟨am_in5 (k := 59) rfl rfl, List.forall_mem_cons.mpr ⟨am_in5 (k := 61) rfl rfl, List.forall_mem_cons.mpr ⟨am_in5 (k := 63) rfl rfl, List.forall_mem_cons.mpr ⟨am_in5 (k := 65) rfl rfl, List.forall_mem_cons.mpr ⟨am_in5 (k := 67) rfl rfl, List.forall_mem_cons.mpr ⟨am_in5 (k := 69) rfl rfl, List.forall_mem_cons.mpr ⟨am_in5 (k := 71) rfl rfl, List.forall_mem_cons.mpr ⟨am_in5 (k := 73) rfl rfl, List.forall_mem_cons.mpr ⟨am_in5 (k := 75) rfl rfl, List.forall_mem_cons.mpr ⟨am_in5 (k := 77) rfl rfl, List.forall_mem_cons.mpr ⟨am_in5 (k := 79) rfl rfl, List.forall_mem_cons.mpr ⟨am_in5 (k := 81) rfl rfl, List.forall_mem_cons.mpr ⟨am_in5 (k := 83) rfl rfl, List.forall_mem_cons.mpr ⟨am_in5 (k := 85) rfl rfl, List.forall_mem_cons.mpr ⟨am_in5 (k := 87) rfl rfl, List.forall_mem_cons.mpr ⟨am_in5 (k := 89) rfl rfl, List.forall_mem_cons.mpr ⟨am_in5 (k := 91) rfl rfl, List.forall_mem_cons.mpr ⟨am_in5 (k := 93) rfl rfl, List.forall_mem_cons.mpr ⟨am_in5 (k := 95) rfl rfl, List.forall_mem_cons.mpr ⟨am_in5 (k := 97) rfl rfl, List.forall_mem_cons.mpr ⟨am_in5 (k := 99) rfl rfl, List.forall_mem_cons.mpr ⟨am_in5 (k := 101) rfl rfl, List.forall_mem_cons.mpr ⟨am_in5 (k := 103) rfl rfl, List.forall_mem_cons.mpr ⟨am_in5 (k := 105) rfl rfl, List.forall_mem_cons.mpr ⟨am_in5 (k := 107) rfl rfl, List.forall_mem_cons.mpr ⟨am_in5 (k := 109) rfl rfl, List.forall_mem_cons.mpr ⟨am_in5 (k := 111) rfl rfl, List.forall_mem_cons.mpr ⟨am_in5 (k := 113) rfl rfl, List.forall_mem_cons.mpr ⟨am_in5 (k := 115) rfl rfl, List.forall_mem_cons.mpr ⟨am_in5 (k := 117) rfl rfl, List.forall_mem_cons.mpr ⟨am_in5 (k := 119) rfl rfl, fun _ h => absurd h List.not_mem_nil⟩⟩⟩⟩⟩⟩⟩⟩⟩⟩⟩⟩⟩⟩⟩⟩⟩⟩⟩⟩⟩⟩⟩⟩⟩⟩⟩⟩⟩⟩⟩⟩
theorem nmX10 : ∀ a, a < 32 → ∀ b, b < 32 → a ≠ b → (TX10 a).2.1 ≠ (TX10 b).2.1 := by decide +kernel
theorem tyX10_ok : ∀ k, k < 32 → parseFieldDescriptor (TX10 k).2.2.1 = some (tyX10 k) := by decide +kernel
theorem ckX10 : am_CK 10 RX10 TX10 32 tyX10 := ⟨rfl, wsX10_in, tyX10_ok, nmX10, rfl⟩
