def R_P : String := "PartBox"
def T_P : u_T := fun k => match k with
  | 0 => ("PartBox", "row", "LPartBox$Bytes;", true)
  | 1 => ("PartBox", "typed", "LPartBox$Bytes;", true)
  | 2 => ("PartBox", "checker", "LPartBox$Checker;", true)
  | 3 => ("PartBox", "box", "LPartBox$Box;", true)
  | _ => ("PartBox", "reader", "LPartBox$Reader;", true)
def ty_P : Nat → FieldType := fun k => match k with
  | 0 => .object "PartBox$Bytes"
  | 1 => .object "PartBox$Bytes"
  | 2 => .object "PartBox$Checker"
  | 3 => .object "PartBox$Box"
  | _ => .object "PartBox$Reader"
def R_X : String := "PartBox$Box"
def T_X : u_T := fun k => match k with
  | 0 => ("PartBox$Box", "entries", "[LPartBox$Entry;", true)
  | 1 => ("PartBox$Box", "store", "LPartBox$Bytes;", true)
  | _ => ("PartBox$Box", "used", "I", false)
def ty_X : Nat → FieldType := fun k => match k with
  | 0 => .array (.object "PartBox$Entry")
  | 1 => .object "PartBox$Bytes"
  | _ => .int
def R_B : String := "PartBox$Bytes"
def T_B : u_T := fun k => match k with
  | 0 => ("PartBox$Bytes", "cells", "[B", true)
  | _ => ("PartBox$Bytes", "used", "I", false)
def ty_B : Nat → FieldType := fun k => match k with
  | 0 => .array .byte
  | _ => .int
def R_C : String := "PartBox$Checker"
def T_C : u_T := fun k => match k with
  | _ => ("PartBox$Checker", "eightSteps", "[I", true)
def ty_C : Nat → FieldType := fun k => match k with
  | _ => .array .int
def R_E : String := "PartBox$Entry"
def T_E : u_T := fun k => match k with
  | 0 => ("PartBox$Entry", "name", "LPartBox$Bytes;", true)
  | 1 => ("PartBox$Entry", "method", "I", false)
  | 2 => ("PartBox$Entry", "start", "I", false)
  | 3 => ("PartBox$Entry", "byteCount", "I", false)
  | 4 => ("PartBox$Entry", "size", "I", false)
  | _ => ("PartBox$Entry", "check", "I", false)
def ty_E : Nat → FieldType := fun k => match k with
  | 0 => .object "PartBox$Bytes"
  | 1 => .int
  | 2 => .int
  | 3 => .int
  | 4 => .int
  | _ => .int
def R_F : String := "PartBox$Facts"
def T_F : u_T := fun k => match k with
  | 0 => ("PartBox$Facts", "flags", "I", false)
  | 1 => ("PartBox$Facts", "method", "I", false)
  | 2 => ("PartBox$Facts", "check", "J", false)
  | 3 => ("PartBox$Facts", "byteCount", "J", false)
  | 4 => ("PartBox$Facts", "size", "J", false)
  | 5 => ("PartBox$Facts", "nameLength", "I", false)
  | _ => ("PartBox$Facts", "extraLength", "I", false)
def ty_F : Nat → FieldType := fun k => match k with
  | 0 => .int
  | 1 => .int
  | 2 => .long
  | 3 => .long
  | 4 => .long
  | 5 => .int
  | _ => .int
def R_G : String := "PartBox$Finding"
def T_G : u_T := fun k => match k with
  | 0 => ("PartBox$Finding", "facts", "LPartBox$Facts;", true)
  | 1 => ("PartBox$Finding", "nameStart", "I", false)
  | 2 => ("PartBox$Finding", "directoryHeadEnd", "I", false)
  | 3 => ("PartBox$Finding", "head", "J", false)
  | 4 => ("PartBox$Finding", "firstByte", "I", false)
  | _ => ("PartBox$Finding", "end", "I", false)
def ty_G : Nat → FieldType := fun k => match k with
  | 0 => .object "PartBox$Facts"
  | 1 => .int
  | 2 => .int
  | 3 => .long
  | 4 => .int
  | _ => .int
def R_R : String := "PartBox$Reader"
def T_R : u_T := fun k => match k with
  | 0 => ("PartBox$Reader", "row", "LPartBox$Bytes;", true)
  | 1 => ("PartBox$Reader", "checker", "LPartBox$Checker;", true)
  | 2 => ("PartBox$Reader", "findings", "[LPartBox$Finding;", true)
  | 3 => ("PartBox$Reader", "headFacts", "LPartBox$Facts;", true)
  | 4 => ("PartBox$Reader", "order", "[I", true)
  | 5 => ("PartBox$Reader", "fault", "I", false)
  | 6 => ("PartBox$Reader", "place", "I", false)
  | 7 => ("PartBox$Reader", "entry", "I", false)
  | 8 => ("PartBox$Reader", "endPlace", "I", false)
  | 9 => ("PartBox$Reader", "directoryPlace", "I", false)
  | 10 => ("PartBox$Reader", "found", "I", false)
  | 11 => ("PartBox$Reader", "allBytes", "J", false)
  | _ => ("PartBox$Reader", "allSizes", "J", false)
def ty_R : Nat → FieldType := fun k => match k with
  | 0 => .object "PartBox$Bytes"
  | 1 => .object "PartBox$Checker"
  | 2 => .array (.object "PartBox$Finding")
  | 3 => .object "PartBox$Facts"
  | 4 => .array .int
  | 5 => .int
  | 6 => .int
  | 7 => .int
  | 8 => .int
  | 9 => .int
  | 10 => .int
  | 11 => .long
  | _ => .long
def R_M : String := "PartBoxModel"
def T_M : u_T := fun k => match k with
  | 0 => ("PartBoxModel", "code", "I", false)
  | 1 => ("PartBoxModel", "length", "I", false)
  | 2 => ("PartBoxModel", "row", "[B", true)
  | 3 => ("PartBoxModel", "nameLength", "I", false)
  | 4 => ("PartBoxModel", "typed", "[I", true)
  | 5 => ("PartBoxModel", "entries", "I", false)
  | 6 => ("PartBoxModel", "names", "[I", true)
  | 7 => ("PartBoxModel", "nameLengths", "[I", true)
  | 8 => ("PartBoxModel", "methods", "[I", true)
  | 9 => ("PartBoxModel", "begins", "[I", true)
  | 10 => ("PartBoxModel", "lengths", "[I", true)
  | 11 => ("PartBoxModel", "sizes", "[I", true)
  | 12 => ("PartBoxModel", "checks", "[I", true)
  | 13 => ("PartBoxModel", "used", "I", false)
  | 14 => ("PartBoxModel", "heap", "[B", false)
  | 15 => ("PartBoxModel", "other", "[B", false)
  | 16 => ("PartBoxModel", "fault", "I", false)
  | 17 => ("PartBoxModel", "place", "I", false)
  | 18 => ("PartBoxModel", "entry", "I", false)
  | 19 => ("PartBoxModel", "limit", "I", false)
  | 20 => ("PartBoxModel", "endPlace", "I", false)
  | 21 => ("PartBoxModel", "dirPlace", "J", false)
  | 22 => ("PartBoxModel", "heads", "I", false)
  | 23 => ("PartBoxModel", "dirAt", "[I", true)
  | 24 => ("PartBoxModel", "headAt", "[J", true)
  | 25 => ("PartBoxModel", "dataAt", "[J", true)
  | 26 => ("PartBoxModel", "tailEnd", "[J", true)
  | 27 => ("PartBoxModel", "taken", "[Z", true)
  | _ => ("PartBoxModel", "out", "I", false)
def ty_M : Nat → FieldType := fun k => match k with
  | 0 => .int
  | 1 => .int
  | 2 => .array .byte
  | 3 => .int
  | 4 => .array .int
  | 5 => .int
  | 6 => .array .int
  | 7 => .array .int
  | 8 => .array .int
  | 9 => .array .int
  | 10 => .array .int
  | 11 => .array .int
  | 12 => .array .int
  | 13 => .int
  | 14 => .array .byte
  | 15 => .array .byte
  | 16 => .int
  | 17 => .int
  | 18 => .int
  | 19 => .int
  | 20 => .int
  | 21 => .long
  | 22 => .int
  | 23 => .array .int
  | 24 => .array .long
  | 25 => .array .long
  | 26 => .array .long
  | 27 => .array .boolean
  | _ => .int
abbrev mm_cl : List vw_C := [(R_P, T_P, 5), (R_X, T_X, 3), (R_B, T_B, 2), (R_C, T_C, 1), (R_E, T_E, 6), (R_F, T_F, 7), (R_G, T_G, 6), (R_R, T_R, 13), (R_M, T_M, 29)]
def mm_tys (k : Nat → ClassId) : List (ClassId × FieldType) := [(k 0, .byte), (k 1, .int), (k 2, .long), (k 3, .boolean), (k 4, .object "PartBox$Entry"), (k 5, .object "PartBox$Finding")]
def mm_kind : Cond → Bool
  | .fieldLinkNest .. => true
  | .methodLinkNest .. => true
  | .declares _ => true
  | .castable .. => true
  | .arrayOver (.object _) => true
  | _ => false
def mm_T : List Cond := lw_tbl.filter goodWord
def mm_NW : List Cond := tables_1.filter mm_kind
def mm_ST : List (String × String × String) := [("java/lang/Throwable", "UNASSIGNED_STACK", "[Ljava/lang/StackTraceElement;"), ("java/lang/Throwable", "SUPPRESSED_SENTINEL", "Ljava/util/List;")]
theorem mm_T_good : ∀ w ∈ mm_T, goodWord w = true := fun w hw => (List.mem_filter.mp hw).2
theorem mm_NW_ok : ∀ w ∈ mm_NW, mm_kind w = true := fun w hw => (List.mem_filter.mp hw).2
theorem mm_in {w : Cond} (i : Nat) (h : tables_1[i]? = some w) (hg : goodWord w = true) : w ∈ mm_T := List.mem_filter.mpr ⟨List.mem_append_right _ (List.mem_of_getElem? h), hg⟩
theorem mm_inN {w : Cond} (i : Nat) (h : tables_1[i]? = some w) (hg : mm_kind w = true) : w ∈ mm_NW := List.mem_filter.mpr ⟨List.mem_of_getElem? h, hg⟩
theorem mm_inS {q : MethodName × Nat} (i : Nat) (h : lw_privs[i]? = some q) (hg : goodWord (Cond.selects q.1.cls q.1 q.1) = true) : Cond.selects q.1.cls q.1 q.1 ∈ mm_T := List.mem_filter.mpr ⟨List.mem_append_left _ (List.mem_map.mpr ⟨q, List.mem_of_getElem? h, rfl⟩), hg⟩
def mm_SR : List (String × Nat × String) := [("PartBox", 51, "the row would be too long"), ("PartBox", 64, "the row has not so many bytes"), ("PartBox", 72, "the row has no such byte"), ("PartBox", 75, "not a byte"), ("PartBox", 85, "not a character of a name"), ("PartBox", 87, "the name would be too long"), ("PartBox", 96, "no name, or that of an entry"), ("PartBox", 193, "the box is full"), ("PartBox", 106, "no name, or that of an entry, or a size below 0"), ("PartBox", 112, "no such entry"), ("PartBox", 145, "nothing of an entry"), ("PartBox", 147, "no such entry, or no such byte of it"), ("PartBox", 162, "not a limit"), ("PartBox", 180, "nothing of a fault")]
def mm_NC : List (String × String) := [("java/lang/IllegalStateException", "java/lang/IllegalArgumentException"), ("java/lang/IllegalStateException", "java/lang/IndexOutOfBoundsException"), ("java/lang/IllegalArgumentException", "java/lang/IllegalStateException"), ("java/lang/IllegalArgumentException", "java/lang/IndexOutOfBoundsException"), ("java/lang/IndexOutOfBoundsException", "java/lang/IllegalStateException"), ("java/lang/IndexOutOfBoundsException", "java/lang/IllegalArgumentException")]
