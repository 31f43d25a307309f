def RX0 : String := "ParcelRing$Child"
def TX0 : u_T := fun k => match k with
  | 0 => ("ParcelRing$Child", "hold", "I", false)
  | 1 => ("ParcelRing$Child", "had", "I", false)
  | _ => ("ParcelRing$Child", "out", "I", false)
def tyX0 : Nat → FieldType := fun k => match k with
  | 0 => .int
  | 1 => .int
  | _ => .int
abbrev wsX00 : List Cond := u_ws RX0 TX0 3
theorem nmX0 : ∀ a, a < 3 → ∀ b, b < 3 → a ≠ b → (TX0 a).2.1 ≠ (TX0 b).2.1 := by decide +kernel
theorem tyX0_ok : ∀ k, k < 3 → parseFieldDescriptor (TX0 k).2.2.1 = some (tyX0 k) := by decide +kernel
def RX1 : String := "ParcelRing$Reader"
def TX1 : u_T := fun k => match k with
  | 0 => ("ParcelRing$Reader", "bytes", "[I", true)
  | 1 => ("ParcelRing$Reader", "length", "I", false)
  | 2 => ("ParcelRing$Reader", "token", "I", false)
  | 3 => ("ParcelRing$Reader", "from", "I", false)
  | 4 => ("ParcelRing$Reader", "until", "I", false)
  | 5 => ("ParcelRing$Reader", "fault", "I", false)
  | 6 => ("ParcelRing$Reader", "key", "I", false)
  | 7 => ("ParcelRing$Reader", "leaves", "I", false)
  | 8 => ("ParcelRing$Reader", "steps", "[I", true)
  | _ => ("ParcelRing$Reader", "stepCount", "I", false)
def tyX1 : Nat → FieldType := fun k => match k with
  | 0 => .array .int
  | 1 => .int
  | 2 => .int
  | 3 => .int
  | 4 => .int
  | 5 => .int
  | 6 => .int
  | 7 => .int
  | 8 => .array .int
  | _ => .int
abbrev wsX10 : List Cond := u_ws RX1 TX1 10
theorem nmX1 : ∀ a, a < 10 → ∀ b, b < 10 → a ≠ b → (TX1 a).2.1 ≠ (TX1 b).2.1 := by decide +kernel
theorem tyX1_ok : ∀ k, k < 10 → parseFieldDescriptor (TX1 k).2.2.1 = some (tyX1 k) := by decide +kernel
def RX2 : String := "ParcelRing$Ring"
def TX2 : u_T := fun k => match k with
  | 0 => ("ParcelRing$Ring", "children", "[LParcelRing$Child;", true)
  | 1 => ("ParcelRing$Ring", "childCount", "I", false)
  | 2 => ("ParcelRing$Ring", "papers", "[I", true)
  | 3 => ("ParcelRing$Ring", "paperCount", "I", false)
  | 4 => ("ParcelRing$Ring", "stops", "[LParcelRing$Stop;", true)
  | 5 => ("ParcelRing$Ring", "stopCount", "I", false)
  | 6 => ("ParcelRing$Ring", "texts", "[LParcelRing$Text;", true)
  | 7 => ("ParcelRing$Ring", "textCount", "I", false)
  | 8 => ("ParcelRing$Ring", "laws", "[I", true)
  | 9 => ("ParcelRing$Ring", "measured", "[I", true)
  | 10 => ("ParcelRing$Ring", "taken", "I", false)
  | 11 => ("ParcelRing$Ring", "way", "I", false)
  | 12 => ("ParcelRing$Ring", "at", "I", false)
  | 13 => ("ParcelRing$Ring", "outRule", "I", false)
  | 14 => ("ParcelRing$Ring", "time", "I", false)
  | 15 => ("ParcelRing$Ring", "sweets", "I", false)
  | 16 => ("ParcelRing$Ring", "forfeits", "I", false)
  | _ => ("ParcelRing$Ring", "z", "I", false)
def tyX2 : Nat → FieldType := fun k => match k with
  | 0 => .array (.object "ParcelRing$Child")
  | 1 => .int
  | 2 => .array .int
  | 3 => .int
  | 4 => .array (.object "ParcelRing$Stop")
  | 5 => .int
  | 6 => .array (.object "ParcelRing$Text")
  | 7 => .int
  | 8 => .array .int
  | 9 => .array .int
  | 10 => .int
  | 11 => .int
  | 12 => .int
  | 13 => .int
  | 14 => .int
  | 15 => .int
  | 16 => .int
  | _ => .int
abbrev wsX20 : List Cond := u_ws RX2 TX2 18
theorem nmX2 : ∀ a, a < 18 → ∀ b, b < 18 → a ≠ b → (TX2 a).2.1 ≠ (TX2 b).2.1 := by decide +kernel
theorem tyX2_ok : ∀ k, k < 18 → parseFieldDescriptor (TX2 k).2.2.1 = some (tyX2 k) := by decide +kernel
def RX3 : String := "ParcelRing$Sheet"
def TX3 : u_T := fun k => match k with
  | 0 => ("ParcelRing$Sheet", "sort", "I", false)
  | 1 => ("ParcelRing$Sheet", "length", "I", false)
  | _ => ("ParcelRing$Sheet", "places", "[I", true)
def tyX3 : Nat → FieldType := fun k => match k with
  | 0 => .int
  | 1 => .int
  | _ => .array .int
abbrev wsX30 : List Cond := u_ws RX3 TX3 3
theorem nmX3 : ∀ a, a < 3 → ∀ b, b < 3 → a ≠ b → (TX3 a).2.1 ≠ (TX3 b).2.1 := by decide +kernel
theorem tyX3_ok : ∀ k, k < 3 → parseFieldDescriptor (TX3 k).2.2.1 = some (tyX3 k) := by decide +kernel
def RX4 : String := "ParcelRing$Slot"
def TX4 : u_T := fun k => match k with
  | 0 => ("ParcelRing$Slot", "thing", "I", false)
  | 1 => ("ParcelRing$Slot", "stop", "LParcelRing$Stop;", true)
  | 2 => ("ParcelRing$Slot", "row", "LParcelRing$Sheet;", true)
  | _ => ("ParcelRing$Slot", "number", "I", false)
def tyX4 : Nat → FieldType := fun k => match k with
  | 0 => .int
  | 1 => .object "ParcelRing$Stop"
  | 2 => .object "ParcelRing$Sheet"
  | _ => .int
abbrev wsX40 : List Cond := u_ws RX4 TX4 4
theorem nmX4 : ∀ a, a < 4 → ∀ b, b < 4 → a ≠ b → (TX4 a).2.1 ≠ (TX4 b).2.1 := by decide +kernel
theorem tyX4_ok : ∀ k, k < 4 → parseFieldDescriptor (TX4 k).2.2.1 = some (tyX4 k) := by decide +kernel
def RX5 : String := "ParcelRing$Stop"
def TX5 : u_T := fun k => match k with
  | 0 => ("ParcelRing$Stop", "kind", "I", false)
  | 1 => ("ParcelRing$Stop", "seconds", "I", false)
  | _ => ("ParcelRing$Stop", "wish", "I", false)
def tyX5 : Nat → FieldType := fun k => match k with
  | 0 => .int
  | 1 => .int
  | _ => .int
abbrev wsX50 : List Cond := u_ws RX5 TX5 3
theorem nmX5 : ∀ a, a < 3 → ∀ b, b < 3 → a ≠ b → (TX5 a).2.1 ≠ (TX5 b).2.1 := by decide +kernel
theorem tyX5_ok : ∀ k, k < 3 → parseFieldDescriptor (TX5 k).2.2.1 = some (tyX5 k) := by decide +kernel
def RX6 : String := "ParcelRing$Text"
def TX6 : u_T := fun k => match k with
  | 0 => ("ParcelRing$Text", "key", "I", true)
  | 1 => ("ParcelRing$Text", "leaves", "I", true)
  | 2 => ("ParcelRing$Text", "steps", "[I", true)
  | _ => ("ParcelRing$Text", "stack", "[I", true)
def tyX6 : Nat → FieldType := fun k => match k with
  | 0 => .int
  | 1 => .int
  | 2 => .array .int
  | _ => .array .int
abbrev wsX60 : List Cond := u_ws RX6 TX6 4
theorem nmX6 : ∀ a, a < 4 → ∀ b, b < 4 → a ≠ b → (TX6 a).2.1 ≠ (TX6 b).2.1 := by decide +kernel
theorem tyX6_ok : ∀ k, k < 4 → parseFieldDescriptor (TX6 k).2.2.1 = some (tyX6 k) := by decide +kernel
def RX7 : String := "ParcelRing"
def TX7 : u_T := fun k => match k with
  | 0 => ("ParcelRing", "now", "LParcelRing$Ring;", true)
  | 1 => ("ParcelRing", "thought", "LParcelRing$Ring;", true)
  | 2 => ("ParcelRing", "image", "LParcelRing$Ring;", true)
  | 3 => ("ParcelRing", "kept", "Z", false)
  | 4 => ("ParcelRing", "tape", "LParcelRing$Reader;", true)
  | 5 => ("ParcelRing", "sheets", "[LParcelRing$Sheet;", true)
  | 6 => ("ParcelRing", "slots", "[LParcelRing$Slot;", true)
  | 7 => ("ParcelRing", "waiting", "[I", true)
  | _ => ("ParcelRing", "waits", "I", false)
def tyX7 : Nat → FieldType := fun k => match k with
  | 0 => .object "ParcelRing$Ring"
  | 1 => .object "ParcelRing$Ring"
  | 2 => .object "ParcelRing$Ring"
  | 3 => .boolean
  | 4 => .object "ParcelRing$Reader"
  | 5 => .array (.object "ParcelRing$Sheet")
  | 6 => .array (.object "ParcelRing$Slot")
  | 7 => .array .int
  | _ => .int
abbrev wsX70 : List Cond := u_ws RX7 TX7 9
theorem nmX7 : ∀ a, a < 9 → ∀ b, b < 9 → a ≠ b → (TX7 a).2.1 ≠ (TX7 b).2.1 := by decide +kernel
theorem tyX7_ok : ∀ k, k < 9 → parseFieldDescriptor (TX7 k).2.2.1 = some (tyX7 k) := by decide +kernel
def RX8 : String := "ParcelRingModel"
def TX8 : u_T := fun k => match k with
  | 0 => ("ParcelRingModel", "s", "[I", true)
  | 1 => ("ParcelRingModel", "image", "[I", true)
  | 2 => ("ParcelRingModel", "aside", "[I", true)
  | 3 => ("ParcelRingModel", "hasImage", "Z", false)
  | 4 => ("ParcelRingModel", "tSort", "[I", true)
  | 5 => ("ParcelRingModel", "tSize", "[I", true)
  | 6 => ("ParcelRingModel", "tNumber", "[I", true)
  | 7 => ("ParcelRingModel", "held", "[I", true)
  | 8 => ("ParcelRingModel", "heldNumber", "[I", true)
  | 9 => ("ParcelRingModel", "heldWorth", "[I", true)
  | 10 => ("ParcelRingModel", "heldSize", "[I", true)
  | 11 => ("ParcelRingModel", "heldRow", "[I", true)
  | 12 => ("ParcelRingModel", "close", "[I", true)
  | 13 => ("ParcelRingModel", "tape", "[I", true)
  | 14 => ("ParcelRingModel", "taped", "I", false)
  | 15 => ("ParcelRingModel", "begin", "I", false)
  | 16 => ("ParcelRingModel", "behind", "I", false)
  | 17 => ("ParcelRingModel", "token", "I", false)
  | 18 => ("ParcelRingModel", "number", "I", false)
  | 19 => ("ParcelRingModel", "letter", "I", false)
  | 20 => ("ParcelRingModel", "deep", "I", false)
  | 21 => ("ParcelRingModel", "turned", "I", false)
  | 22 => ("ParcelRingModel", "laid", "I", false)
  | 23 => ("ParcelRingModel", "laidAt", "I", false)
  | 24 => ("ParcelRingModel", "said", "I", false)
  | 25 => ("ParcelRingModel", "named", "[I", true)
  | 26 => ("ParcelRingModel", "pile", "[I", true)
  | 27 => ("ParcelRingModel", "carried", "[I", true)
  | 28 => ("ParcelRingModel", "waits", "[I", true)
  | 29 => ("ParcelRingModel", "waiting", "I", false)
  | _ => ("ParcelRingModel", "rowDue", "[I", true)
def tyX8 : Nat → FieldType := fun k => match k with
  | 0 => .array .int
  | 1 => .array .int
  | 2 => .array .int
  | 3 => .boolean
  | 4 => .array .int
  | 5 => .array .int
  | 6 => .array .int
  | 7 => .array .int
  | 8 => .array .int
  | 9 => .array .int
  | 10 => .array .int
  | 11 => .array .int
  | 12 => .array .int
  | 13 => .array .int
  | 14 => .int
  | 15 => .int
  | 16 => .int
  | 17 => .int
  | 18 => .int
  | 19 => .int
  | 20 => .int
  | 21 => .int
  | 22 => .int
  | 23 => .int
  | 24 => .int
  | 25 => .array .int
  | 26 => .array .int
  | 27 => .array .int
  | 28 => .array .int
  | 29 => .int
  | _ => .array .int
abbrev wsX80 : List Cond := u_ws RX8 TX8 31
theorem nmX8 : ∀ a, a < 31 → ∀ b, b < 31 → a ≠ b → (TX8 a).2.1 ≠ (TX8 b).2.1 := by decide +kernel
theorem tyX8_ok : ∀ k, k < 31 → parseFieldDescriptor (TX8 k).2.2.1 = some (tyX8 k) := by decide +kernel
def GW : List Cond := lw_tbl.filter goodWord
theorem gw_of {w : Cond} (i : Nat) (h : tables_1[i]? = some w) (hg : goodWord w = true) : w ∈ GW := List.mem_filter.mpr ⟨List.mem_append_right _ (List.mem_of_getElem? h), hg⟩
theorem gw_sel {w : Cond} (i : Nat) (h : (k2_sels lw_privs)[i]? = some w) (hg : goodWord w = true) : w ∈ GW := List.mem_filter.mpr ⟨List.mem_append_left _ (List.mem_of_getElem? h), hg⟩
theorem gw_good {w : Cond} (h : w ∈ GW) : goodWord w = true := (List.mem_filter.mp h).2
theorem gw_in : GoodIn GW GW := fun w h => ⟨h, good_of_word (gw_good h)⟩
theorem gw_cons {w : Cond} (h : w ∈ GW) : GoodIn GW (w :: GW) := fun x hx => (List.mem_cons.mp hx).elim (fun e => by rw [e]; exact gw_in w h) (gw_in x)
/-- the classes whose objects the memory holds, by their numbers -/
def cls : List vw_C := [(RX0, TX0, 3), (RX1, TX1, 10), (RX2, TX2, 18), (RX3, TX3, 3), (RX4, TX4, 4), (RX5, TX5, 3), (RX6, TX6, 4), (RX7, TX7, 9), (RX8, TX8, 31)]
theorem inX0 : ∀ w ∈ u_ws RX0 TX0 3, w ∈ GW := by
  intro w hw
  obtain ⟨j, hj, rfl⟩ := List.mem_map.mp hw
  have hj := List.mem_range.mp hj
  match j, hj with
  | 0, _ => exact gw_of 52 (by decide +kernel) (by decide +kernel)
  | 1, _ => exact gw_of 54 (by decide +kernel) (by decide +kernel)
  | 2, _ => exact gw_of 56 (by decide +kernel) (by decide +kernel)
  | n + 3, hj => omega
theorem inX1 : ∀ w ∈ u_ws RX1 TX1 10, w ∈ GW := by
  intro w hw
  obtain ⟨j, hj, rfl⟩ := List.mem_map.mp hw
  have hj := List.mem_range.mp hj
  match j, hj with
  | 0, _ => exact gw_of 170 (by decide +kernel) (by decide +kernel)
  | 1, _ => exact gw_of 172 (by decide +kernel) (by decide +kernel)
  | 2, _ => exact gw_of 174 (by decide +kernel) (by decide +kernel)
  | 3, _ => exact gw_of 176 (by decide +kernel) (by decide +kernel)
  | 4, _ => exact gw_of 178 (by decide +kernel) (by decide +kernel)
  | 5, _ => exact gw_of 180 (by decide +kernel) (by decide +kernel)
  | 6, _ => exact gw_of 182 (by decide +kernel) (by decide +kernel)
  | 7, _ => exact gw_of 184 (by decide +kernel) (by decide +kernel)
  | 8, _ => exact gw_of 186 (by decide +kernel) (by decide +kernel)
  | 9, _ => exact gw_of 188 (by decide +kernel) (by decide +kernel)
  | n + 10, hj => omega
theorem inX2 : ∀ w ∈ u_ws RX2 TX2 18, w ∈ GW := by
  intro w hw
  obtain ⟨j, hj, rfl⟩ := List.mem_map.mp hw
  have hj := List.mem_range.mp hj
  match j, hj with
  | 0, _ => exact gw_of 116 (by decide +kernel) (by decide +kernel)
  | 1, _ => exact gw_of 118 (by decide +kernel) (by decide +kernel)
  | 2, _ => exact gw_of 120 (by decide +kernel) (by decide +kernel)
  | 3, _ => exact gw_of 122 (by decide +kernel) (by decide +kernel)
  | 4, _ => exact gw_of 124 (by decide +kernel) (by decide +kernel)
  | 5, _ => exact gw_of 126 (by decide +kernel) (by decide +kernel)
  | 6, _ => exact gw_of 128 (by decide +kernel) (by decide +kernel)
  | 7, _ => exact gw_of 130 (by decide +kernel) (by decide +kernel)
  | 8, _ => exact gw_of 132 (by decide +kernel) (by decide +kernel)
  | 9, _ => exact gw_of 134 (by decide +kernel) (by decide +kernel)
  | 10, _ => exact gw_of 136 (by decide +kernel) (by decide +kernel)
  | 11, _ => exact gw_of 138 (by decide +kernel) (by decide +kernel)
  | 12, _ => exact gw_of 140 (by decide +kernel) (by decide +kernel)
  | 13, _ => exact gw_of 142 (by decide +kernel) (by decide +kernel)
  | 14, _ => exact gw_of 144 (by decide +kernel) (by decide +kernel)
  | 15, _ => exact gw_of 146 (by decide +kernel) (by decide +kernel)
  | 16, _ => exact gw_of 148 (by decide +kernel) (by decide +kernel)
  | 17, _ => exact gw_of 150 (by decide +kernel) (by decide +kernel)
  | n + 18, hj => omega
theorem inX3 : ∀ w ∈ u_ws RX3 TX3 3, w ∈ GW := by
  intro w hw
  obtain ⟨j, hj, rfl⟩ := List.mem_map.mp hw
  have hj := List.mem_range.mp hj
  match j, hj with
  | 0, _ => exact gw_of 206 (by decide +kernel) (by decide +kernel)
  | 1, _ => exact gw_of 208 (by decide +kernel) (by decide +kernel)
  | 2, _ => exact gw_of 210 (by decide +kernel) (by decide +kernel)
  | n + 3, hj => omega
theorem inX4 : ∀ w ∈ u_ws RX4 TX4 4, w ∈ GW := by
  intro w hw
  obtain ⟨j, hj, rfl⟩ := List.mem_map.mp hw
  have hj := List.mem_range.mp hj
  match j, hj with
  | 0, _ => exact gw_of 229 (by decide +kernel) (by decide +kernel)
  | 1, _ => exact gw_of 231 (by decide +kernel) (by decide +kernel)
  | 2, _ => exact gw_of 233 (by decide +kernel) (by decide +kernel)
  | 3, _ => exact gw_of 235 (by decide +kernel) (by decide +kernel)
  | n + 4, hj => omega
theorem inX5 : ∀ w ∈ u_ws RX5 TX5 3, w ∈ GW := by
  intro w hw
  obtain ⟨j, hj, rfl⟩ := List.mem_map.mp hw
  have hj := List.mem_range.mp hj
  match j, hj with
  | 0, _ => exact gw_of 74 (by decide +kernel) (by decide +kernel)
  | 1, _ => exact gw_of 76 (by decide +kernel) (by decide +kernel)
  | 2, _ => exact gw_of 78 (by decide +kernel) (by decide +kernel)
  | n + 3, hj => omega
theorem inX6 : ∀ w ∈ u_ws RX6 TX6 4, w ∈ GW := by
  intro w hw
  obtain ⟨j, hj, rfl⟩ := List.mem_map.mp hw
  have hj := List.mem_range.mp hj
  match j, hj with
  | 0, _ => exact gw_of 773 (by decide +kernel) (by decide +kernel)
  | 1, _ => exact gw_of 775 (by decide +kernel) (by decide +kernel)
  | 2, _ => exact gw_of 777 (by decide +kernel) (by decide +kernel)
  | 3, _ => exact gw_of 779 (by decide +kernel) (by decide +kernel)
  | n + 4, hj => omega
theorem inX7 : ∀ w ∈ u_ws RX7 TX7 9, w ∈ GW := by
  intro w hw
  obtain ⟨j, hj, rfl⟩ := List.mem_map.mp hw
  have hj := List.mem_range.mp hj
  match j, hj with
  | 0, _ => exact gw_of 247 (by decide +kernel) (by decide +kernel)
  | 1, _ => exact gw_of 249 (by decide +kernel) (by decide +kernel)
  | 2, _ => exact gw_of 251 (by decide +kernel) (by decide +kernel)
  | 3, _ => exact gw_of 253 (by decide +kernel) (by decide +kernel)
  | 4, _ => exact gw_of 255 (by decide +kernel) (by decide +kernel)
  | 5, _ => exact gw_of 257 (by decide +kernel) (by decide +kernel)
  | 6, _ => exact gw_of 259 (by decide +kernel) (by decide +kernel)
  | 7, _ => exact gw_of 261 (by decide +kernel) (by decide +kernel)
  | 8, _ => exact gw_of 263 (by decide +kernel) (by decide +kernel)
  | n + 9, hj => omega
theorem inX8 : ∀ w ∈ u_ws RX8 TX8 31, w ∈ GW := by
  intro w hw
  obtain ⟨j, hj, rfl⟩ := List.mem_map.mp hw
  have hj := List.mem_range.mp hj
  match j, hj with
  | 0, _ => exact gw_of 924 (by decide +kernel) (by decide +kernel)
  | 1, _ => exact gw_of 926 (by decide +kernel) (by decide +kernel)
  | 2, _ => exact gw_of 928 (by decide +kernel) (by decide +kernel)
  | 3, _ => exact gw_of 930 (by decide +kernel) (by decide +kernel)
  | 4, _ => exact gw_of 932 (by decide +kernel) (by decide +kernel)
  | 5, _ => exact gw_of 934 (by decide +kernel) (by decide +kernel)
  | 6, _ => exact gw_of 936 (by decide +kernel) (by decide +kernel)
  | 7, _ => exact gw_of 938 (by decide +kernel) (by decide +kernel)
  | 8, _ => exact gw_of 940 (by decide +kernel) (by decide +kernel)
  | 9, _ => exact gw_of 942 (by decide +kernel) (by decide +kernel)
  | 10, _ => exact gw_of 944 (by decide +kernel) (by decide +kernel)
  | 11, _ => exact gw_of 946 (by decide +kernel) (by decide +kernel)
  | 12, _ => exact gw_of 948 (by decide +kernel) (by decide +kernel)
  | 13, _ => exact gw_of 950 (by decide +kernel) (by decide +kernel)
  | 14, _ => exact gw_of 952 (by decide +kernel) (by decide +kernel)
  | 15, _ => exact gw_of 954 (by decide +kernel) (by decide +kernel)
  | 16, _ => exact gw_of 956 (by decide +kernel) (by decide +kernel)
  | 17, _ => exact gw_of 958 (by decide +kernel) (by decide +kernel)
  | 18, _ => exact gw_of 960 (by decide +kernel) (by decide +kernel)
  | 19, _ => exact gw_of 962 (by decide +kernel) (by decide +kernel)
  | 20, _ => exact gw_of 964 (by decide +kernel) (by decide +kernel)
  | 21, _ => exact gw_of 966 (by decide +kernel) (by decide +kernel)
  | 22, _ => exact gw_of 968 (by decide +kernel) (by decide +kernel)
  | 23, _ => exact gw_of 970 (by decide +kernel) (by decide +kernel)
  | 24, _ => exact gw_of 972 (by decide +kernel) (by decide +kernel)
  | 25, _ => exact gw_of 974 (by decide +kernel) (by decide +kernel)
  | 26, _ => exact gw_of 976 (by decide +kernel) (by decide +kernel)
  | 27, _ => exact gw_of 978 (by decide +kernel) (by decide +kernel)
  | 28, _ => exact gw_of 980 (by decide +kernel) (by decide +kernel)
  | 29, _ => exact gw_of 982 (by decide +kernel) (by decide +kernel)
  | 30, _ => exact gw_of 984 (by decide +kernel) (by decide +kernel)
  | n + 31, hj => omega
theorem inG {ci : Nat} {q : vw_C} (h : cls[ci]? = some q) : ∀ w ∈ u_ws q.1 q.2.1 q.2.2, w ∈ GW := by
  match ci, h with
  | 0, h => cases h; exact inX0
  | 1, h => cases h; exact inX1
  | 2, h => cases h; exact inX2
  | 3, h => cases h; exact inX3
  | 4, h => cases h; exact inX4
  | 5, h => cases h; exact inX5
  | 6, h => cases h; exact inX6
  | 7, h => cases h; exact inX7
  | 8, h => cases h; exact inX8
  | n + 9, h => simp [cls] at h
def tyF : Nat → Nat → FieldType := fun ci => match ci with
  | 0 => tyX0
  | 1 => tyX1
  | 2 => tyX2
  | 3 => tyX3
  | 4 => tyX4
  | 5 => tyX5
  | 6 => tyX6
  | 7 => tyX7
  | _ => tyX8
theorem tyF_ok {ci : Nat} {q : vw_C} (h : cls[ci]? = some q) : ∀ k, k < q.2.2 → parseFieldDescriptor (q.2.1 k).2.2.1 = some (tyF ci k) := by
  match ci, h with
  | 0, h => cases h; exact tyX0_ok
  | 1, h => cases h; exact tyX1_ok
  | 2, h => cases h; exact tyX2_ok
  | 3, h => cases h; exact tyX3_ok
  | 4, h => cases h; exact tyX4_ok
  | 5, h => cases h; exact tyX5_ok
  | 6, h => cases h; exact tyX6_ok
  | 7, h => cases h; exact tyX7_ok
  | 8, h => cases h; exact tyX8_ok
  | n + 9, h => simp [cls] at h
theorem nmF {ci : Nat} {q : vw_C} (h : cls[ci]? = some q) : ∀ a, a < q.2.2 → ∀ b, b < q.2.2 → a ≠ b → (q.2.1 a).2.1 ≠ (q.2.1 b).2.1 := by
  match ci, h with
  | 0, h => cases h; exact nmX0
  | 1, h => cases h; exact nmX1
  | 2, h => cases h; exact nmX2
  | 3, h => cases h; exact nmX3
  | 4, h => cases h; exact nmX4
  | 5, h => cases h; exact nmX5
  | 6, h => cases h; exact nmX6
  | 7, h => cases h; exact nmX7
  | 8, h => cases h; exact nmX8
  | n + 9, h => simp [cls] at h
