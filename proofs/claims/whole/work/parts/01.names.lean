/-! Names, laid by prog/names.py: classes, fields, methods, the words that the tables hold -/
def gw : List Cond := lw_tbl.filter goodWord
theorem gm {w : Cond} (h : w ∈ lw_tbl) (hg : goodWord w = true) : w ∈ gw := List.mem_filter.mpr ⟨h, hg⟩
theorem gw_in {w : Cond} (h : w ∈ gw) : w ∈ lw_tbl := (List.mem_filter.mp h).1
theorem gw_ok {w : Cond} (h : w ∈ gw) : goodWord w = true := (List.mem_filter.mp h).2
theorem mt1 {w : Cond} {i : Nat} (h : tables_1_1[i]? = some w) : w ∈ lw_tbl := List.mem_append_right _ (List.mem_append_left _ (List.mem_of_getElem? h))
theorem mt2 {w : Cond} {i : Nat} (h : tables_1_2[i]? = some w) : w ∈ lw_tbl := List.mem_append_right _ (List.mem_append_right _ (List.mem_append_left _ (List.mem_of_getElem? h)))
theorem mt3 {w : Cond} {i : Nat} (h : tables_1_3[i]? = some w) : w ∈ lw_tbl := List.mem_append_right _ (List.mem_append_right _ (List.mem_append_right _ (List.mem_append_left _ (List.mem_of_getElem? h))))
theorem mt4 {w : Cond} {i : Nat} (h : tables_1_4[i]? = some w) : w ∈ lw_tbl := List.mem_append_right _ (List.mem_append_right _ (List.mem_append_right _ (List.mem_append_right _ (List.mem_of_getElem? h))))
theorem ms1 {q : MethodName × Nat} {i : Nat} (h : lw_privs_1[i]? = some q) : Cond.selects q.1.cls q.1 q.1 ∈ lw_tbl := List.mem_append_left _ (List.mem_map.mpr ⟨q, List.mem_append_left _ (List.mem_of_getElem? h), rfl⟩)
theorem ms2 {q : MethodName × Nat} {i : Nat} (h : lw_privs_2[i]? = some q) : Cond.selects q.1.cls q.1 q.1 ∈ lw_tbl := List.mem_append_left _ (List.mem_map.mpr ⟨q, List.mem_append_right _ (List.mem_append_left _ (List.mem_of_getElem? h)), rfl⟩)
theorem ms3 {q : MethodName × Nat} {i : Nat} (h : lw_privs_3[i]? = some q) : Cond.selects q.1.cls q.1 q.1 ∈ lw_tbl := List.mem_append_left _ (List.mem_map.mpr ⟨q, List.mem_append_right _ (List.mem_append_right _ (List.mem_of_getElem? h)), rfl⟩)
theorem gd0 {c : Cond} (h : c ∈ gw) : GoodIn gw (c :: gw) := fun w hw => by
  have hm : w ∈ gw := (List.mem_cons.mp hw).elim (fun e => by rw [e]; exact h) id
  exact ⟨hm, good_of_word (gw_ok hm)⟩
theorem gdV {own C : String} {idx : Nat} {y : MethodName} {c : Cond} (h1 : Cond.methodLink own idx y ∈ gw) (h2 : Cond.instanceMethod y ∈ gw) (h3 : Cond.selects C y y ∈ gw) (h4 : Cond.initialized C ∈ gw) (h5 : c ∈ gw) : GoodIn gw (wsV own idx C y (c :: gw)) := fun w hw => by
  unfold wsV at hw
  rcases List.mem_append.mp hw with hw | hw
  · have hm : w ∈ gw := by
      simp only [List.mem_cons, List.not_mem_nil, or_false] at hw
      rcases hw with rfl | rfl | rfl | rfl <;> assumption
    exact ⟨hm, good_of_word (gw_ok hm)⟩
  · exact gd0 h5 w hw
theorem gdS {own : String} {idx : Nat} {y : MethodName} {c : Cond} (h1 : Cond.methodLink own idx y ∈ gw) (h2 : Cond.static y ∈ gw) (h4 : Cond.initialized y.cls ∈ gw) (h5 : c ∈ gw) : GoodIn gw (va_wsS own idx y (c :: gw)) := fun w hw => by
  unfold va_wsS at hw
  rcases List.mem_append.mp hw with hw | hw
  · have hm : w ∈ gw := by
      simp only [List.mem_cons, List.not_mem_nil, or_false] at hw
      rcases hw with rfl | rfl | rfl <;> assumption
    exact ⟨hm, good_of_word (gw_ok hm)⟩
  · exact gd0 h5 w hw
def RX0 : String := "SharedEndings$Automaton"
def TX0 : u_T := fun k => match k with
  | 0 => ("SharedEndings$Automaton", "stateOf", "[I", true)
  | 1 => ("SharedEndings$Automaton", "members", "[I", true)
  | 2 => ("SharedEndings$Automaton", "accepting", "[Z", true)
  | 3 => ("SharedEndings$Automaton", "targets", "[I", true)
  | 4 => ("SharedEndings$Automaton", "wanted", "[I", true)
  | _ => ("SharedEndings$Automaton", "path", "[I", true)
def tyX0 : Nat → FieldType := fun k => match k with
  | 0 => .array .int
  | 1 => .array .int
  | 2 => .array .boolean
  | 3 => .array .int
  | 4 => .array .int
  | _ => .array .int
theorem nmX0 : ∀ a, a < 6 → ∀ b, b < 6 → a ≠ b → (TX0 a).2.1 ≠ (TX0 b).2.1 := by decide +kernel
theorem tyX0_ok : ∀ k, k < 6 → parseFieldDescriptor (TX0 k).2.2.1 = some (tyX0 k) := by decide +kernel
theorem hinX0 : ∀ w ∈ u_ws RX0 TX0 6, w ∈ gw := by
  intro w hw
  obtain ⟨k, hk, rfl⟩ := List.mem_map.mp hw
  rw [List.mem_range] at hk
  by_cases h0 : k = 0
  · subst h0; exact gm (mt1 (i := 86) rfl) rfl
  by_cases h1 : k = 1
  · subst h1; exact gm (mt1 (i := 88) rfl) rfl
  by_cases h2 : k = 2
  · subst h2; exact gm (mt1 (i := 90) rfl) rfl
  by_cases h3 : k = 3
  · subst h3; exact gm (mt1 (i := 92) rfl) rfl
  by_cases h4 : k = 4
  · subst h4; exact gm (mt1 (i := 94) rfl) rfl
  by_cases h5 : k = 5
  · subst h5; exact gm (mt1 (i := 96) rfl) rfl
  omega
theorem inX0 : Cond.initialized RX0 ∈ gw := gm (mt1 (i := 5) rfl) rfl
theorem isX0 : Cond.instantiable RX0 6 ∈ gw := gm (mt1 (i := 74) rfl) rfl
def RX1 : String := "SharedEndings$Finds"
def TX1 : u_T := fun k => match k with
  | 0 => ("SharedEndings$Finds", "numbers", "[I", true)
  | 1 => ("SharedEndings$Finds", "measures", "[I", true)
  | _ => ("SharedEndings$Finds", "size", "I", false)
def tyX1 : Nat → FieldType := fun k => match k with
  | 0 => .array .int
  | 1 => .array .int
  | _ => .int
theorem nmX1 : ∀ a, a < 3 → ∀ b, b < 3 → a ≠ b → (TX1 a).2.1 ≠ (TX1 b).2.1 := by decide +kernel
theorem tyX1_ok : ∀ k, k < 3 → parseFieldDescriptor (TX1 k).2.2.1 = some (tyX1 k) := by decide +kernel
theorem hinX1 : ∀ w ∈ u_ws RX1 TX1 3, w ∈ gw := by
  intro w hw
  obtain ⟨k, hk, rfl⟩ := List.mem_map.mp hw
  rw [List.mem_range] at hk
  by_cases h0 : k = 0
  · subst h0; exact gm (mt1 (i := 108) rfl) rfl
  by_cases h1 : k = 1
  · subst h1; exact gm (mt1 (i := 110) rfl) rfl
  by_cases h2 : k = 2
  · subst h2; exact gm (mt1 (i := 112) rfl) rfl
  omega
theorem inX1 : Cond.initialized RX1 ∈ gw := gm (mt1 (i := 6) rfl) rfl
theorem isX1 : Cond.instantiable RX1 3 ∈ gw := gm (mt1 (i := 100) rfl) rfl
def RX2 : String := "SharedEndings$Line"
def TX2 : u_T := fun k => match k with
  | 0 => ("SharedEndings$Line", "characters", "[C", true)
  | _ => ("SharedEndings$Line", "size", "I", false)
def tyX2 : Nat → FieldType := fun k => match k with
  | 0 => .array .char
  | _ => .int
theorem nmX2 : ∀ a, a < 2 → ∀ b, b < 2 → a ≠ b → (TX2 a).2.1 ≠ (TX2 b).2.1 := by decide +kernel
theorem tyX2_ok : ∀ k, k < 2 → parseFieldDescriptor (TX2 k).2.2.1 = some (tyX2 k) := by decide +kernel
theorem hinX2 : ∀ w ∈ u_ws RX2 TX2 2, w ∈ gw := by
  intro w hw
  obtain ⟨k, hk, rfl⟩ := List.mem_map.mp hw
  rw [List.mem_range] at hk
  by_cases h0 : k = 0
  · subst h0; exact gm (mt1 (i := 34) rfl) rfl
  by_cases h1 : k = 1
  · subst h1; exact gm (mt1 (i := 36) rfl) rfl
  omega
theorem inX2 : Cond.initialized RX2 ∈ gw := gm (mt1 (i := 2) rfl) rfl
theorem isX2 : Cond.instantiable RX2 2 ∈ gw := gm (mt1 (i := 27) rfl) rfl
def RX3 : String := "SharedEndings$Ruler"
def TX3 : u_T := fun k => match k with
  | _ => ("SharedEndings$Ruler", "distances", "[I", true)
def tyX3 : Nat → FieldType := fun k => match k with
  | _ => .array .int
theorem nmX3 : ∀ a, a < 1 → ∀ b, b < 1 → a ≠ b → (TX3 a).2.1 ≠ (TX3 b).2.1 := by decide +kernel
theorem tyX3_ok : ∀ k, k < 1 → parseFieldDescriptor (TX3 k).2.2.1 = some (tyX3 k) := by decide +kernel
theorem hinX3 : ∀ w ∈ u_ws RX3 TX3 1, w ∈ gw := by
  intro w hw
  obtain ⟨k, hk, rfl⟩ := List.mem_map.mp hw
  rw [List.mem_range] at hk
  by_cases h0 : k = 0
  · subst h0; exact gm (mt1 (i := 122) rfl) rfl
  omega
theorem inX3 : Cond.initialized RX3 ∈ gw := gm (mt1 (i := 7) rfl) rfl
theorem isX3 : Cond.instantiable RX3 1 ∈ gw := gm (mt1 (i := 116) rfl) rfl
def RX4 : String := "SharedEndings$Splitter"
def TX4 : u_T := fun k => match k with
  | 0 => ("SharedEndings$Splitter", "ways", "[J", true)
  | 1 => ("SharedEndings$Splitter", "fewest", "[I", true)
  | _ => ("SharedEndings$Splitter", "firstEnds", "[I", true)
def tyX4 : Nat → FieldType := fun k => match k with
  | 0 => .array .long
  | 1 => .array .int
  | _ => .array .int
theorem nmX4 : ∀ a, a < 3 → ∀ b, b < 3 → a ≠ b → (TX4 a).2.1 ≠ (TX4 b).2.1 := by decide +kernel
theorem tyX4_ok : ∀ k, k < 3 → parseFieldDescriptor (TX4 k).2.2.1 = some (tyX4 k) := by decide +kernel
theorem hinX4 : ∀ w ∈ u_ws RX4 TX4 3, w ∈ gw := by
  intro w hw
  obtain ⟨k, hk, rfl⟩ := List.mem_map.mp hw
  rw [List.mem_range] at hk
  by_cases h0 : k = 0
  · subst h0; exact gm (mt1 (i := 134) rfl) rfl
  by_cases h1 : k = 1
  · subst h1; exact gm (mt1 (i := 136) rfl) rfl
  by_cases h2 : k = 2
  · subst h2; exact gm (mt1 (i := 138) rfl) rfl
  omega
theorem inX4 : Cond.initialized RX4 ∈ gw := gm (mt1 (i := 8) rfl) rfl
theorem isX4 : Cond.instantiable RX4 3 ∈ gw := gm (mt1 (i := 126) rfl) rfl
def RX5 : String := "SharedEndings$Tree"
def TX5 : u_T := fun k => match k with
  | 0 => ("SharedEndings$Tree", "children", "[I", true)
  | 1 => ("SharedEndings$Tree", "whole", "[Z", true)
  | 2 => ("SharedEndings$Tree", "heldFrom", "[I", true)
  | 3 => ("SharedEndings$Tree", "heldBefore", "[I", true)
  | 4 => ("SharedEndings$Tree", "links", "[I", true)
  | 5 => ("SharedEndings$Tree", "shorterWords", "[I", true)
  | _ => ("SharedEndings$Tree", "order", "[I", true)
def tyX5 : Nat → FieldType := fun k => match k with
  | 0 => .array .int
  | 1 => .array .boolean
  | 2 => .array .int
  | 3 => .array .int
  | 4 => .array .int
  | 5 => .array .int
  | _ => .array .int
theorem nmX5 : ∀ a, a < 7 → ∀ b, b < 7 → a ≠ b → (TX5 a).2.1 ≠ (TX5 b).2.1 := by decide +kernel
theorem tyX5_ok : ∀ k, k < 7 → parseFieldDescriptor (TX5 k).2.2.1 = some (tyX5 k) := by decide +kernel
theorem hinX5 : ∀ w ∈ u_ws RX5 TX5 7, w ∈ gw := by
  intro w hw
  obtain ⟨k, hk, rfl⟩ := List.mem_map.mp hw
  rw [List.mem_range] at hk
  by_cases h0 : k = 0
  · subst h0; exact gm (mt1 (i := 56) rfl) rfl
  by_cases h1 : k = 1
  · subst h1; exact gm (mt1 (i := 58) rfl) rfl
  by_cases h2 : k = 2
  · subst h2; exact gm (mt1 (i := 60) rfl) rfl
  by_cases h3 : k = 3
  · subst h3; exact gm (mt1 (i := 62) rfl) rfl
  by_cases h4 : k = 4
  · subst h4; exact gm (mt1 (i := 64) rfl) rfl
  by_cases h5 : k = 5
  · subst h5; exact gm (mt1 (i := 66) rfl) rfl
  by_cases h6 : k = 6
  · subst h6; exact gm (mt1 (i := 68) rfl) rfl
  omega
theorem inX5 : Cond.initialized RX5 ∈ gw := gm (mt1 (i := 3) rfl) rfl
theorem isX5 : Cond.instantiable RX5 7 ∈ gw := gm (mt1 (i := 41) rfl) rfl
def RX6 : String := "SharedEndings"
def TX6 : u_T := fun k => match k with
  | 0 => ("SharedEndings", "text", "LSharedEndings$Line;", true)
  | 1 => ("SharedEndings", "page", "LSharedEndings$Line;", true)
  | 2 => ("SharedEndings", "spelled", "LSharedEndings$Line;", true)
  | 3 => ("SharedEndings", "tree", "LSharedEndings$Tree;", true)
  | 4 => ("SharedEndings", "automaton", "LSharedEndings$Automaton;", true)
  | 5 => ("SharedEndings", "finds", "LSharedEndings$Finds;", true)
  | 6 => ("SharedEndings", "ruler", "LSharedEndings$Ruler;", true)
  | _ => ("SharedEndings", "splitter", "LSharedEndings$Splitter;", true)
def tyX6 : Nat → FieldType := fun k => match k with
  | 0 => .object "SharedEndings$Line"
  | 1 => .object "SharedEndings$Line"
  | 2 => .object "SharedEndings$Line"
  | 3 => .object "SharedEndings$Tree"
  | 4 => .object "SharedEndings$Automaton"
  | 5 => .object "SharedEndings$Finds"
  | 6 => .object "SharedEndings$Ruler"
  | _ => .object "SharedEndings$Splitter"
theorem nmX6 : ∀ a, a < 8 → ∀ b, b < 8 → a ≠ b → (TX6 a).2.1 ≠ (TX6 b).2.1 := by decide +kernel
theorem tyX6_ok : ∀ k, k < 8 → parseFieldDescriptor (TX6 k).2.2.1 = some (tyX6 k) := by decide +kernel
theorem hinX6 : ∀ w ∈ u_ws RX6 TX6 8, w ∈ gw := by
  intro w hw
  obtain ⟨k, hk, rfl⟩ := List.mem_map.mp hw
  rw [List.mem_range] at hk
  by_cases h0 : k = 0
  · subst h0; exact gm (mt1 (i := 150) rfl) rfl
  by_cases h1 : k = 1
  · subst h1; exact gm (mt1 (i := 152) rfl) rfl
  by_cases h2 : k = 2
  · subst h2; exact gm (mt1 (i := 154) rfl) rfl
  by_cases h3 : k = 3
  · subst h3; exact gm (mt1 (i := 156) rfl) rfl
  by_cases h4 : k = 4
  · subst h4; exact gm (mt1 (i := 158) rfl) rfl
  by_cases h5 : k = 5
  · subst h5; exact gm (mt1 (i := 160) rfl) rfl
  by_cases h6 : k = 6
  · subst h6; exact gm (mt1 (i := 162) rfl) rfl
  by_cases h7 : k = 7
  · subst h7; exact gm (mt1 (i := 164) rfl) rfl
  omega
theorem inX6 : Cond.initialized RX6 ∈ gw := gm (mt1 (i := 1) rfl) rfl
theorem isX6 : Cond.instantiable RX6 8 ∈ gw := gm (mt1 (i := 19) rfl) rfl
def RX7 : String := "SharedEndingsModel"
def TX7 : u_T := fun k => match k with
  | 0 => ("SharedEndingsModel", "fault", "I", false)
  | 1 => ("SharedEndingsModel", "typed", "I", false)
  | 2 => ("SharedEndingsModel", "text", "[I", true)
  | 3 => ("SharedEndingsModel", "written", "I", false)
  | 4 => ("SharedEndingsModel", "page", "[I", true)
  | 5 => ("SharedEndingsModel", "count", "I", false)
  | 6 => ("SharedEndingsModel", "letters", "[I", true)
  | 7 => ("SharedEndingsModel", "size", "[I", true)
  | 8 => ("SharedEndingsModel", "prefixes", "I", false)
  | 9 => ("SharedEndingsModel", "low", "[I", true)
  | 10 => ("SharedEndingsModel", "high", "[I", true)
  | 11 => ("SharedEndingsModel", "deep", "[I", true)
  | 12 => ("SharedEndingsModel", "many", "I", false)
  | 13 => ("SharedEndingsModel", "foundWord", "[I", true)
  | 14 => ("SharedEndingsModel", "foundAbout", "[I", true)
  | 15 => ("SharedEndingsModel", "row", "[I", true)
  | 16 => ("SharedEndingsModel", "below", "[I", true)
  | 17 => ("SharedEndingsModel", "ways", "[J", true)
  | _ => ("SharedEndingsModel", "fewest", "[I", true)
def tyX7 : Nat → FieldType := fun k => match k with
  | 0 => .int
  | 1 => .int
  | 2 => .array .int
  | 3 => .int
  | 4 => .array .int
  | 5 => .int
  | 6 => .array .int
  | 7 => .array .int
  | 8 => .int
  | 9 => .array .int
  | 10 => .array .int
  | 11 => .array .int
  | 12 => .int
  | 13 => .array .int
  | 14 => .array .int
  | 15 => .array .int
  | 16 => .array .int
  | 17 => .array .long
  | _ => .array .int
theorem nmX7 : ∀ a, a < 19 → ∀ b, b < 19 → a ≠ b → (TX7 a).2.1 ≠ (TX7 b).2.1 := by decide +kernel
theorem tyX7_ok : ∀ k, k < 19 → parseFieldDescriptor (TX7 k).2.2.1 = some (tyX7 k) := by decide +kernel
theorem hinX7 : ∀ w ∈ u_ws RX7 TX7 19, w ∈ gw := by
  intro w hw
  obtain ⟨k, hk, rfl⟩ := List.mem_map.mp hw
  rw [List.mem_range] at hk
  by_cases h0 : k = 0
  · subst h0; exact gm (mt3 (i := 132) rfl) rfl
  by_cases h1 : k = 1
  · subst h1; exact gm (mt3 (i := 134) rfl) rfl
  by_cases h2 : k = 2
  · subst h2; exact gm (mt3 (i := 136) rfl) rfl
  by_cases h3 : k = 3
  · subst h3; exact gm (mt3 (i := 138) rfl) rfl
  by_cases h4 : k = 4
  · subst h4; exact gm (mt3 (i := 140) rfl) rfl
  by_cases h5 : k = 5
  · subst h5; exact gm (mt3 (i := 142) rfl) rfl
  by_cases h6 : k = 6
  · subst h6; exact gm (mt3 (i := 144) rfl) rfl
  by_cases h7 : k = 7
  · subst h7; exact gm (mt3 (i := 146) rfl) rfl
  by_cases h8 : k = 8
  · subst h8; exact gm (mt3 (i := 148) rfl) rfl
  by_cases h9 : k = 9
  · subst h9; exact gm (mt3 (i := 150) rfl) rfl
  by_cases h10 : k = 10
  · subst h10; exact gm (mt3 (i := 152) rfl) rfl
  by_cases h11 : k = 11
  · subst h11; exact gm (mt3 (i := 154) rfl) rfl
  by_cases h12 : k = 12
  · subst h12; exact gm (mt3 (i := 156) rfl) rfl
  by_cases h13 : k = 13
  · subst h13; exact gm (mt3 (i := 158) rfl) rfl
  by_cases h14 : k = 14
  · subst h14; exact gm (mt3 (i := 160) rfl) rfl
  by_cases h15 : k = 15
  · subst h15; exact gm (mt3 (i := 162) rfl) rfl
  by_cases h16 : k = 16
  · subst h16; exact gm (mt3 (i := 164) rfl) rfl
  by_cases h17 : k = 17
  · subst h17; exact gm (mt3 (i := 166) rfl) rfl
  by_cases h18 : k = 18
  · subst h18; exact gm (mt3 (i := 168) rfl) rfl
  omega
theorem inX7 : Cond.initialized RX7 ∈ gw := gm (mt1 (i := 9) rfl) rfl
theorem isX7 : Cond.instantiable RX7 19 ∈ gw := gm (mt3 (i := 108) rfl) rfl
def RL : String := "SharedEndingsLaw"
abbrev vwCl : List vw_C := [(RX0, TX0, 6), (RX1, TX1, 3), (RX2, TX2, 2), (RX3, TX3, 1), (RX4, TX4, 3), (RX5, TX5, 7), (RX6, TX6, 8), (RX7, TX7, 19)]
abbrev cX6_init : ByteArray := prog_1_method_1_code
def yX6_init : MethodName := ⟨RX6, "<init>", "()V"⟩
abbrev kX6_init : Cond := .code yX6_init cX6_init 1 none
theorem coX6_init : kX6_init ∈ gw := gm (mt1 (i := 22) rfl) rfl
abbrev wsX6_init : List Cond := kX6_init :: gw
theorem imX6_init : Cond.instanceMethod yX6_init ∈ gw := gm (mt1 (i := 21) rfl) rfl
theorem hdX6_init : yX6_init.cls ≠ "java/lang/invoke/MethodHandle" ∧ yX6_init.cls ≠ "java/lang/invoke/VarHandle" ∧ (parseMethodDescriptor yX6_init.desc).map (fun d => d.parameters.length) = some 0 := by decide +kernel
abbrev cX6_type : ByteArray := prog_1_method_2_code
def yX6_type : MethodName := ⟨RX6, "type", "(C)Z"⟩
abbrev kX6_type : Cond := .code yX6_type cX6_type 2 (some .boolean)
theorem coX6_type : kX6_type ∈ gw := gm (mt1 (i := 170) rfl) rfl
abbrev wsX6_type : List Cond := kX6_type :: gw
theorem imX6_type : Cond.instanceMethod yX6_type ∈ gw := gm (mt1 (i := 168) rfl) rfl
theorem seX6_type : Cond.selects RX6 yX6_type yX6_type ∈ gw := gm (mt1 (i := 169) rfl) rfl
theorem hdX6_type : yX6_type.cls = RX6 ∧ yX6_type.cls ≠ "java/lang/invoke/MethodHandle" ∧ yX6_type.cls ≠ "java/lang/invoke/VarHandle" ∧ (parseMethodDescriptor yX6_type.desc).map (fun d => d.parameters.length) = some 1 := by decide +kernel
abbrev cX6_wipe : ByteArray := prog_1_method_3_code
def yX6_wipe : MethodName := ⟨RX6, "wipe", "()I"⟩
abbrev kX6_wipe : Cond := .code yX6_wipe cX6_wipe 1 (some .int)
theorem coX6_wipe : kX6_wipe ∈ gw := gm (mt1 (i := 178) rfl) rfl
abbrev wsX6_wipe : List Cond := kX6_wipe :: gw
theorem imX6_wipe : Cond.instanceMethod yX6_wipe ∈ gw := gm (mt1 (i := 176) rfl) rfl
theorem seX6_wipe : Cond.selects RX6 yX6_wipe yX6_wipe ∈ gw := gm (mt1 (i := 177) rfl) rfl
theorem hdX6_wipe : yX6_wipe.cls = RX6 ∧ yX6_wipe.cls ≠ "java/lang/invoke/MethodHandle" ∧ yX6_wipe.cls ≠ "java/lang/invoke/VarHandle" ∧ (parseMethodDescriptor yX6_wipe.desc).map (fun d => d.parameters.length) = some 0 := by decide +kernel
abbrev cX6_add : ByteArray := prog_1_method_4_code
def yX6_add : MethodName := ⟨RX6, "add", "()I"⟩
abbrev kX6_add : Cond := .code yX6_add cX6_add 2 (some .int)
theorem coX6_add : kX6_add ∈ gw := gm (mt2 (i := 174) rfl) rfl
abbrev wsX6_add : List Cond := kX6_add :: gw
theorem imX6_add : Cond.instanceMethod yX6_add ∈ gw := gm (mt2 (i := 172) rfl) rfl
theorem seX6_add : Cond.selects RX6 yX6_add yX6_add ∈ gw := gm (mt2 (i := 173) rfl) rfl
theorem hdX6_add : yX6_add.cls = RX6 ∧ yX6_add.cls ≠ "java/lang/invoke/MethodHandle" ∧ yX6_add.cls ≠ "java/lang/invoke/VarHandle" ∧ (parseMethodDescriptor yX6_add.desc).map (fun d => d.parameters.length) = some 0 := by decide +kernel
abbrev cX6_remove : ByteArray := prog_1_method_5_code
def yX6_remove : MethodName := ⟨RX6, "remove", "()Z"⟩
abbrev kX6_remove : Cond := .code yX6_remove cX6_remove 2 (some .boolean)
theorem coX6_remove : kX6_remove ∈ gw := gm (mt1 (i := 186) rfl) rfl
abbrev wsX6_remove : List Cond := kX6_remove :: gw
theorem imX6_remove : Cond.instanceMethod yX6_remove ∈ gw := gm (mt1 (i := 184) rfl) rfl
theorem seX6_remove : Cond.selects RX6 yX6_remove yX6_remove ∈ gw := gm (mt1 (i := 185) rfl) rfl
theorem hdX6_remove : yX6_remove.cls = RX6 ∧ yX6_remove.cls ≠ "java/lang/invoke/MethodHandle" ∧ yX6_remove.cls ≠ "java/lang/invoke/VarHandle" ∧ (parseMethodDescriptor yX6_remove.desc).map (fun d => d.parameters.length) = some 0 := by decide +kernel
abbrev cX6_words : ByteArray := prog_1_method_6_code
def yX6_words : MethodName := ⟨RX6, "words", "()I"⟩
abbrev kX6_words : Cond := .code yX6_words cX6_words 1 (some .int)
theorem coX6_words : kX6_words ∈ gw := gm (mt2 (i := 42) rfl) rfl
abbrev wsX6_words : List Cond := kX6_words :: gw
theorem imX6_words : Cond.instanceMethod yX6_words ∈ gw := gm (mt2 (i := 40) rfl) rfl
theorem seX6_words : Cond.selects RX6 yX6_words yX6_words ∈ gw := gm (mt2 (i := 41) rfl) rfl
theorem hdX6_words : yX6_words.cls = RX6 ∧ yX6_words.cls ≠ "java/lang/invoke/MethodHandle" ∧ yX6_words.cls ≠ "java/lang/invoke/VarHandle" ∧ (parseMethodDescriptor yX6_words.desc).map (fun d => d.parameters.length) = some 0 := by decide +kernel
abbrev cX6_word : ByteArray := prog_1_method_7_code
def yX6_word : MethodName := ⟨RX6, "word", "(I)I"⟩
abbrev kX6_word : Cond := .code yX6_word cX6_word 2 (some .int)
theorem coX6_word : kX6_word ∈ gw := gm (mt3 (i := 26) rfl) rfl
abbrev wsX6_word : List Cond := kX6_word :: gw
theorem imX6_word : Cond.instanceMethod yX6_word ∈ gw := gm (mt3 (i := 24) rfl) rfl
theorem seX6_word : Cond.selects RX6 yX6_word yX6_word ∈ gw := gm (mt3 (i := 25) rfl) rfl
theorem hdX6_word : yX6_word.cls = RX6 ∧ yX6_word.cls ≠ "java/lang/invoke/MethodHandle" ∧ yX6_word.cls ≠ "java/lang/invoke/VarHandle" ∧ (parseMethodDescriptor yX6_word.desc).map (fun d => d.parameters.length) = some 1 := by decide +kernel
abbrev cX6_rank : ByteArray := prog_1_method_8_code
def yX6_rank : MethodName := ⟨RX6, "rank", "()I"⟩
abbrev kX6_rank : Cond := .code yX6_rank cX6_rank 2 (some .int)
theorem coX6_rank : kX6_rank ∈ gw := gm (mt2 (i := 50) rfl) rfl
abbrev wsX6_rank : List Cond := kX6_rank :: gw
theorem imX6_rank : Cond.instanceMethod yX6_rank ∈ gw := gm (mt2 (i := 48) rfl) rfl
theorem seX6_rank : Cond.selects RX6 yX6_rank yX6_rank ∈ gw := gm (mt2 (i := 49) rfl) rfl
theorem hdX6_rank : yX6_rank.cls = RX6 ∧ yX6_rank.cls ≠ "java/lang/invoke/MethodHandle" ∧ yX6_rank.cls ≠ "java/lang/invoke/VarHandle" ∧ (parseMethodDescriptor yX6_rank.desc).map (fun d => d.parameters.length) = some 0 := by decide +kernel
abbrev cX6_starting : ByteArray := prog_1_method_9_code
def yX6_starting : MethodName := ⟨RX6, "starting", "()I"⟩
abbrev kX6_starting : Cond := .code yX6_starting cX6_starting 2 (some .int)
theorem coX6_starting : kX6_starting ∈ gw := gm (mt2 (i := 58) rfl) rfl
abbrev wsX6_starting : List Cond := kX6_starting :: gw
theorem imX6_starting : Cond.instanceMethod yX6_starting ∈ gw := gm (mt2 (i := 56) rfl) rfl
theorem seX6_starting : Cond.selects RX6 yX6_starting yX6_starting ∈ gw := gm (mt2 (i := 57) rfl) rfl
theorem hdX6_starting : yX6_starting.cls = RX6 ∧ yX6_starting.cls ≠ "java/lang/invoke/MethodHandle" ∧ yX6_starting.cls ≠ "java/lang/invoke/VarHandle" ∧ (parseMethodDescriptor yX6_starting.desc).map (fun d => d.parameters.length) = some 0 := by decide +kernel
abbrev cX6_longest : ByteArray := prog_1_method_10_code
def yX6_longest : MethodName := ⟨RX6, "longest", "()I"⟩
abbrev kX6_longest : Cond := .code yX6_longest cX6_longest 4 (some .int)
theorem coX6_longest : kX6_longest ∈ gw := gm (mt2 (i := 66) rfl) rfl
abbrev wsX6_longest : List Cond := kX6_longest :: gw
theorem imX6_longest : Cond.instanceMethod yX6_longest ∈ gw := gm (mt2 (i := 64) rfl) rfl
theorem seX6_longest : Cond.selects RX6 yX6_longest yX6_longest ∈ gw := gm (mt2 (i := 65) rfl) rfl
theorem hdX6_longest : yX6_longest.cls = RX6 ∧ yX6_longest.cls ≠ "java/lang/invoke/MethodHandle" ∧ yX6_longest.cls ≠ "java/lang/invoke/VarHandle" ∧ (parseMethodDescriptor yX6_longest.desc).map (fun d => d.parameters.length) = some 0 := by decide +kernel
abbrev cX6_states : ByteArray := prog_1_method_11_code
def yX6_states : MethodName := ⟨RX6, "states", "()I"⟩
abbrev kX6_states : Cond := .code yX6_states cX6_states 1 (some .int)
theorem coX6_states : kX6_states ∈ gw := gm (mt2 (i := 73) rfl) rfl
abbrev wsX6_states : List Cond := kX6_states :: gw
theorem imX6_states : Cond.instanceMethod yX6_states ∈ gw := gm (mt2 (i := 71) rfl) rfl
theorem seX6_states : Cond.selects RX6 yX6_states yX6_states ∈ gw := gm (mt2 (i := 72) rfl) rfl
theorem hdX6_states : yX6_states.cls = RX6 ∧ yX6_states.cls ≠ "java/lang/invoke/MethodHandle" ∧ yX6_states.cls ≠ "java/lang/invoke/VarHandle" ∧ (parseMethodDescriptor yX6_states.desc).map (fun d => d.parameters.length) = some 0 := by decide +kernel
abbrev cX6_edges : ByteArray := prog_1_method_12_code
def yX6_edges : MethodName := ⟨RX6, "edges", "()I"⟩
abbrev kX6_edges : Cond := .code yX6_edges cX6_edges 1 (some .int)
theorem coX6_edges : kX6_edges ∈ gw := gm (mt2 (i := 81) rfl) rfl
abbrev wsX6_edges : List Cond := kX6_edges :: gw
theorem imX6_edges : Cond.instanceMethod yX6_edges ∈ gw := gm (mt2 (i := 79) rfl) rfl
theorem seX6_edges : Cond.selects RX6 yX6_edges yX6_edges ∈ gw := gm (mt2 (i := 80) rfl) rfl
theorem hdX6_edges : yX6_edges.cls = RX6 ∧ yX6_edges.cls ≠ "java/lang/invoke/MethodHandle" ∧ yX6_edges.cls ≠ "java/lang/invoke/VarHandle" ∧ (parseMethodDescriptor yX6_edges.desc).map (fun d => d.parameters.length) = some 0 := by decide +kernel
abbrev cX6_alike : ByteArray := prog_1_method_13_code
def yX6_alike : MethodName := ⟨RX6, "alike", "()I"⟩
abbrev kX6_alike : Cond := .code yX6_alike cX6_alike 2 (some .int)
theorem coX6_alike : kX6_alike ∈ gw := gm (mt2 (i := 93) rfl) rfl
abbrev wsX6_alike : List Cond := kX6_alike :: gw
theorem imX6_alike : Cond.instanceMethod yX6_alike ∈ gw := gm (mt2 (i := 91) rfl) rfl
theorem seX6_alike : Cond.selects RX6 yX6_alike yX6_alike ∈ gw := gm (mt2 (i := 92) rfl) rfl
theorem hdX6_alike : yX6_alike.cls = RX6 ∧ yX6_alike.cls ≠ "java/lang/invoke/MethodHandle" ∧ yX6_alike.cls ≠ "java/lang/invoke/VarHandle" ∧ (parseMethodDescriptor yX6_alike.desc).map (fun d => d.parameters.length) = some 0 := by decide +kernel
abbrev cX6_near : ByteArray := prog_1_method_14_code
def yX6_near : MethodName := ⟨RX6, "near", "(I)I"⟩
abbrev kX6_near : Cond := .code yX6_near cX6_near 4 (some .int)
theorem coX6_near : kX6_near ∈ gw := gm (mt3 (i := 60) rfl) rfl
abbrev wsX6_near : List Cond := kX6_near :: gw
theorem imX6_near : Cond.instanceMethod yX6_near ∈ gw := gm (mt3 (i := 58) rfl) rfl
theorem seX6_near : Cond.selects RX6 yX6_near yX6_near ∈ gw := gm (mt3 (i := 59) rfl) rfl
theorem hdX6_near : yX6_near.cls = RX6 ∧ yX6_near.cls ≠ "java/lang/invoke/MethodHandle" ∧ yX6_near.cls ≠ "java/lang/invoke/VarHandle" ∧ (parseMethodDescriptor yX6_near.desc).map (fun d => d.parameters.length) = some 1 := by decide +kernel
abbrev cX6_scan : ByteArray := prog_1_method_15_code
def yX6_scan : MethodName := ⟨RX6, "scan", "()I"⟩
abbrev kX6_scan : Cond := .code yX6_scan cX6_scan 3 (some .int)
theorem coX6_scan : kX6_scan ∈ gw := gm (mt2 (i := 101) rfl) rfl
abbrev wsX6_scan : List Cond := kX6_scan :: gw
theorem imX6_scan : Cond.instanceMethod yX6_scan ∈ gw := gm (mt2 (i := 99) rfl) rfl
theorem seX6_scan : Cond.selects RX6 yX6_scan yX6_scan ∈ gw := gm (mt2 (i := 100) rfl) rfl
theorem hdX6_scan : yX6_scan.cls = RX6 ∧ yX6_scan.cls ≠ "java/lang/invoke/MethodHandle" ∧ yX6_scan.cls ≠ "java/lang/invoke/VarHandle" ∧ (parseMethodDescriptor yX6_scan.desc).map (fun d => d.parameters.length) = some 0 := by decide +kernel
abbrev cX6_found : ByteArray := prog_1_method_16_code
def yX6_found : MethodName := ⟨RX6, "found", "(II)I"⟩
abbrev kX6_found : Cond := .code yX6_found cX6_found 3 (some .int)
theorem coX6_found : kX6_found ∈ gw := gm (mt3 (i := 96) rfl) rfl
abbrev wsX6_found : List Cond := kX6_found :: gw
theorem imX6_found : Cond.instanceMethod yX6_found ∈ gw := gm (mt3 (i := 94) rfl) rfl
theorem seX6_found : Cond.selects RX6 yX6_found yX6_found ∈ gw := gm (mt3 (i := 95) rfl) rfl
theorem hdX6_found : yX6_found.cls = RX6 ∧ yX6_found.cls ≠ "java/lang/invoke/MethodHandle" ∧ yX6_found.cls ≠ "java/lang/invoke/VarHandle" ∧ (parseMethodDescriptor yX6_found.desc).map (fun d => d.parameters.length) = some 2 := by decide +kernel
abbrev cX6_splits : ByteArray := prog_1_method_17_code
def yX6_splits : MethodName := ⟨RX6, "splits", "()J"⟩
abbrev kX6_splits : Cond := .code yX6_splits cX6_splits 3 (some .long)
theorem coX6_splits : kX6_splits ∈ gw := gm (mt2 (i := 125) rfl) rfl
abbrev wsX6_splits : List Cond := kX6_splits :: gw
theorem imX6_splits : Cond.instanceMethod yX6_splits ∈ gw := gm (mt2 (i := 123) rfl) rfl
theorem seX6_splits : Cond.selects RX6 yX6_splits yX6_splits ∈ gw := gm (mt2 (i := 124) rfl) rfl
theorem hdX6_splits : yX6_splits.cls = RX6 ∧ yX6_splits.cls ≠ "java/lang/invoke/MethodHandle" ∧ yX6_splits.cls ≠ "java/lang/invoke/VarHandle" ∧ (parseMethodDescriptor yX6_splits.desc).map (fun d => d.parameters.length) = some 0 := by decide +kernel
abbrev cX6_split : ByteArray := prog_1_method_18_code
def yX6_split : MethodName := ⟨RX6, "split", "()I"⟩
abbrev kX6_split : Cond := .code yX6_split cX6_split 2 (some .int)
theorem coX6_split : kX6_split ∈ gw := gm (mt2 (i := 141) rfl) rfl
abbrev wsX6_split : List Cond := kX6_split :: gw
theorem imX6_split : Cond.instanceMethod yX6_split ∈ gw := gm (mt2 (i := 139) rfl) rfl
theorem seX6_split : Cond.selects RX6 yX6_split yX6_split ∈ gw := gm (mt2 (i := 140) rfl) rfl
theorem hdX6_split : yX6_split.cls = RX6 ∧ yX6_split.cls ≠ "java/lang/invoke/MethodHandle" ∧ yX6_split.cls ≠ "java/lang/invoke/VarHandle" ∧ (parseMethodDescriptor yX6_split.desc).map (fun d => d.parameters.length) = some 0 := by decide +kernel
abbrev cX6_length : ByteArray := prog_1_method_19_code
def yX6_length : MethodName := ⟨RX6, "length", "()I"⟩
abbrev kX6_length : Cond := .code yX6_length cX6_length 1 (some .int)
theorem coX6_length : kX6_length ∈ gw := gm (mt2 (i := 162) rfl) rfl
abbrev wsX6_length : List Cond := kX6_length :: gw
theorem imX6_length : Cond.instanceMethod yX6_length ∈ gw := gm (mt2 (i := 160) rfl) rfl
theorem seX6_length : Cond.selects RX6 yX6_length yX6_length ∈ gw := gm (mt2 (i := 161) rfl) rfl
theorem hdX6_length : yX6_length.cls = RX6 ∧ yX6_length.cls ≠ "java/lang/invoke/MethodHandle" ∧ yX6_length.cls ≠ "java/lang/invoke/VarHandle" ∧ (parseMethodDescriptor yX6_length.desc).map (fun d => d.parameters.length) = some 0 := by decide +kernel
abbrev cX6_charAt : ByteArray := prog_1_method_20_code
def yX6_charAt : MethodName := ⟨RX6, "charAt", "(I)C"⟩
abbrev kX6_charAt : Cond := .code yX6_charAt cX6_charAt 2 (some .char)
theorem coX6_charAt : kX6_charAt ∈ gw := gm (mt2 (i := 166) rfl) rfl
abbrev wsX6_charAt : List Cond := kX6_charAt :: gw
theorem imX6_charAt : Cond.instanceMethod yX6_charAt ∈ gw := gm (mt2 (i := 164) rfl) rfl
theorem seX6_charAt : Cond.selects RX6 yX6_charAt yX6_charAt ∈ gw := gm (mt2 (i := 165) rfl) rfl
theorem hdX6_charAt : yX6_charAt.cls = RX6 ∧ yX6_charAt.cls ≠ "java/lang/invoke/MethodHandle" ∧ yX6_charAt.cls ≠ "java/lang/invoke/VarHandle" ∧ (parseMethodDescriptor yX6_charAt.desc).map (fun d => d.parameters.length) = some 1 := by decide +kernel
abbrev cX6_letterOf : ByteArray := prog_1_method_21_code
def yX6_letterOf : MethodName := ⟨RX6, "letterOf", "(C)I"⟩
abbrev kX6_letterOf : Cond := .code yX6_letterOf cX6_letterOf 1 (some .int)
theorem coX6_letterOf : kX6_letterOf ∈ gw := gm (mt1 (i := 205) rfl) rfl
abbrev wsX6_letterOf : List Cond := kX6_letterOf :: gw
theorem stX6_letterOf : Cond.static yX6_letterOf ∈ gw := gm (mt1 (i := 204) rfl) rfl
theorem hdX6_letterOf : yX6_letterOf.cls ≠ "java/lang/invoke/MethodHandle" ∧ yX6_letterOf.cls ≠ "java/lang/invoke/VarHandle" ∧ (parseMethodDescriptor yX6_letterOf.desc).map (fun d => d.parameters.length) = some 1 := by decide +kernel
abbrev cX6_isWord : ByteArray := prog_1_method_22_code
def yX6_isWord : MethodName := ⟨RX6, "isWord", "(LSharedEndings$Line;)Z"⟩
abbrev kX6_isWord : Cond := .code yX6_isWord cX6_isWord 2 (some .boolean)
theorem coX6_isWord : kX6_isWord ∈ gw := gm (mt3 (i := 5) rfl) rfl
abbrev wsX6_isWord : List Cond := kX6_isWord :: gw
theorem stX6_isWord : Cond.static yX6_isWord ∈ gw := gm (mt3 (i := 4) rfl) rfl
theorem hdX6_isWord : yX6_isWord.cls ≠ "java/lang/invoke/MethodHandle" ∧ yX6_isWord.cls ≠ "java/lang/invoke/VarHandle" ∧ (parseMethodDescriptor yX6_isWord.desc).map (fun d => d.parameters.length) = some 1 := by decide +kernel
abbrev cX6_hold : ByteArray := prog_1_method_23_code
def yX6_hold : MethodName := ⟨RX6, "hold", "()V"⟩
abbrev kX6_hold : Cond := .code yX6_hold cX6_hold 1 none
theorem coX6_hold : kX6_hold ∈ gw := gm (mt3 (i := 10) rfl) rfl
abbrev wsX6_hold : List Cond := kX6_hold :: gw
theorem imX6_hold : Cond.instanceMethod yX6_hold ∈ gw := gm (mt3 (i := 9) rfl) rfl
theorem seX6_hold : Cond.selects RX6 yX6_hold yX6_hold ∈ gw := gm (ms1 (i := 14) rfl) rfl
theorem hdX6_hold : yX6_hold.cls = RX6 ∧ yX6_hold.cls ≠ "java/lang/invoke/MethodHandle" ∧ yX6_hold.cls ≠ "java/lang/invoke/VarHandle" ∧ (parseMethodDescriptor yX6_hold.desc).map (fun d => d.parameters.length) = some 0 := by decide +kernel
abbrev cX6_drop : ByteArray := prog_1_method_24_code
def yX6_drop : MethodName := ⟨RX6, "drop", "()V"⟩
abbrev kX6_drop : Cond := .code yX6_drop cX6_drop 1 none
theorem coX6_drop : kX6_drop ∈ gw := gm (mt1 (i := 217) rfl) rfl
abbrev wsX6_drop : List Cond := kX6_drop :: gw
theorem imX6_drop : Cond.instanceMethod yX6_drop ∈ gw := gm (mt1 (i := 216) rfl) rfl
theorem seX6_drop : Cond.selects RX6 yX6_drop yX6_drop ∈ gw := gm (ms1 (i := 0) rfl) rfl
theorem hdX6_drop : yX6_drop.cls = RX6 ∧ yX6_drop.cls ≠ "java/lang/invoke/MethodHandle" ∧ yX6_drop.cls ≠ "java/lang/invoke/VarHandle" ∧ (parseMethodDescriptor yX6_drop.desc).map (fun d => d.parameters.length) = some 0 := by decide +kernel
abbrev cX6_settle : ByteArray := prog_1_method_25_code
def yX6_settle : MethodName := ⟨RX6, "settle", "()V"⟩
abbrev kX6_settle : Cond := .code yX6_settle cX6_settle 1 none
theorem coX6_settle : kX6_settle ∈ gw := gm (mt1 (i := 233) rfl) rfl
abbrev wsX6_settle : List Cond := kX6_settle :: gw
theorem imX6_settle : Cond.instanceMethod yX6_settle ∈ gw := gm (mt1 (i := 232) rfl) rfl
theorem seX6_settle : Cond.selects RX6 yX6_settle yX6_settle ∈ gw := gm (ms1 (i := 1) rfl) rfl
theorem hdX6_settle : yX6_settle.cls = RX6 ∧ yX6_settle.cls ≠ "java/lang/invoke/MethodHandle" ∧ yX6_settle.cls ≠ "java/lang/invoke/VarHandle" ∧ (parseMethodDescriptor yX6_settle.desc).map (fun d => d.parameters.length) = some 0 := by decide +kernel
abbrev cX6_findEnding : ByteArray := prog_1_method_26_code
def yX6_findEnding : MethodName := ⟨RX6, "findEnding", "(II)V"⟩
abbrev kX6_findEnding : Cond := .code yX6_findEnding cX6_findEnding 5 none
theorem coX6_findEnding : kX6_findEnding ∈ gw := gm (mt2 (i := 109) rfl) rfl
abbrev wsX6_findEnding : List Cond := kX6_findEnding :: gw
theorem imX6_findEnding : Cond.instanceMethod yX6_findEnding ∈ gw := gm (mt2 (i := 108) rfl) rfl
theorem seX6_findEnding : Cond.selects RX6 yX6_findEnding yX6_findEnding ∈ gw := gm (ms1 (i := 10) rfl) rfl
theorem hdX6_findEnding : yX6_findEnding.cls = RX6 ∧ yX6_findEnding.cls ≠ "java/lang/invoke/MethodHandle" ∧ yX6_findEnding.cls ≠ "java/lang/invoke/VarHandle" ∧ (parseMethodDescriptor yX6_findEnding.desc).map (fun d => d.parameters.length) = some 2 := by decide +kernel
abbrev cX7_init : ByteArray := prog_9_method_1_code
def yX7_init : MethodName := ⟨RX7, "<init>", "()V"⟩
abbrev kX7_init : Cond := .code yX7_init cX7_init 1 none
theorem coX7_init : kX7_init ∈ gw := gm (mt3 (i := 111) rfl) rfl
abbrev wsX7_init : List Cond := kX7_init :: gw
theorem imX7_init : Cond.instanceMethod yX7_init ∈ gw := gm (mt3 (i := 110) rfl) rfl
theorem hdX7_init : yX7_init.cls ≠ "java/lang/invoke/MethodHandle" ∧ yX7_init.cls ≠ "java/lang/invoke/VarHandle" ∧ (parseMethodDescriptor yX7_init.desc).map (fun d => d.parameters.length) = some 0 := by decide +kernel
abbrev cX7_thrown : ByteArray := prog_9_method_2_code
def yX7_thrown : MethodName := ⟨RX7, "thrown", "()I"⟩
abbrev kX7_thrown : Cond := .code yX7_thrown cX7_thrown 1 (some .int)
theorem coX7_thrown : kX7_thrown ∈ gw := gm (mt3 (i := 174) rfl) rfl
abbrev wsX7_thrown : List Cond := kX7_thrown :: gw
theorem imX7_thrown : Cond.instanceMethod yX7_thrown ∈ gw := gm (mt3 (i := 172) rfl) rfl
theorem seX7_thrown : Cond.selects RX7 yX7_thrown yX7_thrown ∈ gw := gm (mt3 (i := 173) rfl) rfl
theorem hdX7_thrown : yX7_thrown.cls = RX7 ∧ yX7_thrown.cls ≠ "java/lang/invoke/MethodHandle" ∧ yX7_thrown.cls ≠ "java/lang/invoke/VarHandle" ∧ (parseMethodDescriptor yX7_thrown.desc).map (fun d => d.parameters.length) = some 0 := by decide +kernel
abbrev cX7_type : ByteArray := prog_9_method_3_code
def yX7_type : MethodName := ⟨RX7, "type", "(C)Z"⟩
abbrev kX7_type : Cond := .code yX7_type cX7_type 2 (some .boolean)
theorem coX7_type : kX7_type ∈ gw := gm (mt3 (i := 178) rfl) rfl
abbrev wsX7_type : List Cond := kX7_type :: gw
theorem imX7_type : Cond.instanceMethod yX7_type ∈ gw := gm (mt3 (i := 176) rfl) rfl
theorem seX7_type : Cond.selects RX7 yX7_type yX7_type ∈ gw := gm (mt3 (i := 177) rfl) rfl
theorem hdX7_type : yX7_type.cls = RX7 ∧ yX7_type.cls ≠ "java/lang/invoke/MethodHandle" ∧ yX7_type.cls ≠ "java/lang/invoke/VarHandle" ∧ (parseMethodDescriptor yX7_type.desc).map (fun d => d.parameters.length) = some 1 := by decide +kernel
abbrev cX7_take : ByteArray := prog_9_method_4_code
def yX7_take : MethodName := ⟨RX7, "take", "()I"⟩
abbrev kX7_take : Cond := .code yX7_take cX7_take 2 (some .int)
theorem coX7_take : kX7_take ∈ gw := gm (mt3 (i := 186) rfl) rfl
abbrev wsX7_take : List Cond := kX7_take :: gw
theorem imX7_take : Cond.instanceMethod yX7_take ∈ gw := gm (mt3 (i := 185) rfl) rfl
theorem seX7_take : Cond.selects RX7 yX7_take yX7_take ∈ gw := gm (ms2 (i := 2) rfl) rfl
theorem hdX7_take : yX7_take.cls = RX7 ∧ yX7_take.cls ≠ "java/lang/invoke/MethodHandle" ∧ yX7_take.cls ≠ "java/lang/invoke/VarHandle" ∧ (parseMethodDescriptor yX7_take.desc).map (fun d => d.parameters.length) = some 0 := by decide +kernel
abbrev cX7_wipe : ByteArray := prog_9_method_5_code
def yX7_wipe : MethodName := ⟨RX7, "wipe", "()I"⟩
abbrev kX7_wipe : Cond := .code yX7_wipe cX7_wipe 1 (some .int)
theorem coX7_wipe : kX7_wipe ∈ gw := gm (mt3 (i := 182) rfl) rfl
abbrev wsX7_wipe : List Cond := kX7_wipe :: gw
theorem imX7_wipe : Cond.instanceMethod yX7_wipe ∈ gw := gm (mt3 (i := 180) rfl) rfl
theorem seX7_wipe : Cond.selects RX7 yX7_wipe yX7_wipe ∈ gw := gm (mt3 (i := 181) rfl) rfl
theorem hdX7_wipe : yX7_wipe.cls = RX7 ∧ yX7_wipe.cls ≠ "java/lang/invoke/MethodHandle" ∧ yX7_wipe.cls ≠ "java/lang/invoke/VarHandle" ∧ (parseMethodDescriptor yX7_wipe.desc).map (fun d => d.parameters.length) = some 0 := by decide +kernel
abbrev cX7_letter : ByteArray := prog_9_method_6_code
def yX7_letter : MethodName := ⟨RX7, "letter", "(I)I"⟩
abbrev kX7_letter : Cond := .code yX7_letter cX7_letter 2 (some .int)
theorem coX7_letter : kX7_letter ∈ gw := gm (mt3 (i := 198) rfl) rfl
abbrev wsX7_letter : List Cond := kX7_letter :: gw
theorem imX7_letter : Cond.instanceMethod yX7_letter ∈ gw := gm (mt3 (i := 197) rfl) rfl
theorem seX7_letter : Cond.selects RX7 yX7_letter yX7_letter ∈ gw := gm (ms2 (i := 4) rfl) rfl
theorem hdX7_letter : yX7_letter.cls = RX7 ∧ yX7_letter.cls ≠ "java/lang/invoke/MethodHandle" ∧ yX7_letter.cls ≠ "java/lang/invoke/VarHandle" ∧ (parseMethodDescriptor yX7_letter.desc).map (fun d => d.parameters.length) = some 1 := by decide +kernel
abbrev cX7_isWord : ByteArray := prog_9_method_7_code
def yX7_isWord : MethodName := ⟨RX7, "isWord", "(II)Z"⟩
abbrev kX7_isWord : Cond := .code yX7_isWord cX7_isWord 5 (some .boolean)
theorem coX7_isWord : kX7_isWord ∈ gw := gm (mt3 (i := 194) rfl) rfl
abbrev wsX7_isWord : List Cond := kX7_isWord :: gw
theorem imX7_isWord : Cond.instanceMethod yX7_isWord ∈ gw := gm (mt3 (i := 193) rfl) rfl
theorem seX7_isWord : Cond.selects RX7 yX7_isWord yX7_isWord ∈ gw := gm (ms2 (i := 3) rfl) rfl
theorem hdX7_isWord : yX7_isWord.cls = RX7 ∧ yX7_isWord.cls ≠ "java/lang/invoke/MethodHandle" ∧ yX7_isWord.cls ≠ "java/lang/invoke/VarHandle" ∧ (parseMethodDescriptor yX7_isWord.desc).map (fun d => d.parameters.length) = some 2 := by decide +kernel
abbrev cX7_compare : ByteArray := prog_9_method_8_code
def yX7_compare : MethodName := ⟨RX7, "compare", "(III)I"⟩
abbrev kX7_compare : Cond := .code yX7_compare cX7_compare 6 (some .int)
theorem coX7_compare : kX7_compare ∈ gw := gm (mt3 (i := 206) rfl) rfl
abbrev wsX7_compare : List Cond := kX7_compare :: gw
theorem imX7_compare : Cond.instanceMethod yX7_compare ∈ gw := gm (mt3 (i := 205) rfl) rfl
theorem seX7_compare : Cond.selects RX7 yX7_compare yX7_compare ∈ gw := gm (ms2 (i := 6) rfl) rfl
theorem hdX7_compare : yX7_compare.cls = RX7 ∧ yX7_compare.cls ≠ "java/lang/invoke/MethodHandle" ∧ yX7_compare.cls ≠ "java/lang/invoke/VarHandle" ∧ (parseMethodDescriptor yX7_compare.desc).map (fun d => d.parameters.length) = some 3 := by decide +kernel
abbrev cX7_numberOf : ByteArray := prog_9_method_9_code
def yX7_numberOf : MethodName := ⟨RX7, "numberOf", "(II)I"⟩
abbrev kX7_numberOf : Cond := .code yX7_numberOf cX7_numberOf 5 (some .int)
theorem coX7_numberOf : kX7_numberOf ∈ gw := gm (mt3 (i := 202) rfl) rfl
abbrev wsX7_numberOf : List Cond := kX7_numberOf :: gw
theorem imX7_numberOf : Cond.instanceMethod yX7_numberOf ∈ gw := gm (mt3 (i := 201) rfl) rfl
theorem seX7_numberOf : Cond.selects RX7 yX7_numberOf yX7_numberOf ∈ gw := gm (ms2 (i := 5) rfl) rfl
theorem hdX7_numberOf : yX7_numberOf.cls = RX7 ∧ yX7_numberOf.cls ≠ "java/lang/invoke/MethodHandle" ∧ yX7_numberOf.cls ≠ "java/lang/invoke/VarHandle" ∧ (parseMethodDescriptor yX7_numberOf.desc).map (fun d => d.parameters.length) = some 2 := by decide +kernel
abbrev cX7_beginsWith : ByteArray := prog_9_method_10_code
def yX7_beginsWith : MethodName := ⟨RX7, "beginsWith", "(II)Z"⟩
abbrev kX7_beginsWith : Cond := .code yX7_beginsWith cX7_beginsWith 5 (some .boolean)
theorem coX7_beginsWith : kX7_beginsWith ∈ gw := gm (mt4 (i := 2) rfl) rfl
abbrev wsX7_beginsWith : List Cond := kX7_beginsWith :: gw
theorem imX7_beginsWith : Cond.instanceMethod yX7_beginsWith ∈ gw := gm (mt4 (i := 1) rfl) rfl
theorem seX7_beginsWith : Cond.selects RX7 yX7_beginsWith yX7_beginsWith ∈ gw := gm (ms2 (i := 10) rfl) rfl
theorem hdX7_beginsWith : yX7_beginsWith.cls = RX7 ∧ yX7_beginsWith.cls ≠ "java/lang/invoke/MethodHandle" ∧ yX7_beginsWith.cls ≠ "java/lang/invoke/VarHandle" ∧ (parseMethodDescriptor yX7_beginsWith.desc).map (fun d => d.parameters.length) = some 2 := by decide +kernel
abbrev cX7_move : ByteArray := prog_9_method_11_code
def yX7_move : MethodName := ⟨RX7, "move", "(II)V"⟩
abbrev kX7_move : Cond := .code yX7_move cX7_move 4 none
theorem coX7_move : kX7_move ∈ gw := gm (mt3 (i := 210) rfl) rfl
abbrev wsX7_move : List Cond := kX7_move :: gw
theorem imX7_move : Cond.instanceMethod yX7_move ∈ gw := gm (mt3 (i := 209) rfl) rfl
theorem seX7_move : Cond.selects RX7 yX7_move yX7_move ∈ gw := gm (ms2 (i := 7) rfl) rfl
theorem hdX7_move : yX7_move.cls = RX7 ∧ yX7_move.cls ≠ "java/lang/invoke/MethodHandle" ∧ yX7_move.cls ≠ "java/lang/invoke/VarHandle" ∧ (parseMethodDescriptor yX7_move.desc).map (fun d => d.parameters.length) = some 2 := by decide +kernel
abbrev cX7_add : ByteArray := prog_9_method_12_code
def yX7_add : MethodName := ⟨RX7, "add", "()I"⟩
abbrev kX7_add : Cond := .code yX7_add cX7_add 4 (some .int)
theorem coX7_add : kX7_add ∈ gw := gm (mt3 (i := 190) rfl) rfl
abbrev wsX7_add : List Cond := kX7_add :: gw
theorem imX7_add : Cond.instanceMethod yX7_add ∈ gw := gm (mt3 (i := 188) rfl) rfl
theorem seX7_add : Cond.selects RX7 yX7_add yX7_add ∈ gw := gm (mt3 (i := 189) rfl) rfl
theorem hdX7_add : yX7_add.cls = RX7 ∧ yX7_add.cls ≠ "java/lang/invoke/MethodHandle" ∧ yX7_add.cls ≠ "java/lang/invoke/VarHandle" ∧ (parseMethodDescriptor yX7_add.desc).map (fun d => d.parameters.length) = some 0 := by decide +kernel
abbrev cX7_remove : ByteArray := prog_9_method_13_code
def yX7_remove : MethodName := ⟨RX7, "remove", "()Z"⟩
abbrev kX7_remove : Cond := .code yX7_remove cX7_remove 3 (some .boolean)
theorem coX7_remove : kX7_remove ∈ gw := gm (mt3 (i := 214) rfl) rfl
abbrev wsX7_remove : List Cond := kX7_remove :: gw
theorem imX7_remove : Cond.instanceMethod yX7_remove ∈ gw := gm (mt3 (i := 212) rfl) rfl
theorem seX7_remove : Cond.selects RX7 yX7_remove yX7_remove ∈ gw := gm (mt3 (i := 213) rfl) rfl
theorem hdX7_remove : yX7_remove.cls = RX7 ∧ yX7_remove.cls ≠ "java/lang/invoke/MethodHandle" ∧ yX7_remove.cls ≠ "java/lang/invoke/VarHandle" ∧ (parseMethodDescriptor yX7_remove.desc).map (fun d => d.parameters.length) = some 0 := by decide +kernel
abbrev cX7_words : ByteArray := prog_9_method_14_code
def yX7_words : MethodName := ⟨RX7, "words", "()I"⟩
abbrev kX7_words : Cond := .code yX7_words cX7_words 1 (some .int)
theorem coX7_words : kX7_words ∈ gw := gm (mt3 (i := 218) rfl) rfl
abbrev wsX7_words : List Cond := kX7_words :: gw
theorem imX7_words : Cond.instanceMethod yX7_words ∈ gw := gm (mt3 (i := 216) rfl) rfl
theorem seX7_words : Cond.selects RX7 yX7_words yX7_words ∈ gw := gm (mt3 (i := 217) rfl) rfl
theorem hdX7_words : yX7_words.cls = RX7 ∧ yX7_words.cls ≠ "java/lang/invoke/MethodHandle" ∧ yX7_words.cls ≠ "java/lang/invoke/VarHandle" ∧ (parseMethodDescriptor yX7_words.desc).map (fun d => d.parameters.length) = some 0 := by decide +kernel
abbrev cX7_print : ByteArray := prog_9_method_15_code
def yX7_print : MethodName := ⟨RX7, "print", "(I)V"⟩
abbrev kX7_print : Cond := .code yX7_print cX7_print 2 none
theorem coX7_print : kX7_print ∈ gw := gm (mt3 (i := 230) rfl) rfl
abbrev wsX7_print : List Cond := kX7_print :: gw
theorem imX7_print : Cond.instanceMethod yX7_print ∈ gw := gm (mt3 (i := 229) rfl) rfl
theorem seX7_print : Cond.selects RX7 yX7_print yX7_print ∈ gw := gm (ms2 (i := 9) rfl) rfl
theorem hdX7_print : yX7_print.cls = RX7 ∧ yX7_print.cls ≠ "java/lang/invoke/MethodHandle" ∧ yX7_print.cls ≠ "java/lang/invoke/VarHandle" ∧ (parseMethodDescriptor yX7_print.desc).map (fun d => d.parameters.length) = some 1 := by decide +kernel
abbrev cX7_printWord : ByteArray := prog_9_method_16_code
def yX7_printWord : MethodName := ⟨RX7, "printWord", "(I)V"⟩
abbrev kX7_printWord : Cond := .code yX7_printWord cX7_printWord 3 none
theorem coX7_printWord : kX7_printWord ∈ gw := gm (mt3 (i := 226) rfl) rfl
abbrev wsX7_printWord : List Cond := kX7_printWord :: gw
theorem imX7_printWord : Cond.instanceMethod yX7_printWord ∈ gw := gm (mt3 (i := 225) rfl) rfl
theorem seX7_printWord : Cond.selects RX7 yX7_printWord yX7_printWord ∈ gw := gm (ms2 (i := 8) rfl) rfl
theorem hdX7_printWord : yX7_printWord.cls = RX7 ∧ yX7_printWord.cls ≠ "java/lang/invoke/MethodHandle" ∧ yX7_printWord.cls ≠ "java/lang/invoke/VarHandle" ∧ (parseMethodDescriptor yX7_printWord.desc).map (fun d => d.parameters.length) = some 1 := by decide +kernel
abbrev cX7_word : ByteArray := prog_9_method_17_code
def yX7_word : MethodName := ⟨RX7, "word", "(I)I"⟩
abbrev kX7_word : Cond := .code yX7_word cX7_word 2 (some .int)
theorem coX7_word : kX7_word ∈ gw := gm (mt3 (i := 222) rfl) rfl
abbrev wsX7_word : List Cond := kX7_word :: gw
theorem imX7_word : Cond.instanceMethod yX7_word ∈ gw := gm (mt3 (i := 220) rfl) rfl
theorem seX7_word : Cond.selects RX7 yX7_word yX7_word ∈ gw := gm (mt3 (i := 221) rfl) rfl
theorem hdX7_word : yX7_word.cls = RX7 ∧ yX7_word.cls ≠ "java/lang/invoke/MethodHandle" ∧ yX7_word.cls ≠ "java/lang/invoke/VarHandle" ∧ (parseMethodDescriptor yX7_word.desc).map (fun d => d.parameters.length) = some 1 := by decide +kernel
abbrev cX7_rank : ByteArray := prog_9_method_18_code
def yX7_rank : MethodName := ⟨RX7, "rank", "()I"⟩
abbrev kX7_rank : Cond := .code yX7_rank cX7_rank 1 (some .int)
theorem coX7_rank : kX7_rank ∈ gw := gm (mt3 (i := 234) rfl) rfl
abbrev wsX7_rank : List Cond := kX7_rank :: gw
theorem imX7_rank : Cond.instanceMethod yX7_rank ∈ gw := gm (mt3 (i := 232) rfl) rfl
theorem seX7_rank : Cond.selects RX7 yX7_rank yX7_rank ∈ gw := gm (mt3 (i := 233) rfl) rfl
theorem hdX7_rank : yX7_rank.cls = RX7 ∧ yX7_rank.cls ≠ "java/lang/invoke/MethodHandle" ∧ yX7_rank.cls ≠ "java/lang/invoke/VarHandle" ∧ (parseMethodDescriptor yX7_rank.desc).map (fun d => d.parameters.length) = some 0 := by decide +kernel
abbrev cX7_starting : ByteArray := prog_9_method_19_code
def yX7_starting : MethodName := ⟨RX7, "starting", "()I"⟩
abbrev kX7_starting : Cond := .code yX7_starting cX7_starting 4 (some .int)
theorem coX7_starting : kX7_starting ∈ gw := gm (mt3 (i := 238) rfl) rfl
abbrev wsX7_starting : List Cond := kX7_starting :: gw
theorem imX7_starting : Cond.instanceMethod yX7_starting ∈ gw := gm (mt3 (i := 236) rfl) rfl
theorem seX7_starting : Cond.selects RX7 yX7_starting yX7_starting ∈ gw := gm (mt3 (i := 237) rfl) rfl
theorem hdX7_starting : yX7_starting.cls = RX7 ∧ yX7_starting.cls ≠ "java/lang/invoke/MethodHandle" ∧ yX7_starting.cls ≠ "java/lang/invoke/VarHandle" ∧ (parseMethodDescriptor yX7_starting.desc).map (fun d => d.parameters.length) = some 0 := by decide +kernel
abbrev cX7_longest : ByteArray := prog_9_method_20_code
def yX7_longest : MethodName := ⟨RX7, "longest", "()I"⟩
abbrev kX7_longest : Cond := .code yX7_longest cX7_longest 5 (some .int)
theorem coX7_longest : kX7_longest ∈ gw := gm (mt4 (i := 6) rfl) rfl
abbrev wsX7_longest : List Cond := kX7_longest :: gw
theorem imX7_longest : Cond.instanceMethod yX7_longest ∈ gw := gm (mt4 (i := 4) rfl) rfl
theorem seX7_longest : Cond.selects RX7 yX7_longest yX7_longest ∈ gw := gm (mt4 (i := 5) rfl) rfl
theorem hdX7_longest : yX7_longest.cls = RX7 ∧ yX7_longest.cls ≠ "java/lang/invoke/MethodHandle" ∧ yX7_longest.cls ≠ "java/lang/invoke/VarHandle" ∧ (parseMethodDescriptor yX7_longest.desc).map (fun d => d.parameters.length) = some 0 := by decide +kernel
abbrev cX7_shares : ByteArray := prog_9_method_21_code
def yX7_shares : MethodName := ⟨RX7, "shares", "(III)Z"⟩
abbrev kX7_shares : Cond := .code yX7_shares cX7_shares 6 (some .boolean)
theorem coX7_shares : kX7_shares ∈ gw := gm (mt4 (i := 18) rfl) rfl
abbrev wsX7_shares : List Cond := kX7_shares :: gw
theorem imX7_shares : Cond.instanceMethod yX7_shares ∈ gw := gm (mt4 (i := 17) rfl) rfl
theorem seX7_shares : Cond.selects RX7 yX7_shares yX7_shares ∈ gw := gm (ms2 (i := 12) rfl) rfl
theorem hdX7_shares : yX7_shares.cls = RX7 ∧ yX7_shares.cls ≠ "java/lang/invoke/MethodHandle" ∧ yX7_shares.cls ≠ "java/lang/invoke/VarHandle" ∧ (parseMethodDescriptor yX7_shares.desc).map (fun d => d.parameters.length) = some 3 := by decide +kernel
abbrev cX7_findPrefixes : ByteArray := prog_9_method_22_code
def yX7_findPrefixes : MethodName := ⟨RX7, "findPrefixes", "()V"⟩
abbrev kX7_findPrefixes : Cond := .code yX7_findPrefixes cX7_findPrefixes 4 none
theorem coX7_findPrefixes : kX7_findPrefixes ∈ gw := gm (mt4 (i := 14) rfl) rfl
abbrev wsX7_findPrefixes : List Cond := kX7_findPrefixes :: gw
theorem imX7_findPrefixes : Cond.instanceMethod yX7_findPrefixes ∈ gw := gm (mt4 (i := 13) rfl) rfl
theorem seX7_findPrefixes : Cond.selects RX7 yX7_findPrefixes yX7_findPrefixes ∈ gw := gm (ms2 (i := 11) rfl) rfl
theorem hdX7_findPrefixes : yX7_findPrefixes.cls = RX7 ∧ yX7_findPrefixes.cls ≠ "java/lang/invoke/MethodHandle" ∧ yX7_findPrefixes.cls ≠ "java/lang/invoke/VarHandle" ∧ (parseMethodDescriptor yX7_findPrefixes.desc).map (fun d => d.parameters.length) = some 0 := by decide +kernel
abbrev cX7_areAlike : ByteArray := prog_9_method_23_code
def yX7_areAlike : MethodName := ⟨RX7, "areAlike", "(II)Z"⟩
abbrev kX7_areAlike : Cond := .code yX7_areAlike cX7_areAlike 9 (some .boolean)
theorem coX7_areAlike : kX7_areAlike ∈ gw := gm (mt4 (i := 26) rfl) rfl
abbrev wsX7_areAlike : List Cond := kX7_areAlike :: gw
theorem imX7_areAlike : Cond.instanceMethod yX7_areAlike ∈ gw := gm (mt4 (i := 25) rfl) rfl
theorem seX7_areAlike : Cond.selects RX7 yX7_areAlike yX7_areAlike ∈ gw := gm (ms2 (i := 14) rfl) rfl
theorem hdX7_areAlike : yX7_areAlike.cls = RX7 ∧ yX7_areAlike.cls ≠ "java/lang/invoke/MethodHandle" ∧ yX7_areAlike.cls ≠ "java/lang/invoke/VarHandle" ∧ (parseMethodDescriptor yX7_areAlike.desc).map (fun d => d.parameters.length) = some 2 := by decide +kernel
abbrev cX7_isFirst : ByteArray := prog_9_method_24_code
def yX7_isFirst : MethodName := ⟨RX7, "isFirst", "(I)Z"⟩
abbrev kX7_isFirst : Cond := .code yX7_isFirst cX7_isFirst 4 (some .boolean)
theorem coX7_isFirst : kX7_isFirst ∈ gw := gm (mt4 (i := 22) rfl) rfl
abbrev wsX7_isFirst : List Cond := kX7_isFirst :: gw
theorem imX7_isFirst : Cond.instanceMethod yX7_isFirst ∈ gw := gm (mt4 (i := 21) rfl) rfl
theorem seX7_isFirst : Cond.selects RX7 yX7_isFirst yX7_isFirst ∈ gw := gm (ms2 (i := 13) rfl) rfl
theorem hdX7_isFirst : yX7_isFirst.cls = RX7 ∧ yX7_isFirst.cls ≠ "java/lang/invoke/MethodHandle" ∧ yX7_isFirst.cls ≠ "java/lang/invoke/VarHandle" ∧ (parseMethodDescriptor yX7_isFirst.desc).map (fun d => d.parameters.length) = some 1 := by decide +kernel
abbrev cX7_states : ByteArray := prog_9_method_25_code
def yX7_states : MethodName := ⟨RX7, "states", "()I"⟩
abbrev kX7_states : Cond := .code yX7_states cX7_states 3 (some .int)
theorem coX7_states : kX7_states ∈ gw := gm (mt4 (i := 10) rfl) rfl
abbrev wsX7_states : List Cond := kX7_states :: gw
theorem imX7_states : Cond.instanceMethod yX7_states ∈ gw := gm (mt4 (i := 8) rfl) rfl
theorem seX7_states : Cond.selects RX7 yX7_states yX7_states ∈ gw := gm (mt4 (i := 9) rfl) rfl
theorem hdX7_states : yX7_states.cls = RX7 ∧ yX7_states.cls ≠ "java/lang/invoke/MethodHandle" ∧ yX7_states.cls ≠ "java/lang/invoke/VarHandle" ∧ (parseMethodDescriptor yX7_states.desc).map (fun d => d.parameters.length) = some 0 := by decide +kernel
abbrev cX7_nexts : ByteArray := prog_9_method_26_code
def yX7_nexts : MethodName := ⟨RX7, "nexts", "(I)I"⟩
abbrev kX7_nexts : Cond := .code yX7_nexts cX7_nexts 6 (some .int)
theorem coX7_nexts : kX7_nexts ∈ gw := gm (mt4 (i := 34) rfl) rfl
abbrev wsX7_nexts : List Cond := kX7_nexts :: gw
theorem imX7_nexts : Cond.instanceMethod yX7_nexts ∈ gw := gm (mt4 (i := 33) rfl) rfl
theorem seX7_nexts : Cond.selects RX7 yX7_nexts yX7_nexts ∈ gw := gm (ms2 (i := 15) rfl) rfl
theorem hdX7_nexts : yX7_nexts.cls = RX7 ∧ yX7_nexts.cls ≠ "java/lang/invoke/MethodHandle" ∧ yX7_nexts.cls ≠ "java/lang/invoke/VarHandle" ∧ (parseMethodDescriptor yX7_nexts.desc).map (fun d => d.parameters.length) = some 1 := by decide +kernel
abbrev cX7_edges : ByteArray := prog_9_method_27_code
def yX7_edges : MethodName := ⟨RX7, "edges", "()I"⟩
abbrev kX7_edges : Cond := .code yX7_edges cX7_edges 3 (some .int)
theorem coX7_edges : kX7_edges ∈ gw := gm (mt4 (i := 30) rfl) rfl
abbrev wsX7_edges : List Cond := kX7_edges :: gw
theorem imX7_edges : Cond.instanceMethod yX7_edges ∈ gw := gm (mt4 (i := 28) rfl) rfl
theorem seX7_edges : Cond.selects RX7 yX7_edges yX7_edges ∈ gw := gm (mt4 (i := 29) rfl) rfl
theorem hdX7_edges : yX7_edges.cls = RX7 ∧ yX7_edges.cls ≠ "java/lang/invoke/MethodHandle" ∧ yX7_edges.cls ≠ "java/lang/invoke/VarHandle" ∧ (parseMethodDescriptor yX7_edges.desc).map (fun d => d.parameters.length) = some 0 := by decide +kernel
abbrev cX7_alike : ByteArray := prog_9_method_28_code
def yX7_alike : MethodName := ⟨RX7, "alike", "()I"⟩
abbrev kX7_alike : Cond := .code yX7_alike cX7_alike 5 (some .int)
theorem coX7_alike : kX7_alike ∈ gw := gm (mt4 (i := 38) rfl) rfl
abbrev wsX7_alike : List Cond := kX7_alike :: gw
theorem imX7_alike : Cond.instanceMethod yX7_alike ∈ gw := gm (mt4 (i := 36) rfl) rfl
theorem seX7_alike : Cond.selects RX7 yX7_alike yX7_alike ∈ gw := gm (mt4 (i := 37) rfl) rfl
theorem hdX7_alike : yX7_alike.cls = RX7 ∧ yX7_alike.cls ≠ "java/lang/invoke/MethodHandle" ∧ yX7_alike.cls ≠ "java/lang/invoke/VarHandle" ∧ (parseMethodDescriptor yX7_alike.desc).map (fun d => d.parameters.length) = some 0 := by decide +kernel
abbrev cX7_distance : ByteArray := prog_9_method_29_code
def yX7_distance : MethodName := ⟨RX7, "distance", "(II)I"⟩
abbrev kX7_distance : Cond := .code yX7_distance cX7_distance 7 (some .int)
theorem coX7_distance : kX7_distance ∈ gw := gm (mt4 (i := 46) rfl) rfl
abbrev wsX7_distance : List Cond := kX7_distance :: gw
theorem imX7_distance : Cond.instanceMethod yX7_distance ∈ gw := gm (mt4 (i := 45) rfl) rfl
theorem seX7_distance : Cond.selects RX7 yX7_distance yX7_distance ∈ gw := gm (ms3 (i := 0) rfl) rfl
theorem hdX7_distance : yX7_distance.cls = RX7 ∧ yX7_distance.cls ≠ "java/lang/invoke/MethodHandle" ∧ yX7_distance.cls ≠ "java/lang/invoke/VarHandle" ∧ (parseMethodDescriptor yX7_distance.desc).map (fun d => d.parameters.length) = some 2 := by decide +kernel
abbrev cX7_note : ByteArray := prog_9_method_30_code
def yX7_note : MethodName := ⟨RX7, "note", "(II)V"⟩
abbrev kX7_note : Cond := .code yX7_note cX7_note 3 none
theorem coX7_note : kX7_note ∈ gw := gm (mt4 (i := 50) rfl) rfl
abbrev wsX7_note : List Cond := kX7_note :: gw
theorem imX7_note : Cond.instanceMethod yX7_note ∈ gw := gm (mt4 (i := 49) rfl) rfl
theorem seX7_note : Cond.selects RX7 yX7_note yX7_note ∈ gw := gm (ms3 (i := 1) rfl) rfl
theorem hdX7_note : yX7_note.cls = RX7 ∧ yX7_note.cls ≠ "java/lang/invoke/MethodHandle" ∧ yX7_note.cls ≠ "java/lang/invoke/VarHandle" ∧ (parseMethodDescriptor yX7_note.desc).map (fun d => d.parameters.length) = some 2 := by decide +kernel
abbrev cX7_near : ByteArray := prog_9_method_31_code
def yX7_near : MethodName := ⟨RX7, "near", "(I)I"⟩
abbrev kX7_near : Cond := .code yX7_near cX7_near 5 (some .int)
theorem coX7_near : kX7_near ∈ gw := gm (mt4 (i := 42) rfl) rfl
abbrev wsX7_near : List Cond := kX7_near :: gw
theorem imX7_near : Cond.instanceMethod yX7_near ∈ gw := gm (mt4 (i := 40) rfl) rfl
theorem seX7_near : Cond.selects RX7 yX7_near yX7_near ∈ gw := gm (mt4 (i := 41) rfl) rfl
theorem hdX7_near : yX7_near.cls = RX7 ∧ yX7_near.cls ≠ "java/lang/invoke/MethodHandle" ∧ yX7_near.cls ≠ "java/lang/invoke/VarHandle" ∧ (parseMethodDescriptor yX7_near.desc).map (fun d => d.parameters.length) = some 1 := by decide +kernel
abbrev cX7_scan : ByteArray := prog_9_method_32_code
def yX7_scan : MethodName := ⟨RX7, "scan", "()I"⟩
abbrev kX7_scan : Cond := .code yX7_scan cX7_scan 5 (some .int)
theorem coX7_scan : kX7_scan ∈ gw := gm (mt4 (i := 54) rfl) rfl
abbrev wsX7_scan : List Cond := kX7_scan :: gw
theorem imX7_scan : Cond.instanceMethod yX7_scan ∈ gw := gm (mt4 (i := 52) rfl) rfl
theorem seX7_scan : Cond.selects RX7 yX7_scan yX7_scan ∈ gw := gm (mt4 (i := 53) rfl) rfl
theorem hdX7_scan : yX7_scan.cls = RX7 ∧ yX7_scan.cls ≠ "java/lang/invoke/MethodHandle" ∧ yX7_scan.cls ≠ "java/lang/invoke/VarHandle" ∧ (parseMethodDescriptor yX7_scan.desc).map (fun d => d.parameters.length) = some 0 := by decide +kernel
abbrev cX7_found : ByteArray := prog_9_method_33_code
def yX7_found : MethodName := ⟨RX7, "found", "(II)I"⟩
abbrev kX7_found : Cond := .code yX7_found cX7_found 3 (some .int)
theorem coX7_found : kX7_found ∈ gw := gm (mt4 (i := 58) rfl) rfl
abbrev wsX7_found : List Cond := kX7_found :: gw
theorem imX7_found : Cond.instanceMethod yX7_found ∈ gw := gm (mt4 (i := 56) rfl) rfl
theorem seX7_found : Cond.selects RX7 yX7_found yX7_found ∈ gw := gm (mt4 (i := 57) rfl) rfl
theorem hdX7_found : yX7_found.cls = RX7 ∧ yX7_found.cls ≠ "java/lang/invoke/MethodHandle" ∧ yX7_found.cls ≠ "java/lang/invoke/VarHandle" ∧ (parseMethodDescriptor yX7_found.desc).map (fun d => d.parameters.length) = some 2 := by decide +kernel
abbrev cX7_splits : ByteArray := prog_9_method_34_code
def yX7_splits : MethodName := ⟨RX7, "splits", "()J"⟩
abbrev kX7_splits : Cond := .code yX7_splits cX7_splits 4 (some .long)
theorem coX7_splits : kX7_splits ∈ gw := gm (mt4 (i := 62) rfl) rfl
abbrev wsX7_splits : List Cond := kX7_splits :: gw
theorem imX7_splits : Cond.instanceMethod yX7_splits ∈ gw := gm (mt4 (i := 60) rfl) rfl
theorem seX7_splits : Cond.selects RX7 yX7_splits yX7_splits ∈ gw := gm (mt4 (i := 61) rfl) rfl
theorem hdX7_splits : yX7_splits.cls = RX7 ∧ yX7_splits.cls ≠ "java/lang/invoke/MethodHandle" ∧ yX7_splits.cls ≠ "java/lang/invoke/VarHandle" ∧ (parseMethodDescriptor yX7_splits.desc).map (fun d => d.parameters.length) = some 0 := by decide +kernel
abbrev cX7_split : ByteArray := prog_9_method_35_code
def yX7_split : MethodName := ⟨RX7, "split", "()I"⟩
abbrev kX7_split : Cond := .code yX7_split cX7_split 5 (some .int)
theorem coX7_split : kX7_split ∈ gw := gm (mt4 (i := 66) rfl) rfl
abbrev wsX7_split : List Cond := kX7_split :: gw
theorem imX7_split : Cond.instanceMethod yX7_split ∈ gw := gm (mt4 (i := 64) rfl) rfl
theorem seX7_split : Cond.selects RX7 yX7_split yX7_split ∈ gw := gm (mt4 (i := 65) rfl) rfl
theorem hdX7_split : yX7_split.cls = RX7 ∧ yX7_split.cls ≠ "java/lang/invoke/MethodHandle" ∧ yX7_split.cls ≠ "java/lang/invoke/VarHandle" ∧ (parseMethodDescriptor yX7_split.desc).map (fun d => d.parameters.length) = some 0 := by decide +kernel
abbrev cX7_length : ByteArray := prog_9_method_36_code
def yX7_length : MethodName := ⟨RX7, "length", "()I"⟩
abbrev kX7_length : Cond := .code yX7_length cX7_length 1 (some .int)
theorem coX7_length : kX7_length ∈ gw := gm (mt4 (i := 70) rfl) rfl
abbrev wsX7_length : List Cond := kX7_length :: gw
theorem imX7_length : Cond.instanceMethod yX7_length ∈ gw := gm (mt4 (i := 68) rfl) rfl
theorem seX7_length : Cond.selects RX7 yX7_length yX7_length ∈ gw := gm (mt4 (i := 69) rfl) rfl
theorem hdX7_length : yX7_length.cls = RX7 ∧ yX7_length.cls ≠ "java/lang/invoke/MethodHandle" ∧ yX7_length.cls ≠ "java/lang/invoke/VarHandle" ∧ (parseMethodDescriptor yX7_length.desc).map (fun d => d.parameters.length) = some 0 := by decide +kernel
abbrev cX7_charAt : ByteArray := prog_9_method_37_code
def yX7_charAt : MethodName := ⟨RX7, "charAt", "(I)C"⟩
abbrev kX7_charAt : Cond := .code yX7_charAt cX7_charAt 2 (some .char)
theorem coX7_charAt : kX7_charAt ∈ gw := gm (mt4 (i := 74) rfl) rfl
abbrev wsX7_charAt : List Cond := kX7_charAt :: gw
theorem imX7_charAt : Cond.instanceMethod yX7_charAt ∈ gw := gm (mt4 (i := 72) rfl) rfl
theorem seX7_charAt : Cond.selects RX7 yX7_charAt yX7_charAt ∈ gw := gm (mt4 (i := 73) rfl) rfl
theorem hdX7_charAt : yX7_charAt.cls = RX7 ∧ yX7_charAt.cls ≠ "java/lang/invoke/MethodHandle" ∧ yX7_charAt.cls ≠ "java/lang/invoke/VarHandle" ∧ (parseMethodDescriptor yX7_charAt.desc).map (fun d => d.parameters.length) = some 1 := by decide +kernel
abbrev cX0_init : ByteArray := prog_2_method_1_code
def yX0_init : MethodName := ⟨RX0, "<init>", "()V"⟩
abbrev kX0_init : Cond := .code yX0_init cX0_init 1 none
theorem coX0_init : kX0_init ∈ gw := gm (mt1 (i := 77) rfl) rfl
abbrev wsX0_init : List Cond := kX0_init :: gw
theorem imX0_init : Cond.instanceMethod yX0_init ∈ gw := gm (mt1 (i := 76) rfl) rfl
theorem hdX0_init : yX0_init.cls ≠ "java/lang/invoke/MethodHandle" ∧ yX0_init.cls ≠ "java/lang/invoke/VarHandle" ∧ (parseMethodDescriptor yX0_init.desc).map (fun d => d.parameters.length) = some 0 := by decide +kernel
abbrev cX0_countStates : ByteArray := prog_2_method_2_code
def yX0_countStates : MethodName := ⟨RX0, "countStates", "()I"⟩
abbrev kX0_countStates : Cond := .code yX0_countStates cX0_countStates 3 (some .int)
theorem coX0_countStates : kX0_countStates ∈ gw := gm (mt2 (i := 77) rfl) rfl
abbrev wsX0_countStates : List Cond := kX0_countStates :: gw
theorem imX0_countStates : Cond.instanceMethod yX0_countStates ∈ gw := gm (mt2 (i := 75) rfl) rfl
theorem seX0_countStates : Cond.selects RX0 yX0_countStates yX0_countStates ∈ gw := gm (mt2 (i := 76) rfl) rfl
theorem hdX0_countStates : yX0_countStates.cls = RX0 ∧ yX0_countStates.cls ≠ "java/lang/invoke/MethodHandle" ∧ yX0_countStates.cls ≠ "java/lang/invoke/VarHandle" ∧ (parseMethodDescriptor yX0_countStates.desc).map (fun d => d.parameters.length) = some 0 := by decide +kernel
abbrev cX0_countEdges : ByteArray := prog_2_method_3_code
def yX0_countEdges : MethodName := ⟨RX0, "countEdges", "()I"⟩
abbrev kX0_countEdges : Cond := .code yX0_countEdges cX0_countEdges 3 (some .int)
theorem coX0_countEdges : kX0_countEdges ∈ gw := gm (mt2 (i := 85) rfl) rfl
abbrev wsX0_countEdges : List Cond := kX0_countEdges :: gw
theorem imX0_countEdges : Cond.instanceMethod yX0_countEdges ∈ gw := gm (mt2 (i := 83) rfl) rfl
theorem seX0_countEdges : Cond.selects RX0 yX0_countEdges yX0_countEdges ∈ gw := gm (mt2 (i := 84) rfl) rfl
theorem hdX0_countEdges : yX0_countEdges.cls = RX0 ∧ yX0_countEdges.cls ≠ "java/lang/invoke/MethodHandle" ∧ yX0_countEdges.cls ≠ "java/lang/invoke/VarHandle" ∧ (parseMethodDescriptor yX0_countEdges.desc).map (fun d => d.parameters.length) = some 0 := by decide +kernel
abbrev cX0_countEdgesFrom : ByteArray := prog_2_method_4_code
def yX0_countEdgesFrom : MethodName := ⟨RX0, "countEdgesFrom", "(I)I"⟩
abbrev kX0_countEdgesFrom : Cond := .code yX0_countEdgesFrom cX0_countEdgesFrom 4 (some .int)
theorem coX0_countEdgesFrom : kX0_countEdgesFrom ∈ gw := gm (mt2 (i := 89) rfl) rfl
abbrev wsX0_countEdgesFrom : List Cond := kX0_countEdgesFrom :: gw
theorem imX0_countEdgesFrom : Cond.instanceMethod yX0_countEdgesFrom ∈ gw := gm (mt2 (i := 88) rfl) rfl
theorem seX0_countEdgesFrom : Cond.selects RX0 yX0_countEdgesFrom yX0_countEdgesFrom ∈ gw := gm (ms1 (i := 9) rfl) rfl
theorem hdX0_countEdgesFrom : yX0_countEdgesFrom.cls = RX0 ∧ yX0_countEdgesFrom.cls ≠ "java/lang/invoke/MethodHandle" ∧ yX0_countEdgesFrom.cls ≠ "java/lang/invoke/VarHandle" ∧ (parseMethodDescriptor yX0_countEdgesFrom.desc).map (fun d => d.parameters.length) = some 1 := by decide +kernel
abbrev cX0_countAlike : ByteArray := prog_2_method_5_code
def yX0_countAlike : MethodName := ⟨RX0, "countAlike", "(I)I"⟩
abbrev kX0_countAlike : Cond := .code yX0_countAlike cX0_countAlike 2 (some .int)
theorem coX0_countAlike : kX0_countAlike ∈ gw := gm (mt2 (i := 97) rfl) rfl
abbrev wsX0_countAlike : List Cond := kX0_countAlike :: gw
theorem imX0_countAlike : Cond.instanceMethod yX0_countAlike ∈ gw := gm (mt2 (i := 95) rfl) rfl
theorem seX0_countAlike : Cond.selects RX0 yX0_countAlike yX0_countAlike ∈ gw := gm (mt2 (i := 96) rfl) rfl
theorem hdX0_countAlike : yX0_countAlike.cls = RX0 ∧ yX0_countAlike.cls ≠ "java/lang/invoke/MethodHandle" ∧ yX0_countAlike.cls ≠ "java/lang/invoke/VarHandle" ∧ (parseMethodDescriptor yX0_countAlike.desc).map (fun d => d.parameters.length) = some 1 := by decide +kernel
abbrev cX0_release : ByteArray := prog_2_method_6_code
def yX0_release : MethodName := ⟨RX0, "release", "(LSharedEndings$Line;LSharedEndings$Tree;)V"⟩
abbrev kX0_release : Cond := .code yX0_release cX0_release 5 none
theorem coX0_release : kX0_release ∈ gw := gm (mt1 (i := 221) rfl) rfl
abbrev wsX0_release : List Cond := kX0_release :: gw
theorem imX0_release : Cond.instanceMethod yX0_release ∈ gw := gm (mt1 (i := 219) rfl) rfl
theorem seX0_release : Cond.selects RX0 yX0_release yX0_release ∈ gw := gm (mt1 (i := 220) rfl) rfl
theorem hdX0_release : yX0_release.cls = RX0 ∧ yX0_release.cls ≠ "java/lang/invoke/MethodHandle" ∧ yX0_release.cls ≠ "java/lang/invoke/VarHandle" ∧ (parseMethodDescriptor yX0_release.desc).map (fun d => d.parameters.length) = some 2 := by decide +kernel
abbrev cX0_receive : ByteArray := prog_2_method_7_code
def yX0_receive : MethodName := ⟨RX0, "receive", "(LSharedEndings$Line;LSharedEndings$Tree;)V"⟩
abbrev kX0_receive : Cond := .code yX0_receive cX0_receive 5 none
theorem coX0_receive : kX0_receive ∈ gw := gm (mt1 (i := 237) rfl) rfl
abbrev wsX0_receive : List Cond := kX0_receive :: gw
theorem imX0_receive : Cond.instanceMethod yX0_receive ∈ gw := gm (mt1 (i := 235) rfl) rfl
theorem seX0_receive : Cond.selects RX0 yX0_receive yX0_receive ∈ gw := gm (mt1 (i := 236) rfl) rfl
theorem hdX0_receive : yX0_receive.cls = RX0 ∧ yX0_receive.cls ≠ "java/lang/invoke/MethodHandle" ∧ yX0_receive.cls ≠ "java/lang/invoke/VarHandle" ∧ (parseMethodDescriptor yX0_receive.desc).map (fun d => d.parameters.length) = some 2 := by decide +kernel
abbrev cX0_join : ByteArray := prog_2_method_8_code
def yX0_join : MethodName := ⟨RX0, "join", "(ILSharedEndings$Tree;)V"⟩
abbrev kX0_join : Cond := .code yX0_join cX0_join 5 none
theorem coX0_join : kX0_join ∈ gw := gm (mt2 (i := 1) rfl) rfl
abbrev wsX0_join : List Cond := kX0_join :: gw
theorem imX0_join : Cond.instanceMethod yX0_join ∈ gw := gm (mt2 (i := 0) rfl) rfl
theorem seX0_join : Cond.selects RX0 yX0_join yX0_join ∈ gw := gm (ms1 (i := 2) rfl) rfl
theorem hdX0_join : yX0_join.cls = RX0 ∧ yX0_join.cls ≠ "java/lang/invoke/MethodHandle" ∧ yX0_join.cls ≠ "java/lang/invoke/VarHandle" ∧ (parseMethodDescriptor yX0_join.desc).map (fun d => d.parameters.length) = some 2 := by decide +kernel
abbrev cX0_wantedState : ByteArray := prog_2_method_9_code
def yX0_wantedState : MethodName := ⟨RX0, "wantedState", "(Z)I"⟩
abbrev kX0_wantedState : Cond := .code yX0_wantedState cX0_wantedState 3 (some .int)
theorem coX0_wantedState : kX0_wantedState ∈ gw := gm (mt2 (i := 7) rfl) rfl
abbrev wsX0_wantedState : List Cond := kX0_wantedState :: gw
theorem imX0_wantedState : Cond.instanceMethod yX0_wantedState ∈ gw := gm (mt2 (i := 6) rfl) rfl
theorem seX0_wantedState : Cond.selects RX0 yX0_wantedState yX0_wantedState ∈ gw := gm (ms1 (i := 3) rfl) rfl
theorem hdX0_wantedState : yX0_wantedState.cls = RX0 ∧ yX0_wantedState.cls ≠ "java/lang/invoke/MethodHandle" ∧ yX0_wantedState.cls ≠ "java/lang/invoke/VarHandle" ∧ (parseMethodDescriptor yX0_wantedState.desc).map (fun d => d.parameters.length) = some 1 := by decide +kernel
abbrev cX0_hasWantedTargets : ByteArray := prog_2_method_10_code
def yX0_hasWantedTargets : MethodName := ⟨RX0, "hasWantedTargets", "(I)Z"⟩
abbrev kX0_hasWantedTargets : Cond := .code yX0_hasWantedTargets cX0_hasWantedTargets 3 (some .boolean)
theorem coX0_hasWantedTargets : kX0_hasWantedTargets ∈ gw := gm (mt2 (i := 11) rfl) rfl
abbrev wsX0_hasWantedTargets : List Cond := kX0_hasWantedTargets :: gw
theorem imX0_hasWantedTargets : Cond.instanceMethod yX0_hasWantedTargets ∈ gw := gm (mt2 (i := 10) rfl) rfl
theorem seX0_hasWantedTargets : Cond.selects RX0 yX0_hasWantedTargets yX0_hasWantedTargets ∈ gw := gm (ms1 (i := 4) rfl) rfl
theorem hdX0_hasWantedTargets : yX0_hasWantedTargets.cls = RX0 ∧ yX0_hasWantedTargets.cls ≠ "java/lang/invoke/MethodHandle" ∧ yX0_hasWantedTargets.cls ≠ "java/lang/invoke/VarHandle" ∧ (parseMethodDescriptor yX0_hasWantedTargets.desc).map (fun d => d.parameters.length) = some 1 := by decide +kernel
abbrev cX0_newState : ByteArray := prog_2_method_11_code
def yX0_newState : MethodName := ⟨RX0, "newState", "(Z)I"⟩
abbrev kX0_newState : Cond := .code yX0_newState cX0_newState 3 (some .int)
theorem coX0_newState : kX0_newState ∈ gw := gm (mt2 (i := 15) rfl) rfl
abbrev wsX0_newState : List Cond := kX0_newState :: gw
theorem imX0_newState : Cond.instanceMethod yX0_newState ∈ gw := gm (mt2 (i := 14) rfl) rfl
theorem seX0_newState : Cond.selects RX0 yX0_newState yX0_newState ∈ gw := gm (ms1 (i := 5) rfl) rfl
theorem hdX0_newState : yX0_newState.cls = RX0 ∧ yX0_newState.cls ≠ "java/lang/invoke/MethodHandle" ∧ yX0_newState.cls ≠ "java/lang/invoke/VarHandle" ∧ (parseMethodDescriptor yX0_newState.desc).map (fun d => d.parameters.length) = some 1 := by decide +kernel
abbrev cX1_init : ByteArray := prog_3_method_1_code
def yX1_init : MethodName := ⟨RX1, "<init>", "()V"⟩
abbrev kX1_init : Cond := .code yX1_init cX1_init 1 none
theorem coX1_init : kX1_init ∈ gw := gm (mt1 (i := 103) rfl) rfl
abbrev wsX1_init : List Cond := kX1_init :: gw
theorem imX1_init : Cond.instanceMethod yX1_init ∈ gw := gm (mt1 (i := 102) rfl) rfl
theorem hdX1_init : yX1_init.cls ≠ "java/lang/invoke/MethodHandle" ∧ yX1_init.cls ≠ "java/lang/invoke/VarHandle" ∧ (parseMethodDescriptor yX1_init.desc).map (fun d => d.parameters.length) = some 0 := by decide +kernel
abbrev cX1_empty : ByteArray := prog_3_method_2_code
def yX1_empty : MethodName := ⟨RX1, "empty", "()V"⟩
abbrev kX1_empty : Cond := .code yX1_empty cX1_empty 1 none
theorem coX1_empty : kX1_empty ∈ gw := gm (mt2 (i := 38) rfl) rfl
abbrev wsX1_empty : List Cond := kX1_empty :: gw
theorem imX1_empty : Cond.instanceMethod yX1_empty ∈ gw := gm (mt2 (i := 36) rfl) rfl
theorem seX1_empty : Cond.selects RX1 yX1_empty yX1_empty ∈ gw := gm (mt2 (i := 37) rfl) rfl
theorem hdX1_empty : yX1_empty.cls = RX1 ∧ yX1_empty.cls ≠ "java/lang/invoke/MethodHandle" ∧ yX1_empty.cls ≠ "java/lang/invoke/VarHandle" ∧ (parseMethodDescriptor yX1_empty.desc).map (fun d => d.parameters.length) = some 0 := by decide +kernel
abbrev cX1_put : ByteArray := prog_3_method_3_code
def yX1_put : MethodName := ⟨RX1, "put", "(II)V"⟩
abbrev kX1_put : Cond := .code yX1_put cX1_put 3 none
theorem coX1_put : kX1_put ∈ gw := gm (mt2 (i := 117) rfl) rfl
abbrev wsX1_put : List Cond := kX1_put :: gw
theorem imX1_put : Cond.instanceMethod yX1_put ∈ gw := gm (mt2 (i := 115) rfl) rfl
theorem seX1_put : Cond.selects RX1 yX1_put yX1_put ∈ gw := gm (mt2 (i := 116) rfl) rfl
theorem hdX1_put : yX1_put.cls = RX1 ∧ yX1_put.cls ≠ "java/lang/invoke/MethodHandle" ∧ yX1_put.cls ≠ "java/lang/invoke/VarHandle" ∧ (parseMethodDescriptor yX1_put.desc).map (fun d => d.parameters.length) = some 2 := by decide +kernel
abbrev cX1_size : ByteArray := prog_3_method_4_code
def yX1_size : MethodName := ⟨RX1, "size", "()I"⟩
abbrev kX1_size : Cond := .code yX1_size cX1_size 1 (some .int)
theorem coX1_size : kX1_size ∈ gw := gm (mt2 (i := 121) rfl) rfl
abbrev wsX1_size : List Cond := kX1_size :: gw
theorem imX1_size : Cond.instanceMethod yX1_size ∈ gw := gm (mt2 (i := 119) rfl) rfl
theorem seX1_size : Cond.selects RX1 yX1_size yX1_size ∈ gw := gm (mt2 (i := 120) rfl) rfl
theorem hdX1_size : yX1_size.cls = RX1 ∧ yX1_size.cls ≠ "java/lang/invoke/MethodHandle" ∧ yX1_size.cls ≠ "java/lang/invoke/VarHandle" ∧ (parseMethodDescriptor yX1_size.desc).map (fun d => d.parameters.length) = some 0 := by decide +kernel
abbrev cX1_number : ByteArray := prog_3_method_5_code
def yX1_number : MethodName := ⟨RX1, "number", "(I)I"⟩
abbrev kX1_number : Cond := .code yX1_number cX1_number 2 (some .int)
theorem coX1_number : kX1_number ∈ gw := gm (mt3 (i := 102) rfl) rfl
abbrev wsX1_number : List Cond := kX1_number :: gw
theorem imX1_number : Cond.instanceMethod yX1_number ∈ gw := gm (mt3 (i := 100) rfl) rfl
theorem seX1_number : Cond.selects RX1 yX1_number yX1_number ∈ gw := gm (mt3 (i := 101) rfl) rfl
theorem hdX1_number : yX1_number.cls = RX1 ∧ yX1_number.cls ≠ "java/lang/invoke/MethodHandle" ∧ yX1_number.cls ≠ "java/lang/invoke/VarHandle" ∧ (parseMethodDescriptor yX1_number.desc).map (fun d => d.parameters.length) = some 1 := by decide +kernel
abbrev cX1_measure : ByteArray := prog_3_method_6_code
def yX1_measure : MethodName := ⟨RX1, "measure", "(I)I"⟩
abbrev kX1_measure : Cond := .code yX1_measure cX1_measure 2 (some .int)
theorem coX1_measure : kX1_measure ∈ gw := gm (mt3 (i := 106) rfl) rfl
abbrev wsX1_measure : List Cond := kX1_measure :: gw
theorem imX1_measure : Cond.instanceMethod yX1_measure ∈ gw := gm (mt3 (i := 104) rfl) rfl
theorem seX1_measure : Cond.selects RX1 yX1_measure yX1_measure ∈ gw := gm (mt3 (i := 105) rfl) rfl
theorem hdX1_measure : yX1_measure.cls = RX1 ∧ yX1_measure.cls ≠ "java/lang/invoke/MethodHandle" ∧ yX1_measure.cls ≠ "java/lang/invoke/VarHandle" ∧ (parseMethodDescriptor yX1_measure.desc).map (fun d => d.parameters.length) = some 1 := by decide +kernel
abbrev cX2_init : ByteArray := prog_4_method_1_code
def yX2_init : MethodName := ⟨RX2, "<init>", "(I)V"⟩
abbrev kX2_init : Cond := .code yX2_init cX2_init 2 none
theorem coX2_init : kX2_init ∈ gw := gm (mt1 (i := 30) rfl) rfl
abbrev wsX2_init : List Cond := kX2_init :: gw
theorem imX2_init : Cond.instanceMethod yX2_init ∈ gw := gm (mt1 (i := 29) rfl) rfl
theorem hdX2_init : yX2_init.cls ≠ "java/lang/invoke/MethodHandle" ∧ yX2_init.cls ≠ "java/lang/invoke/VarHandle" ∧ (parseMethodDescriptor yX2_init.desc).map (fun d => d.parameters.length) = some 1 := by decide +kernel
abbrev cX2_put : ByteArray := prog_4_method_2_code
def yX2_put : MethodName := ⟨RX2, "put", "(C)Z"⟩
abbrev kX2_put : Cond := .code yX2_put cX2_put 2 (some .boolean)
theorem coX2_put : kX2_put ∈ gw := gm (mt1 (i := 174) rfl) rfl
abbrev wsX2_put : List Cond := kX2_put :: gw
theorem imX2_put : Cond.instanceMethod yX2_put ∈ gw := gm (mt1 (i := 172) rfl) rfl
theorem seX2_put : Cond.selects RX2 yX2_put yX2_put ∈ gw := gm (mt1 (i := 173) rfl) rfl
theorem hdX2_put : yX2_put.cls = RX2 ∧ yX2_put.cls ≠ "java/lang/invoke/MethodHandle" ∧ yX2_put.cls ≠ "java/lang/invoke/VarHandle" ∧ (parseMethodDescriptor yX2_put.desc).map (fun d => d.parameters.length) = some 1 := by decide +kernel
abbrev cX2_empty : ByteArray := prog_4_method_3_code
def yX2_empty : MethodName := ⟨RX2, "empty", "()I"⟩
abbrev kX2_empty : Cond := .code yX2_empty cX2_empty 2 (some .int)
theorem coX2_empty : kX2_empty ∈ gw := gm (mt1 (i := 182) rfl) rfl
abbrev wsX2_empty : List Cond := kX2_empty :: gw
theorem imX2_empty : Cond.instanceMethod yX2_empty ∈ gw := gm (mt1 (i := 180) rfl) rfl
theorem seX2_empty : Cond.selects RX2 yX2_empty yX2_empty ∈ gw := gm (mt1 (i := 181) rfl) rfl
theorem hdX2_empty : yX2_empty.cls = RX2 ∧ yX2_empty.cls ≠ "java/lang/invoke/MethodHandle" ∧ yX2_empty.cls ≠ "java/lang/invoke/VarHandle" ∧ (parseMethodDescriptor yX2_empty.desc).map (fun d => d.parameters.length) = some 0 := by decide +kernel
abbrev cX2_size : ByteArray := prog_4_method_4_code
def yX2_size : MethodName := ⟨RX2, "size", "()I"⟩
abbrev kX2_size : Cond := .code yX2_size cX2_size 1 (some .int)
theorem coX2_size : kX2_size ∈ gw := gm (mt1 (i := 194) rfl) rfl
abbrev wsX2_size : List Cond := kX2_size :: gw
theorem imX2_size : Cond.instanceMethod yX2_size ∈ gw := gm (mt1 (i := 192) rfl) rfl
theorem seX2_size : Cond.selects RX2 yX2_size yX2_size ∈ gw := gm (mt1 (i := 193) rfl) rfl
theorem hdX2_size : yX2_size.cls = RX2 ∧ yX2_size.cls ≠ "java/lang/invoke/MethodHandle" ∧ yX2_size.cls ≠ "java/lang/invoke/VarHandle" ∧ (parseMethodDescriptor yX2_size.desc).map (fun d => d.parameters.length) = some 0 := by decide +kernel
abbrev cX2_at : ByteArray := prog_4_method_5_code
def yX2_at : MethodName := ⟨RX2, "at", "(I)C"⟩
abbrev kX2_at : Cond := .code yX2_at cX2_at 2 (some .char)
theorem coX2_at : kX2_at ∈ gw := gm (mt1 (i := 198) rfl) rfl
abbrev wsX2_at : List Cond := kX2_at :: gw
theorem imX2_at : Cond.instanceMethod yX2_at ∈ gw := gm (mt1 (i := 196) rfl) rfl
theorem seX2_at : Cond.selects RX2 yX2_at yX2_at ∈ gw := gm (mt1 (i := 197) rfl) rfl
theorem hdX2_at : yX2_at.cls = RX2 ∧ yX2_at.cls ≠ "java/lang/invoke/MethodHandle" ∧ yX2_at.cls ≠ "java/lang/invoke/VarHandle" ∧ (parseMethodDescriptor yX2_at.desc).map (fun d => d.parameters.length) = some 1 := by decide +kernel
abbrev cX3_init : ByteArray := prog_5_method_1_code
def yX3_init : MethodName := ⟨RX3, "<init>", "()V"⟩
abbrev kX3_init : Cond := .code yX3_init cX3_init 1 none
theorem coX3_init : kX3_init ∈ gw := gm (mt1 (i := 119) rfl) rfl
abbrev wsX3_init : List Cond := kX3_init :: gw
theorem imX3_init : Cond.instanceMethod yX3_init ∈ gw := gm (mt1 (i := 118) rfl) rfl
theorem hdX3_init : yX3_init.cls ≠ "java/lang/invoke/MethodHandle" ∧ yX3_init.cls ≠ "java/lang/invoke/VarHandle" ∧ (parseMethodDescriptor yX3_init.desc).map (fun d => d.parameters.length) = some 0 := by decide +kernel
abbrev cX3_distance : ByteArray := prog_5_method_2_code
def yX3_distance : MethodName := ⟨RX3, "distance", "(LSharedEndings$Line;LSharedEndings$Line;)I"⟩
abbrev kX3_distance : Cond := .code yX3_distance cX3_distance 4 (some .int)
theorem coX3_distance : kX3_distance ∈ gw := gm (mt3 (i := 80) rfl) rfl
abbrev wsX3_distance : List Cond := kX3_distance :: gw
theorem imX3_distance : Cond.instanceMethod yX3_distance ∈ gw := gm (mt3 (i := 78) rfl) rfl
theorem seX3_distance : Cond.selects RX3 yX3_distance yX3_distance ∈ gw := gm (mt3 (i := 79) rfl) rfl
theorem hdX3_distance : yX3_distance.cls = RX3 ∧ yX3_distance.cls ≠ "java/lang/invoke/MethodHandle" ∧ yX3_distance.cls ≠ "java/lang/invoke/VarHandle" ∧ (parseMethodDescriptor yX3_distance.desc).map (fun d => d.parameters.length) = some 2 := by decide +kernel
abbrev cX3_read : ByteArray := prog_5_method_3_code
def yX3_read : MethodName := ⟨RX3, "read", "(LSharedEndings$Line;C)V"⟩
abbrev kX3_read : Cond := .code yX3_read cX3_read 6 none
theorem coX3_read : kX3_read ∈ gw := gm (mt3 (i := 86) rfl) rfl
abbrev wsX3_read : List Cond := kX3_read :: gw
theorem imX3_read : Cond.instanceMethod yX3_read ∈ gw := gm (mt3 (i := 85) rfl) rfl
theorem seX3_read : Cond.selects RX3 yX3_read yX3_read ∈ gw := gm (ms2 (i := 1) rfl) rfl
theorem hdX3_read : yX3_read.cls = RX3 ∧ yX3_read.cls ≠ "java/lang/invoke/MethodHandle" ∧ yX3_read.cls ≠ "java/lang/invoke/VarHandle" ∧ (parseMethodDescriptor yX3_read.desc).map (fun d => d.parameters.length) = some 2 := by decide +kernel
abbrev cX4_init : ByteArray := prog_6_method_1_code
def yX4_init : MethodName := ⟨RX4, "<init>", "()V"⟩
abbrev kX4_init : Cond := .code yX4_init cX4_init 1 none
theorem coX4_init : kX4_init ∈ gw := gm (mt1 (i := 129) rfl) rfl
abbrev wsX4_init : List Cond := kX4_init :: gw
theorem imX4_init : Cond.instanceMethod yX4_init ∈ gw := gm (mt1 (i := 128) rfl) rfl
theorem hdX4_init : yX4_init.cls ≠ "java/lang/invoke/MethodHandle" ∧ yX4_init.cls ≠ "java/lang/invoke/VarHandle" ∧ (parseMethodDescriptor yX4_init.desc).map (fun d => d.parameters.length) = some 0 := by decide +kernel
abbrev cX4_count : ByteArray := prog_6_method_2_code
def yX4_count : MethodName := ⟨RX4, "count", "(LSharedEndings$Line;LSharedEndings$Tree;)J"⟩
abbrev kX4_count : Cond := .code yX4_count cX4_count 4 (some .long)
theorem coX4_count : kX4_count ∈ gw := gm (mt2 (i := 129) rfl) rfl
abbrev wsX4_count : List Cond := kX4_count :: gw
theorem imX4_count : Cond.instanceMethod yX4_count ∈ gw := gm (mt2 (i := 127) rfl) rfl
theorem seX4_count : Cond.selects RX4 yX4_count yX4_count ∈ gw := gm (mt2 (i := 128) rfl) rfl
theorem hdX4_count : yX4_count.cls = RX4 ∧ yX4_count.cls ≠ "java/lang/invoke/MethodHandle" ∧ yX4_count.cls ≠ "java/lang/invoke/VarHandle" ∧ (parseMethodDescriptor yX4_count.desc).map (fun d => d.parameters.length) = some 2 := by decide +kernel
abbrev cX4_countFrom : ByteArray := prog_6_method_3_code
def yX4_countFrom : MethodName := ⟨RX4, "countFrom", "(ILSharedEndings$Line;LSharedEndings$Tree;)V"⟩
abbrev kX4_countFrom : Cond := .code yX4_countFrom cX4_countFrom 6 none
theorem coX4_countFrom : kX4_countFrom ∈ gw := gm (mt2 (i := 134) rfl) rfl
abbrev wsX4_countFrom : List Cond := kX4_countFrom :: gw
theorem imX4_countFrom : Cond.instanceMethod yX4_countFrom ∈ gw := gm (mt2 (i := 133) rfl) rfl
theorem seX4_countFrom : Cond.selects RX4 yX4_countFrom yX4_countFrom ∈ gw := gm (ms1 (i := 11) rfl) rfl
theorem hdX4_countFrom : yX4_countFrom.cls = RX4 ∧ yX4_countFrom.cls ≠ "java/lang/invoke/MethodHandle" ∧ yX4_countFrom.cls ≠ "java/lang/invoke/VarHandle" ∧ (parseMethodDescriptor yX4_countFrom.desc).map (fun d => d.parameters.length) = some 3 := by decide +kernel
abbrev cX4_choose : ByteArray := prog_6_method_4_code
def yX4_choose : MethodName := ⟨RX4, "choose", "(LSharedEndings$Line;LSharedEndings$Tree;)I"⟩
abbrev kX4_choose : Cond := .code yX4_choose cX4_choose 4 (some .int)
theorem coX4_choose : kX4_choose ∈ gw := gm (mt2 (i := 145) rfl) rfl
abbrev wsX4_choose : List Cond := kX4_choose :: gw
theorem imX4_choose : Cond.instanceMethod yX4_choose ∈ gw := gm (mt2 (i := 143) rfl) rfl
theorem seX4_choose : Cond.selects RX4 yX4_choose yX4_choose ∈ gw := gm (mt2 (i := 144) rfl) rfl
theorem hdX4_choose : yX4_choose.cls = RX4 ∧ yX4_choose.cls ≠ "java/lang/invoke/MethodHandle" ∧ yX4_choose.cls ≠ "java/lang/invoke/VarHandle" ∧ (parseMethodDescriptor yX4_choose.desc).map (fun d => d.parameters.length) = some 2 := by decide +kernel
abbrev cX4_chooseFrom : ByteArray := prog_6_method_5_code
def yX4_chooseFrom : MethodName := ⟨RX4, "chooseFrom", "(ILSharedEndings$Line;LSharedEndings$Tree;)V"⟩
abbrev kX4_chooseFrom : Cond := .code yX4_chooseFrom cX4_chooseFrom 6 none
theorem coX4_chooseFrom : kX4_chooseFrom ∈ gw := gm (mt2 (i := 149) rfl) rfl
abbrev wsX4_chooseFrom : List Cond := kX4_chooseFrom :: gw
theorem imX4_chooseFrom : Cond.instanceMethod yX4_chooseFrom ∈ gw := gm (mt2 (i := 148) rfl) rfl
theorem seX4_chooseFrom : Cond.selects RX4 yX4_chooseFrom yX4_chooseFrom ∈ gw := gm (ms1 (i := 12) rfl) rfl
theorem hdX4_chooseFrom : yX4_chooseFrom.cls = RX4 ∧ yX4_chooseFrom.cls ≠ "java/lang/invoke/MethodHandle" ∧ yX4_chooseFrom.cls ≠ "java/lang/invoke/VarHandle" ∧ (parseMethodDescriptor yX4_chooseFrom.desc).map (fun d => d.parameters.length) = some 3 := by decide +kernel
abbrev cX4_isNoWorse : ByteArray := prog_6_method_6_code
def yX4_isNoWorse : MethodName := ⟨RX4, "isNoWorse", "(II)Z"⟩
abbrev kX4_isNoWorse : Cond := .code yX4_isNoWorse cX4_isNoWorse 2 (some .boolean)
theorem coX4_isNoWorse : kX4_isNoWorse ∈ gw := gm (mt2 (i := 152) rfl) rfl
abbrev wsX4_isNoWorse : List Cond := kX4_isNoWorse :: gw
theorem stX4_isNoWorse : Cond.static yX4_isNoWorse ∈ gw := gm (mt2 (i := 151) rfl) rfl
theorem hdX4_isNoWorse : yX4_isNoWorse.cls ≠ "java/lang/invoke/MethodHandle" ∧ yX4_isNoWorse.cls ≠ "java/lang/invoke/VarHandle" ∧ (parseMethodDescriptor yX4_isNoWorse.desc).map (fun d => d.parameters.length) = some 2 := by decide +kernel
abbrev cX4_write : ByteArray := prog_6_method_7_code
def yX4_write : MethodName := ⟨RX4, "write", "(LSharedEndings$Line;LSharedEndings$Line;)V"⟩
abbrev kX4_write : Cond := .code yX4_write cX4_write 5 none
theorem coX4_write : kX4_write ∈ gw := gm (mt2 (i := 156) rfl) rfl
abbrev wsX4_write : List Cond := kX4_write :: gw
theorem imX4_write : Cond.instanceMethod yX4_write ∈ gw := gm (mt2 (i := 154) rfl) rfl
theorem seX4_write : Cond.selects RX4 yX4_write yX4_write ∈ gw := gm (mt2 (i := 155) rfl) rfl
theorem hdX4_write : yX4_write.cls = RX4 ∧ yX4_write.cls ≠ "java/lang/invoke/MethodHandle" ∧ yX4_write.cls ≠ "java/lang/invoke/VarHandle" ∧ (parseMethodDescriptor yX4_write.desc).map (fun d => d.parameters.length) = some 2 := by decide +kernel
abbrev cX5_init : ByteArray := prog_7_method_1_code
def yX5_init : MethodName := ⟨RX5, "<init>", "()V"⟩
abbrev kX5_init : Cond := .code yX5_init cX5_init 1 none
theorem coX5_init : kX5_init ∈ gw := gm (mt1 (i := 44) rfl) rfl
abbrev wsX5_init : List Cond := kX5_init :: gw
theorem imX5_init : Cond.instanceMethod yX5_init ∈ gw := gm (mt1 (i := 43) rfl) rfl
theorem hdX5_init : yX5_init.cls ≠ "java/lang/invoke/MethodHandle" ∧ yX5_init.cls ≠ "java/lang/invoke/VarHandle" ∧ (parseMethodDescriptor yX5_init.desc).map (fun d => d.parameters.length) = some 0 := by decide +kernel
abbrev cX5_held : ByteArray := prog_7_method_2_code
def yX5_held : MethodName := ⟨RX5, "held", "()I"⟩
abbrev kX5_held : Cond := .code yX5_held cX5_held 1 (some .int)
theorem coX5_held : kX5_held ∈ gw := gm (mt2 (i := 46) rfl) rfl
abbrev wsX5_held : List Cond := kX5_held :: gw
theorem imX5_held : Cond.instanceMethod yX5_held ∈ gw := gm (mt2 (i := 44) rfl) rfl
theorem seX5_held : Cond.selects RX5 yX5_held yX5_held ∈ gw := gm (mt2 (i := 45) rfl) rfl
theorem hdX5_held : yX5_held.cls = RX5 ∧ yX5_held.cls ≠ "java/lang/invoke/MethodHandle" ∧ yX5_held.cls ≠ "java/lang/invoke/VarHandle" ∧ (parseMethodDescriptor yX5_held.desc).map (fun d => d.parameters.length) = some 0 := by decide +kernel
abbrev cX5_heldFrom : ByteArray := prog_7_method_3_code
def yX5_heldFrom : MethodName := ⟨RX5, "heldFrom", "(I)I"⟩
abbrev kX5_heldFrom : Cond := .code yX5_heldFrom cX5_heldFrom 2 (some .int)
theorem coX5_heldFrom : kX5_heldFrom ∈ gw := gm (mt2 (i := 62) rfl) rfl
abbrev wsX5_heldFrom : List Cond := kX5_heldFrom :: gw
theorem imX5_heldFrom : Cond.instanceMethod yX5_heldFrom ∈ gw := gm (mt2 (i := 60) rfl) rfl
theorem seX5_heldFrom : Cond.selects RX5 yX5_heldFrom yX5_heldFrom ∈ gw := gm (mt2 (i := 61) rfl) rfl
theorem hdX5_heldFrom : yX5_heldFrom.cls = RX5 ∧ yX5_heldFrom.cls ≠ "java/lang/invoke/MethodHandle" ∧ yX5_heldFrom.cls ≠ "java/lang/invoke/VarHandle" ∧ (parseMethodDescriptor yX5_heldFrom.desc).map (fun d => d.parameters.length) = some 1 := by decide +kernel
abbrev cX5_isHeld : ByteArray := prog_7_method_4_code
def yX5_isHeld : MethodName := ⟨RX5, "isHeld", "(I)Z"⟩
abbrev kX5_isHeld : Cond := .code yX5_isHeld cX5_isHeld 2 (some .boolean)
theorem coX5_isHeld : kX5_isHeld ∈ gw := gm (mt1 (i := 213) rfl) rfl
abbrev wsX5_isHeld : List Cond := kX5_isHeld :: gw
theorem imX5_isHeld : Cond.instanceMethod yX5_isHeld ∈ gw := gm (mt1 (i := 211) rfl) rfl
theorem seX5_isHeld : Cond.selects RX5 yX5_isHeld yX5_isHeld ∈ gw := gm (mt1 (i := 212) rfl) rfl
theorem hdX5_isHeld : yX5_isHeld.cls = RX5 ∧ yX5_isHeld.cls ≠ "java/lang/invoke/MethodHandle" ∧ yX5_isHeld.cls ≠ "java/lang/invoke/VarHandle" ∧ (parseMethodDescriptor yX5_isHeld.desc).map (fun d => d.parameters.length) = some 1 := by decide +kernel
abbrev cX5_numberOf : ByteArray := prog_7_method_5_code
def yX5_numberOf : MethodName := ⟨RX5, "numberOf", "(I)I"⟩
abbrev kX5_numberOf : Cond := .code yX5_numberOf cX5_numberOf 2 (some .int)
theorem coX5_numberOf : kX5_numberOf ∈ gw := gm (mt2 (i := 54) rfl) rfl
abbrev wsX5_numberOf : List Cond := kX5_numberOf :: gw
theorem imX5_numberOf : Cond.instanceMethod yX5_numberOf ∈ gw := gm (mt2 (i := 52) rfl) rfl
theorem seX5_numberOf : Cond.selects RX5 yX5_numberOf yX5_numberOf ∈ gw := gm (mt2 (i := 53) rfl) rfl
theorem hdX5_numberOf : yX5_numberOf.cls = RX5 ∧ yX5_numberOf.cls ≠ "java/lang/invoke/MethodHandle" ∧ yX5_numberOf.cls ≠ "java/lang/invoke/VarHandle" ∧ (parseMethodDescriptor yX5_numberOf.desc).map (fun d => d.parameters.length) = some 1 := by decide +kernel
abbrev cX5_shorterWord : ByteArray := prog_7_method_6_code
def yX5_shorterWord : MethodName := ⟨RX5, "shorterWord", "(I)I"⟩
abbrev kX5_shorterWord : Cond := .code yX5_shorterWord cX5_shorterWord 2 (some .int)
theorem coX5_shorterWord : kX5_shorterWord ∈ gw := gm (mt2 (i := 113) rfl) rfl
abbrev wsX5_shorterWord : List Cond := kX5_shorterWord :: gw
theorem imX5_shorterWord : Cond.instanceMethod yX5_shorterWord ∈ gw := gm (mt2 (i := 111) rfl) rfl
theorem seX5_shorterWord : Cond.selects RX5 yX5_shorterWord yX5_shorterWord ∈ gw := gm (mt2 (i := 112) rfl) rfl
theorem hdX5_shorterWord : yX5_shorterWord.cls = RX5 ∧ yX5_shorterWord.cls ≠ "java/lang/invoke/MethodHandle" ∧ yX5_shorterWord.cls ≠ "java/lang/invoke/VarHandle" ∧ (parseMethodDescriptor yX5_shorterWord.desc).map (fun d => d.parameters.length) = some 1 := by decide +kernel
abbrev cX5_child : ByteArray := prog_7_method_7_code
def yX5_child : MethodName := ⟨RX5, "child", "(II)I"⟩
abbrev kX5_child : Cond := .code yX5_child cX5_child 3 (some .int)
theorem coX5_child : kX5_child ∈ gw := gm (mt1 (i := 209) rfl) rfl
abbrev wsX5_child : List Cond := kX5_child :: gw
theorem imX5_child : Cond.instanceMethod yX5_child ∈ gw := gm (mt1 (i := 207) rfl) rfl
theorem seX5_child : Cond.selects RX5 yX5_child yX5_child ∈ gw := gm (mt1 (i := 208) rfl) rfl
theorem hdX5_child : yX5_child.cls = RX5 ∧ yX5_child.cls ≠ "java/lang/invoke/MethodHandle" ∧ yX5_child.cls ≠ "java/lang/invoke/VarHandle" ∧ (parseMethodDescriptor yX5_child.desc).map (fun d => d.parameters.length) = some 2 := by decide +kernel
abbrev cX5_step : ByteArray := prog_7_method_8_code
def yX5_step : MethodName := ⟨RX5, "step", "(IC)I"⟩
abbrev kX5_step : Cond := .code yX5_step cX5_step 4 (some .int)
theorem coX5_step : kX5_step ∈ gw := gm (mt1 (i := 202) rfl) rfl
abbrev wsX5_step : List Cond := kX5_step :: gw
theorem imX5_step : Cond.instanceMethod yX5_step ∈ gw := gm (mt1 (i := 200) rfl) rfl
theorem seX5_step : Cond.selects RX5 yX5_step yX5_step ∈ gw := gm (mt1 (i := 201) rfl) rfl
theorem hdX5_step : yX5_step.cls = RX5 ∧ yX5_step.cls ≠ "java/lang/invoke/MethodHandle" ∧ yX5_step.cls ≠ "java/lang/invoke/VarHandle" ∧ (parseMethodDescriptor yX5_step.desc).map (fun d => d.parameters.length) = some 2 := by decide +kernel
abbrev cX5_find : ByteArray := prog_7_method_9_code
def yX5_find : MethodName := ⟨RX5, "find", "(LSharedEndings$Line;)I"⟩
abbrev kX5_find : Cond := .code yX5_find cX5_find 4 (some .int)
theorem coX5_find : kX5_find ∈ gw := gm (mt1 (i := 190) rfl) rfl
abbrev wsX5_find : List Cond := kX5_find :: gw
theorem imX5_find : Cond.instanceMethod yX5_find ∈ gw := gm (mt1 (i := 188) rfl) rfl
theorem seX5_find : Cond.selects RX5 yX5_find yX5_find ∈ gw := gm (mt1 (i := 189) rfl) rfl
theorem hdX5_find : yX5_find.cls = RX5 ∧ yX5_find.cls ≠ "java/lang/invoke/MethodHandle" ∧ yX5_find.cls ≠ "java/lang/invoke/VarHandle" ∧ (parseMethodDescriptor yX5_find.desc).map (fun d => d.parameters.length) = some 1 := by decide +kernel
abbrev cX5_trace : ByteArray := prog_7_method_10_code
def yX5_trace : MethodName := ⟨RX5, "trace", "(LSharedEndings$Line;[I)I"⟩
abbrev kX5_trace : Cond := .code yX5_trace cX5_trace 6 (some .int)
theorem coX5_trace : kX5_trace ∈ gw := gm (mt1 (i := 225) rfl) rfl
abbrev wsX5_trace : List Cond := kX5_trace :: gw
theorem imX5_trace : Cond.instanceMethod yX5_trace ∈ gw := gm (mt1 (i := 223) rfl) rfl
theorem seX5_trace : Cond.selects RX5 yX5_trace yX5_trace ∈ gw := gm (mt1 (i := 224) rfl) rfl
theorem hdX5_trace : yX5_trace.cls = RX5 ∧ yX5_trace.cls ≠ "java/lang/invoke/MethodHandle" ∧ yX5_trace.cls ≠ "java/lang/invoke/VarHandle" ∧ (parseMethodDescriptor yX5_trace.desc).map (fun d => d.parameters.length) = some 2 := by decide +kernel
abbrev cX5_grow : ByteArray := prog_7_method_11_code
def yX5_grow : MethodName := ⟨RX5, "grow", "(LSharedEndings$Line;)V"⟩
abbrev kX5_grow : Cond := .code yX5_grow cX5_grow 5 none
theorem coX5_grow : kX5_grow ∈ gw := gm (mt3 (i := 14) rfl) rfl
abbrev wsX5_grow : List Cond := kX5_grow :: gw
theorem imX5_grow : Cond.instanceMethod yX5_grow ∈ gw := gm (mt3 (i := 12) rfl) rfl
theorem seX5_grow : Cond.selects RX5 yX5_grow yX5_grow ∈ gw := gm (mt3 (i := 13) rfl) rfl
theorem hdX5_grow : yX5_grow.cls = RX5 ∧ yX5_grow.cls ≠ "java/lang/invoke/MethodHandle" ∧ yX5_grow.cls ≠ "java/lang/invoke/VarHandle" ∧ (parseMethodDescriptor yX5_grow.desc).map (fun d => d.parameters.length) = some 1 := by decide +kernel
abbrev cX5_cut : ByteArray := prog_7_method_12_code
def yX5_cut : MethodName := ⟨RX5, "cut", "(LSharedEndings$Line;)V"⟩
abbrev kX5_cut : Cond := .code yX5_cut cX5_cut 5 none
theorem coX5_cut : kX5_cut ∈ gw := gm (mt1 (i := 229) rfl) rfl
abbrev wsX5_cut : List Cond := kX5_cut :: gw
theorem imX5_cut : Cond.instanceMethod yX5_cut ∈ gw := gm (mt1 (i := 227) rfl) rfl
theorem seX5_cut : Cond.selects RX5 yX5_cut yX5_cut ∈ gw := gm (mt1 (i := 228) rfl) rfl
theorem hdX5_cut : yX5_cut.cls = RX5 ∧ yX5_cut.cls ≠ "java/lang/invoke/MethodHandle" ∧ yX5_cut.cls ≠ "java/lang/invoke/VarHandle" ∧ (parseMethodDescriptor yX5_cut.desc).map (fun d => d.parameters.length) = some 1 := by decide +kernel
abbrev cX5_freeCell : ByteArray := prog_7_method_13_code
def yX5_freeCell : MethodName := ⟨RX5, "freeCell", "()I"⟩
abbrev kX5_freeCell : Cond := .code yX5_freeCell cX5_freeCell 2 (some .int)
theorem coX5_freeCell : kX5_freeCell ∈ gw := gm (mt3 (i := 18) rfl) rfl
abbrev wsX5_freeCell : List Cond := kX5_freeCell :: gw
theorem imX5_freeCell : Cond.instanceMethod yX5_freeCell ∈ gw := gm (mt3 (i := 17) rfl) rfl
theorem seX5_freeCell : Cond.selects RX5 yX5_freeCell yX5_freeCell ∈ gw := gm (ms1 (i := 15) rfl) rfl
theorem hdX5_freeCell : yX5_freeCell.cls = RX5 ∧ yX5_freeCell.cls ≠ "java/lang/invoke/MethodHandle" ∧ yX5_freeCell.cls ≠ "java/lang/invoke/VarHandle" ∧ (parseMethodDescriptor yX5_freeCell.desc).map (fun d => d.parameters.length) = some 0 := by decide +kernel
abbrev cX5_relink : ByteArray := prog_7_method_14_code
def yX5_relink : MethodName := ⟨RX5, "relink", "()V"⟩
abbrev kX5_relink : Cond := .code yX5_relink cX5_relink 3 none
theorem coX5_relink : kX5_relink ∈ gw := gm (mt2 (i := 22) rfl) rfl
abbrev wsX5_relink : List Cond := kX5_relink :: gw
theorem imX5_relink : Cond.instanceMethod yX5_relink ∈ gw := gm (mt2 (i := 20) rfl) rfl
theorem seX5_relink : Cond.selects RX5 yX5_relink yX5_relink ∈ gw := gm (mt2 (i := 21) rfl) rfl
theorem hdX5_relink : yX5_relink.cls = RX5 ∧ yX5_relink.cls ≠ "java/lang/invoke/MethodHandle" ∧ yX5_relink.cls ≠ "java/lang/invoke/VarHandle" ∧ (parseMethodDescriptor yX5_relink.desc).map (fun d => d.parameters.length) = some 0 := by decide +kernel
abbrev cX5_linkChildren : ByteArray := prog_7_method_15_code
def yX5_linkChildren : MethodName := ⟨RX5, "linkChildren", "(II)I"⟩
abbrev kX5_linkChildren : Cond := .code yX5_linkChildren cX5_linkChildren 7 (some .int)
theorem coX5_linkChildren : kX5_linkChildren ∈ gw := gm (mt2 (i := 26) rfl) rfl
abbrev wsX5_linkChildren : List Cond := kX5_linkChildren :: gw
theorem imX5_linkChildren : Cond.instanceMethod yX5_linkChildren ∈ gw := gm (mt2 (i := 25) rfl) rfl
theorem seX5_linkChildren : Cond.selects RX5 yX5_linkChildren yX5_linkChildren ∈ gw := gm (ms1 (i := 6) rfl) rfl
theorem hdX5_linkChildren : yX5_linkChildren.cls = RX5 ∧ yX5_linkChildren.cls ≠ "java/lang/invoke/MethodHandle" ∧ yX5_linkChildren.cls ≠ "java/lang/invoke/VarHandle" ∧ (parseMethodDescriptor yX5_linkChildren.desc).map (fun d => d.parameters.length) = some 2 := by decide +kernel
abbrev cX5_link : ByteArray := prog_7_method_16_code
def yX5_link : MethodName := ⟨RX5, "link", "(II)V"⟩
abbrev kX5_link : Cond := .code yX5_link cX5_link 3 none
theorem coX5_link : kX5_link ∈ gw := gm (mt2 (i := 34) rfl) rfl
abbrev wsX5_link : List Cond := kX5_link :: gw
theorem imX5_link : Cond.instanceMethod yX5_link ∈ gw := gm (mt2 (i := 33) rfl) rfl
theorem seX5_link : Cond.selects RX5 yX5_link yX5_link ∈ gw := gm (ms1 (i := 8) rfl) rfl
theorem hdX5_link : yX5_link.cls = RX5 ∧ yX5_link.cls ≠ "java/lang/invoke/MethodHandle" ∧ yX5_link.cls ≠ "java/lang/invoke/VarHandle" ∧ (parseMethodDescriptor yX5_link.desc).map (fun d => d.parameters.length) = some 2 := by decide +kernel
abbrev cX5_follow : ByteArray := prog_7_method_17_code
def yX5_follow : MethodName := ⟨RX5, "follow", "(II)I"⟩
abbrev kX5_follow : Cond := .code yX5_follow cX5_follow 5 (some .int)
theorem coX5_follow : kX5_follow ∈ gw := gm (mt2 (i := 30) rfl) rfl
abbrev wsX5_follow : List Cond := kX5_follow :: gw
theorem imX5_follow : Cond.instanceMethod yX5_follow ∈ gw := gm (mt2 (i := 29) rfl) rfl
theorem seX5_follow : Cond.selects RX5 yX5_follow yX5_follow ∈ gw := gm (ms1 (i := 7) rfl) rfl
theorem hdX5_follow : yX5_follow.cls = RX5 ∧ yX5_follow.cls ≠ "java/lang/invoke/MethodHandle" ∧ yX5_follow.cls ≠ "java/lang/invoke/VarHandle" ∧ (parseMethodDescriptor yX5_follow.desc).map (fun d => d.parameters.length) = some 2 := by decide +kernel
abbrev cX5_onward : ByteArray := prog_7_method_18_code
def yX5_onward : MethodName := ⟨RX5, "onward", "(IC)I"⟩
abbrev kX5_onward : Cond := .code yX5_onward cX5_onward 4 (some .int)
theorem coX5_onward : kX5_onward ∈ gw := gm (mt2 (i := 105) rfl) rfl
abbrev wsX5_onward : List Cond := kX5_onward :: gw
theorem imX5_onward : Cond.instanceMethod yX5_onward ∈ gw := gm (mt2 (i := 103) rfl) rfl
theorem seX5_onward : Cond.selects RX5 yX5_onward yX5_onward ∈ gw := gm (mt2 (i := 104) rfl) rfl
theorem hdX5_onward : yX5_onward.cls = RX5 ∧ yX5_onward.cls ≠ "java/lang/invoke/MethodHandle" ∧ yX5_onward.cls ≠ "java/lang/invoke/VarHandle" ∧ (parseMethodDescriptor yX5_onward.desc).map (fun d => d.parameters.length) = some 2 := by decide +kernel
abbrev cX5_spell : ByteArray := prog_7_method_19_code
def yX5_spell : MethodName := ⟨RX5, "spell", "(ILSharedEndings$Line;)V"⟩
abbrev kX5_spell : Cond := .code yX5_spell cX5_spell 6 none
theorem coX5_spell : kX5_spell ∈ gw := gm (mt3 (i := 46) rfl) rfl
abbrev wsX5_spell : List Cond := kX5_spell :: gw
theorem imX5_spell : Cond.instanceMethod yX5_spell ∈ gw := gm (mt3 (i := 44) rfl) rfl
theorem seX5_spell : Cond.selects RX5 yX5_spell yX5_spell ∈ gw := gm (mt3 (i := 45) rfl) rfl
theorem hdX5_spell : yX5_spell.cls = RX5 ∧ yX5_spell.cls ≠ "java/lang/invoke/MethodHandle" ∧ yX5_spell.cls ≠ "java/lang/invoke/VarHandle" ∧ (parseMethodDescriptor yX5_spell.desc).map (fun d => d.parameters.length) = some 2 := by decide +kernel
abbrev cX5_letterTowards : ByteArray := prog_7_method_20_code
def yX5_letterTowards : MethodName := ⟨RX5, "letterTowards", "(II)I"⟩
abbrev kX5_letterTowards : Cond := .code yX5_letterTowards cX5_letterTowards 5 (some .int)
theorem coX5_letterTowards : kX5_letterTowards ∈ gw := gm (mt3 (i := 51) rfl) rfl
abbrev wsX5_letterTowards : List Cond := kX5_letterTowards :: gw
theorem imX5_letterTowards : Cond.instanceMethod yX5_letterTowards ∈ gw := gm (mt3 (i := 50) rfl) rfl
theorem seX5_letterTowards : Cond.selects RX5 yX5_letterTowards yX5_letterTowards ∈ gw := gm (ms2 (i := 0) rfl) rfl
theorem hdX5_letterTowards : yX5_letterTowards.cls = RX5 ∧ yX5_letterTowards.cls ≠ "java/lang/invoke/MethodHandle" ∧ yX5_letterTowards.cls ≠ "java/lang/invoke/VarHandle" ∧ (parseMethodDescriptor yX5_letterTowards.desc).map (fun d => d.parameters.length) = some 2 := by decide +kernel
abbrev cL_add : ByteArray := method_3_code
def yL_add : MethodName := ⟨RL, "add", "(LSharedEndings;[J)I"⟩
abbrev kL_add : Cond := .codeWith yL_add cL_add 3 (some .int) [(0, 8, 11, 13)]
theorem coL_add : kL_add ∈ gw := gm (mt2 (i := 169) rfl) rfl
abbrev wsL_add : List Cond := kL_add :: gw
theorem stL_add : Cond.static yL_add ∈ gw := gm (mt2 (i := 168) rfl) rfl
theorem hdL_add : yL_add.cls ≠ "java/lang/invoke/MethodHandle" ∧ yL_add.cls ≠ "java/lang/invoke/VarHandle" ∧ (parseMethodDescriptor yL_add.desc).map (fun d => d.parameters.length) = some 2 := by decide +kernel
abbrev cL_word : ByteArray := method_4_code
def yL_word : MethodName := ⟨RL, "word", "(LSharedEndings;I[J)I"⟩
abbrev kL_word : Cond := .codeWith yL_word cL_word 4 (some .int) [(0, 9, 12, 19)]
theorem coL_word : kL_word ∈ gw := gm (mt3 (i := 21) rfl) rfl
abbrev wsL_word : List Cond := kL_word :: gw
theorem stL_word : Cond.static yL_word ∈ gw := gm (mt3 (i := 20) rfl) rfl
theorem hdL_word : yL_word.cls ≠ "java/lang/invoke/MethodHandle" ∧ yL_word.cls ≠ "java/lang/invoke/VarHandle" ∧ (parseMethodDescriptor yL_word.desc).map (fun d => d.parameters.length) = some 3 := by decide +kernel
abbrev cL_near : ByteArray := method_5_code
def yL_near : MethodName := ⟨RL, "near", "(LSharedEndings;I[J)I"⟩
abbrev kL_near : Cond := .codeWith yL_near cL_near 4 (some .int) [(0, 9, 12, 24)]
theorem coL_near : kL_near ∈ gw := gm (mt3 (i := 55) rfl) rfl
abbrev wsL_near : List Cond := kL_near :: gw
theorem stL_near : Cond.static yL_near ∈ gw := gm (mt3 (i := 54) rfl) rfl
theorem hdL_near : yL_near.cls ≠ "java/lang/invoke/MethodHandle" ∧ yL_near.cls ≠ "java/lang/invoke/VarHandle" ∧ (parseMethodDescriptor yL_near.desc).map (fun d => d.parameters.length) = some 3 := by decide +kernel
abbrev cL_found : ByteArray := method_6_code
def yL_found : MethodName := ⟨RL, "found", "(LSharedEndings;II[J)I"⟩
abbrev kL_found : Cond := .codeWith yL_found cL_found 5 (some .int) [(0, 10, 13, 19), (0, 10, 17, 24)]
theorem coL_found : kL_found ∈ gw := gm (mt3 (i := 92) rfl) rfl
abbrev wsL_found : List Cond := kL_found :: gw
theorem stL_found : Cond.static yL_found ∈ gw := gm (mt3 (i := 91) rfl) rfl
theorem hdL_found : yL_found.cls ≠ "java/lang/invoke/MethodHandle" ∧ yL_found.cls ≠ "java/lang/invoke/VarHandle" ∧ (parseMethodDescriptor yL_found.desc).map (fun d => d.parameters.length) = some 4 := by decide +kernel
theorem clL_8 : Cond.classLink RL 8 RX6 ∈ gw := gm (mt1 (i := 18) rfl) rfl
theorem mlL_30 : Cond.methodLink RL 30 yX6_init ∈ gw := gm (mt1 (i := 20) rfl) rfl
theorem mlX6_3 : Cond.methodLink RX6 3 objectInit ∈ gw := gm (mt1 (i := 23) rfl) rfl
theorem clX6_9 : Cond.classLink RX6 9 RX2 ∈ gw := gm (mt1 (i := 26) rfl) rfl
theorem mlX6_11 : Cond.methodLink RX6 11 yX2_init ∈ gw := gm (mt1 (i := 28) rfl) rfl
theorem mlX2_1 : Cond.methodLink RX2 1 objectInit ∈ gw := gm (mt1 (i := 31) rfl) rfl
theorem flX2_7 : Cond.fieldLink RX2 7 (TX2 0).1 (TX2 0).2.1 (TX2 0).2.2.1 ∈ gw := gm (mt1 (i := 32) rfl) rfl
theorem flX2_13 : Cond.fieldLink RX2 13 (TX2 1).1 (TX2 1).2.1 (TX2 1).2.2.1 ∈ gw := gm (mt1 (i := 33) rfl) rfl
theorem ac_char : Cond.arrayClass .char ∈ gw := gm (mt1 (i := 39) rfl) rfl
theorem clX6_24 : Cond.classLink RX6 24 RX5 ∈ gw := gm (mt1 (i := 40) rfl) rfl
theorem mlX6_26 : Cond.methodLink RX6 26 yX5_init ∈ gw := gm (mt1 (i := 42) rfl) rfl
theorem mlX5_3 : Cond.methodLink RX5 3 objectInit ∈ gw := gm (mt1 (i := 45) rfl) rfl
theorem mlX5_34 : Cond.methodLink RX5 34 ⟨"java/util/Arrays", "fill", "([II)V"⟩ ∈ gw := gm (mt1 (i := 46) rfl) rfl
theorem flX5_9 : Cond.fieldLink RX5 9 (TX5 0).1 (TX5 0).2.1 (TX5 0).2.2.1 ∈ gw := gm (mt1 (i := 49) rfl) rfl
theorem flX5_15 : Cond.fieldLink RX5 15 (TX5 1).1 (TX5 1).2.1 (TX5 1).2.2.1 ∈ gw := gm (mt1 (i := 50) rfl) rfl
theorem flX5_19 : Cond.fieldLink RX5 19 (TX5 2).1 (TX5 2).2.1 (TX5 2).2.2.1 ∈ gw := gm (mt1 (i := 51) rfl) rfl
theorem flX5_22 : Cond.fieldLink RX5 22 (TX5 3).1 (TX5 3).2.1 (TX5 3).2.2.1 ∈ gw := gm (mt1 (i := 52) rfl) rfl
theorem flX5_25 : Cond.fieldLink RX5 25 (TX5 4).1 (TX5 4).2.1 (TX5 4).2.2.1 ∈ gw := gm (mt1 (i := 53) rfl) rfl
theorem flX5_28 : Cond.fieldLink RX5 28 (TX5 5).1 (TX5 5).2.1 (TX5 5).2.2.1 ∈ gw := gm (mt1 (i := 54) rfl) rfl
theorem flX5_31 : Cond.fieldLink RX5 31 (TX5 6).1 (TX5 6).2.1 (TX5 6).2.2.1 ∈ gw := gm (mt1 (i := 55) rfl) rfl
theorem ac_int : Cond.arrayClass .int ∈ gw := gm (mt1 (i := 71) rfl) rfl
theorem ac_boolean : Cond.arrayClass .boolean ∈ gw := gm (mt1 (i := 72) rfl) rfl
theorem clX6_31 : Cond.classLink RX6 31 RX0 ∈ gw := gm (mt1 (i := 73) rfl) rfl
theorem mlX6_33 : Cond.methodLink RX6 33 yX0_init ∈ gw := gm (mt1 (i := 75) rfl) rfl
theorem mlX0_3 : Cond.methodLink RX0 3 objectInit ∈ gw := gm (mt1 (i := 78) rfl) rfl
theorem mlX0_31 : Cond.methodLink RX0 31 ⟨"java/util/Arrays", "fill", "([II)V"⟩ ∈ gw := gm (mt1 (i := 79) rfl) rfl
theorem flX0_9 : Cond.fieldLink RX0 9 (TX0 0).1 (TX0 0).2.1 (TX0 0).2.2.1 ∈ gw := gm (mt1 (i := 80) rfl) rfl
theorem flX0_15 : Cond.fieldLink RX0 15 (TX0 1).1 (TX0 1).2.1 (TX0 1).2.2.1 ∈ gw := gm (mt1 (i := 81) rfl) rfl
theorem flX0_18 : Cond.fieldLink RX0 18 (TX0 2).1 (TX0 2).2.1 (TX0 2).2.2.1 ∈ gw := gm (mt1 (i := 82) rfl) rfl
theorem flX0_22 : Cond.fieldLink RX0 22 (TX0 3).1 (TX0 3).2.1 (TX0 3).2.2.1 ∈ gw := gm (mt1 (i := 83) rfl) rfl
theorem flX0_25 : Cond.fieldLink RX0 25 (TX0 4).1 (TX0 4).2.1 (TX0 4).2.2.1 ∈ gw := gm (mt1 (i := 84) rfl) rfl
theorem flX0_28 : Cond.fieldLink RX0 28 (TX0 5).1 (TX0 5).2.1 (TX0 5).2.2.1 ∈ gw := gm (mt1 (i := 85) rfl) rfl
theorem clX6_38 : Cond.classLink RX6 38 RX1 ∈ gw := gm (mt1 (i := 99) rfl) rfl
theorem mlX6_40 : Cond.methodLink RX6 40 yX1_init ∈ gw := gm (mt1 (i := 101) rfl) rfl
theorem mlX1_3 : Cond.methodLink RX1 3 objectInit ∈ gw := gm (mt1 (i := 104) rfl) rfl
theorem flX1_9 : Cond.fieldLink RX1 9 (TX1 0).1 (TX1 0).2.1 (TX1 0).2.2.1 ∈ gw := gm (mt1 (i := 105) rfl) rfl
theorem flX1_15 : Cond.fieldLink RX1 15 (TX1 1).1 (TX1 1).2.1 (TX1 1).2.2.1 ∈ gw := gm (mt1 (i := 106) rfl) rfl
theorem flX1_18 : Cond.fieldLink RX1 18 (TX1 2).1 (TX1 2).2.1 (TX1 2).2.2.1 ∈ gw := gm (mt1 (i := 107) rfl) rfl
theorem clX6_45 : Cond.classLink RX6 45 RX3 ∈ gw := gm (mt1 (i := 115) rfl) rfl
theorem mlX6_47 : Cond.methodLink RX6 47 yX3_init ∈ gw := gm (mt1 (i := 117) rfl) rfl
theorem mlX3_3 : Cond.methodLink RX3 3 objectInit ∈ gw := gm (mt1 (i := 120) rfl) rfl
theorem flX3_9 : Cond.fieldLink RX3 9 (TX3 0).1 (TX3 0).2.1 (TX3 0).2.2.1 ∈ gw := gm (mt1 (i := 121) rfl) rfl
theorem clX6_52 : Cond.classLink RX6 52 RX4 ∈ gw := gm (mt1 (i := 125) rfl) rfl
theorem mlX6_54 : Cond.methodLink RX6 54 yX4_init ∈ gw := gm (mt1 (i := 127) rfl) rfl
theorem mlX4_3 : Cond.methodLink RX4 3 objectInit ∈ gw := gm (mt1 (i := 130) rfl) rfl
theorem flX4_9 : Cond.fieldLink RX4 9 (TX4 0).1 (TX4 0).2.1 (TX4 0).2.2.1 ∈ gw := gm (mt1 (i := 131) rfl) rfl
theorem flX4_15 : Cond.fieldLink RX4 15 (TX4 1).1 (TX4 1).2.1 (TX4 1).2.2.1 ∈ gw := gm (mt1 (i := 132) rfl) rfl
theorem flX4_19 : Cond.fieldLink RX4 19 (TX4 2).1 (TX4 2).2.1 (TX4 2).2.2.1 ∈ gw := gm (mt1 (i := 133) rfl) rfl
theorem ac_long : Cond.arrayClass .long ∈ gw := gm (mt1 (i := 141) rfl) rfl
theorem flX6_14 : Cond.fieldLink RX6 14 (TX6 0).1 (TX6 0).2.1 (TX6 0).2.2.1 ∈ gw := gm (mt1 (i := 142) rfl) rfl
theorem flX6_18 : Cond.fieldLink RX6 18 (TX6 1).1 (TX6 1).2.1 (TX6 1).2.2.1 ∈ gw := gm (mt1 (i := 143) rfl) rfl
theorem flX6_21 : Cond.fieldLink RX6 21 (TX6 2).1 (TX6 2).2.1 (TX6 2).2.2.1 ∈ gw := gm (mt1 (i := 144) rfl) rfl
theorem flX6_27 : Cond.fieldLink RX6 27 (TX6 3).1 (TX6 3).2.1 (TX6 3).2.2.1 ∈ gw := gm (mt1 (i := 145) rfl) rfl
theorem flX6_34 : Cond.fieldLink RX6 34 (TX6 4).1 (TX6 4).2.1 (TX6 4).2.2.1 ∈ gw := gm (mt1 (i := 146) rfl) rfl
theorem flX6_41 : Cond.fieldLink RX6 41 (TX6 5).1 (TX6 5).2.1 (TX6 5).2.2.1 ∈ gw := gm (mt1 (i := 147) rfl) rfl
theorem flX6_48 : Cond.fieldLink RX6 48 (TX6 6).1 (TX6 6).2.1 (TX6 6).2.2.1 ∈ gw := gm (mt1 (i := 148) rfl) rfl
theorem flX6_55 : Cond.fieldLink RX6 55 (TX6 7).1 (TX6 7).2.1 (TX6 7).2.2.1 ∈ gw := gm (mt1 (i := 149) rfl) rfl
theorem mlL_34 : Cond.methodLink RL 34 yX6_type ∈ gw := gm (mt1 (i := 167) rfl) rfl
theorem mlX6_59 : Cond.methodLink RX6 59 yX2_put ∈ gw := gm (mt1 (i := 171) rfl) rfl
theorem mlL_39 : Cond.methodLink RL 39 yX6_wipe ∈ gw := gm (mt1 (i := 175) rfl) rfl
theorem mlX6_63 : Cond.methodLink RX6 63 yX2_empty ∈ gw := gm (mt1 (i := 179) rfl) rfl
theorem mlL_52 : Cond.methodLink RL 52 yX6_remove ∈ gw := gm (mt1 (i := 183) rfl) rfl
theorem mlX6_81 : Cond.methodLink RX6 81 yX5_find ∈ gw := gm (mt1 (i := 187) rfl) rfl
theorem mlX5_48 : Cond.methodLink RX5 48 yX2_size ∈ gw := gm (mt1 (i := 191) rfl) rfl
theorem mlX5_54 : Cond.methodLink RX5 54 yX2_at ∈ gw := gm (mt1 (i := 195) rfl) rfl
theorem mlX5_58 : Cond.methodLink RX5 58 yX5_step ∈ gw := gm (mt1 (i := 199) rfl) rfl
theorem mlX5_44 : Cond.methodLink RX5 44 yX5_child ∈ gw := gm (mt1 (i := 206) rfl) rfl
theorem mlX6_85 : Cond.methodLink RX6 85 yX5_isHeld ∈ gw := gm (mt1 (i := 210) rfl) rfl
theorem mlX6_92 : Cond.methodLink RX6 92 yX6_drop ∈ gw := gm (mt1 (i := 214) rfl) rfl
theorem mlX6_178 : Cond.methodLink RX6 178 yX0_release ∈ gw := gm (mt1 (i := 218) rfl) rfl
theorem mlX0_43 : Cond.methodLink RX0 43 yX5_trace ∈ gw := gm (mt1 (i := 222) rfl) rfl
theorem mlX6_189 : Cond.methodLink RX6 189 yX5_cut ∈ gw := gm (mt1 (i := 226) rfl) rfl
theorem mlX6_186 : Cond.methodLink RX6 186 yX6_settle ∈ gw := gm (mt1 (i := 230) rfl) rfl
theorem mlX6_192 : Cond.methodLink RX6 192 yX0_receive ∈ gw := gm (mt1 (i := 234) rfl) rfl
theorem mlX0_47 : Cond.methodLink RX0 47 yX0_join ∈ gw := gm (mt1 (i := 238) rfl) rfl
theorem mlX0_51 : Cond.methodLink RX0 51 yX5_child ∈ gw := gm (mt2 (i := 2) rfl) rfl
theorem mlX0_55 : Cond.methodLink RX0 55 yX5_isHeld ∈ gw := gm (mt2 (i := 3) rfl) rfl
theorem mlX0_59 : Cond.methodLink RX0 59 yX0_wantedState ∈ gw := gm (mt2 (i := 4) rfl) rfl
theorem mlX0_66 : Cond.methodLink RX0 66 yX0_hasWantedTargets ∈ gw := gm (mt2 (i := 8) rfl) rfl
theorem mlX0_63 : Cond.methodLink RX0 63 yX0_newState ∈ gw := gm (mt2 (i := 12) rfl) rfl
theorem mlX0_69 : Cond.methodLink RX0 69 arraycopyName ∈ gw := gm (mt2 (i := 16) rfl) rfl
theorem mlX6_195 : Cond.methodLink RX6 195 yX5_relink ∈ gw := gm (mt2 (i := 19) rfl) rfl
theorem mlX5_65 : Cond.methodLink RX5 65 yX5_linkChildren ∈ gw := gm (mt2 (i := 23) rfl) rfl
theorem mlX5_68 : Cond.methodLink RX5 68 yX5_follow ∈ gw := gm (mt2 (i := 27) rfl) rfl
theorem mlX5_71 : Cond.methodLink RX5 71 yX5_link ∈ gw := gm (mt2 (i := 31) rfl) rfl
theorem mlX6_136 : Cond.methodLink RX6 136 yX1_empty ∈ gw := gm (mt2 (i := 35) rfl) rfl
theorem mlL_57 : Cond.methodLink RL 57 yX6_words ∈ gw := gm (mt2 (i := 39) rfl) rfl
theorem mlX6_67 : Cond.methodLink RX6 67 yX5_held ∈ gw := gm (mt2 (i := 43) rfl) rfl
theorem mlL_65 : Cond.methodLink RL 65 yX6_rank ∈ gw := gm (mt2 (i := 47) rfl) rfl
theorem mlX6_107 : Cond.methodLink RX6 107 yX5_numberOf ∈ gw := gm (mt2 (i := 51) rfl) rfl
theorem mlL_69 : Cond.methodLink RL 69 yX6_starting ∈ gw := gm (mt2 (i := 55) rfl) rfl
theorem mlX6_111 : Cond.methodLink RX6 111 yX5_heldFrom ∈ gw := gm (mt2 (i := 59) rfl) rfl
theorem mlL_73 : Cond.methodLink RL 73 yX6_longest ∈ gw := gm (mt2 (i := 63) rfl) rfl
theorem mlX6_104 : Cond.methodLink RX6 104 yX2_size ∈ gw := gm (mt2 (i := 67) rfl) rfl
theorem mlX6_114 : Cond.methodLink RX6 114 yX2_at ∈ gw := gm (mt2 (i := 68) rfl) rfl
theorem mlX6_118 : Cond.methodLink RX6 118 yX5_step ∈ gw := gm (mt2 (i := 69) rfl) rfl
theorem mlL_77 : Cond.methodLink RL 77 yX6_states ∈ gw := gm (mt2 (i := 70) rfl) rfl
theorem mlX6_122 : Cond.methodLink RX6 122 yX0_countStates ∈ gw := gm (mt2 (i := 74) rfl) rfl
theorem mlL_81 : Cond.methodLink RL 81 yX6_edges ∈ gw := gm (mt2 (i := 78) rfl) rfl
theorem mlX6_125 : Cond.methodLink RX6 125 yX0_countEdges ∈ gw := gm (mt2 (i := 82) rfl) rfl
theorem mlX0_39 : Cond.methodLink RX0 39 yX0_countEdgesFrom ∈ gw := gm (mt2 (i := 86) rfl) rfl
theorem mlL_85 : Cond.methodLink RL 85 yX6_alike ∈ gw := gm (mt2 (i := 90) rfl) rfl
theorem mlX6_128 : Cond.methodLink RX6 128 yX0_countAlike ∈ gw := gm (mt2 (i := 94) rfl) rfl
theorem mlL_92 : Cond.methodLink RL 92 yX6_scan ∈ gw := gm (mt2 (i := 98) rfl) rfl
theorem mlX6_146 : Cond.methodLink RX6 146 yX5_onward ∈ gw := gm (mt2 (i := 102) rfl) rfl
theorem mlX6_149 : Cond.methodLink RX6 149 yX6_findEnding ∈ gw := gm (mt2 (i := 106) rfl) rfl
theorem mlX6_198 : Cond.methodLink RX6 198 yX5_shorterWord ∈ gw := gm (mt2 (i := 110) rfl) rfl
theorem mlX6_142 : Cond.methodLink RX6 142 yX1_put ∈ gw := gm (mt2 (i := 114) rfl) rfl
theorem mlX6_145 : Cond.methodLink RX6 145 yX1_size ∈ gw := gm (mt2 (i := 118) rfl) rfl
theorem mlL_100 : Cond.methodLink RL 100 yX6_splits ∈ gw := gm (mt2 (i := 122) rfl) rfl
theorem mlX6_162 : Cond.methodLink RX6 162 yX4_count ∈ gw := gm (mt2 (i := 126) rfl) rfl
theorem mlX4_22 : Cond.methodLink RX4 22 yX2_size ∈ gw := gm (mt2 (i := 130) rfl) rfl
theorem mlX4_28 : Cond.methodLink RX4 28 yX4_countFrom ∈ gw := gm (mt2 (i := 131) rfl) rfl
theorem mlX4_34 : Cond.methodLink RX4 34 yX2_at ∈ gw := gm (mt2 (i := 135) rfl) rfl
theorem mlX4_38 : Cond.methodLink RX4 38 yX5_step ∈ gw := gm (mt2 (i := 136) rfl) rfl
theorem mlX4_42 : Cond.methodLink RX4 42 yX5_isHeld ∈ gw := gm (mt2 (i := 137) rfl) rfl
theorem mlL_105 : Cond.methodLink RL 105 yX6_split ∈ gw := gm (mt2 (i := 138) rfl) rfl
theorem mlX6_166 : Cond.methodLink RX6 166 yX4_choose ∈ gw := gm (mt2 (i := 142) rfl) rfl
theorem mlX4_46 : Cond.methodLink RX4 46 yX4_chooseFrom ∈ gw := gm (mt2 (i := 146) rfl) rfl
theorem mlX4_49 : Cond.methodLink RX4 49 yX4_isNoWorse ∈ gw := gm (mt2 (i := 150) rfl) rfl
theorem mlX6_170 : Cond.methodLink RX6 170 yX4_write ∈ gw := gm (mt2 (i := 153) rfl) rfl
theorem mlX4_53 : Cond.methodLink RX4 53 yX2_empty ∈ gw := gm (mt2 (i := 157) rfl) rfl
theorem mlX4_56 : Cond.methodLink RX4 56 yX2_put ∈ gw := gm (mt2 (i := 158) rfl) rfl
theorem mlL_109 : Cond.methodLink RL 109 yX6_length ∈ gw := gm (mt2 (i := 159) rfl) rfl
theorem mlL_113 : Cond.methodLink RL 113 yX6_charAt ∈ gw := gm (mt2 (i := 163) rfl) rfl
theorem mlL_43 : Cond.methodLink RL 43 yL_add ∈ gw := gm (mt2 (i := 167) rfl) rfl
theorem clL_13 : Cond.classLink RL 13 "java/lang/IllegalStateException" ∈ gw := gm (mt2 (i := 170) rfl) rfl
theorem mlL_7 : Cond.methodLink RL 7 yX6_add ∈ gw := gm (mt2 (i := 171) rfl) rfl
theorem clX6_70 : Cond.classLink RX6 70 "java/lang/IllegalStateException" ∈ gw := gm (mt2 (i := 175) rfl) rfl
theorem mlX6_74 : Cond.methodLink RX6 74 ⟨"java/lang/IllegalStateException", "<init>", "(Ljava/lang/String;)V"⟩ ∈ gw := gm (mt2 (i := 217) rfl) rfl
theorem mlX6_77 : Cond.methodLink RX6 77 yX6_isWord ∈ gw := gm (mt3 (i := 3) rfl) rfl
theorem mlX6_174 : Cond.methodLink RX6 174 yX6_letterOf ∈ gw := gm (mt3 (i := 6) rfl) rfl
theorem mlX6_89 : Cond.methodLink RX6 89 yX6_hold ∈ gw := gm (mt3 (i := 7) rfl) rfl
theorem mlX6_182 : Cond.methodLink RX6 182 yX5_grow ∈ gw := gm (mt3 (i := 11) rfl) rfl
theorem mlX5_62 : Cond.methodLink RX5 62 yX5_freeCell ∈ gw := gm (mt3 (i := 15) rfl) rfl
theorem mlL_61 : Cond.methodLink RL 61 yL_word ∈ gw := gm (mt3 (i := 19) rfl) rfl
theorem clL_19 : Cond.classLink RL 19 "java/lang/IndexOutOfBoundsException" ∈ gw := gm (mt3 (i := 22) rfl) rfl
theorem mlL_15 : Cond.methodLink RL 15 yX6_word ∈ gw := gm (mt3 (i := 23) rfl) rfl
theorem clX6_95 : Cond.classLink RX6 95 "java/lang/IndexOutOfBoundsException" ∈ gw := gm (mt3 (i := 27) rfl) rfl
theorem mlX6_99 : Cond.methodLink RX6 99 ⟨"java/lang/IndexOutOfBoundsException", "<init>", "(Ljava/lang/String;)V"⟩ ∈ gw := gm (mt3 (i := 37) rfl) rfl
theorem mlX6_100 : Cond.methodLink RX6 100 yX5_spell ∈ gw := gm (mt3 (i := 43) rfl) rfl
theorem mlX5_75 : Cond.methodLink RX5 75 yX2_empty ∈ gw := gm (mt3 (i := 47) rfl) rfl
theorem mlX5_78 : Cond.methodLink RX5 78 yX5_letterTowards ∈ gw := gm (mt3 (i := 48) rfl) rfl
theorem mlX5_81 : Cond.methodLink RX5 81 yX2_put ∈ gw := gm (mt3 (i := 52) rfl) rfl
theorem mlL_89 : Cond.methodLink RL 89 yL_near ∈ gw := gm (mt3 (i := 53) rfl) rfl
theorem clL_24 : Cond.classLink RL 24 "java/lang/IllegalArgumentException" ∈ gw := gm (mt3 (i := 56) rfl) rfl
theorem mlL_21 : Cond.methodLink RL 21 yX6_near ∈ gw := gm (mt3 (i := 57) rfl) rfl
theorem clX6_131 : Cond.classLink RX6 131 "java/lang/IllegalArgumentException" ∈ gw := gm (mt3 (i := 61) rfl) rfl
theorem mlX6_135 : Cond.methodLink RX6 135 ⟨"java/lang/IllegalArgumentException", "<init>", "(Ljava/lang/String;)V"⟩ ∈ gw := gm (mt3 (i := 71) rfl) rfl
theorem mlX6_138 : Cond.methodLink RX6 138 yX3_distance ∈ gw := gm (mt3 (i := 77) rfl) rfl
theorem mlX3_15 : Cond.methodLink RX3 15 yX2_size ∈ gw := gm (mt3 (i := 81) rfl) rfl
theorem mlX3_21 : Cond.methodLink RX3 21 yX2_at ∈ gw := gm (mt3 (i := 82) rfl) rfl
theorem mlX3_25 : Cond.methodLink RX3 25 yX3_read ∈ gw := gm (mt3 (i := 83) rfl) rfl
theorem mlX3_29 : Cond.methodLink RX3 29 Lib.Math.min.name ∈ gw := gm (mt3 (i := 87) rfl) rfl
theorem mlL_96 : Cond.methodLink RL 96 yL_found ∈ gw := gm (mt3 (i := 90) rfl) rfl
theorem mlL_26 : Cond.methodLink RL 26 yX6_found ∈ gw := gm (mt3 (i := 93) rfl) rfl
theorem mlX6_156 : Cond.methodLink RX6 156 yX1_number ∈ gw := gm (mt3 (i := 99) rfl) rfl
theorem mlX6_159 : Cond.methodLink RX6 159 yX1_measure ∈ gw := gm (mt3 (i := 103) rfl) rfl
theorem clL_31 : Cond.classLink RL 31 RX7 ∈ gw := gm (mt3 (i := 107) rfl) rfl
theorem mlL_33 : Cond.methodLink RL 33 yX7_init ∈ gw := gm (mt3 (i := 109) rfl) rfl
theorem mlX7_1 : Cond.methodLink RX7 1 objectInit ∈ gw := gm (mt3 (i := 112) rfl) rfl
theorem flX7_50 : Cond.fieldLink RX7 50 (TX7 0).1 (TX7 0).2.1 (TX7 0).2.2.1 ∈ gw := gm (mt3 (i := 113) rfl) rfl
theorem flX7_54 : Cond.fieldLink RX7 54 (TX7 1).1 (TX7 1).2.1 (TX7 1).2.2.1 ∈ gw := gm (mt3 (i := 114) rfl) rfl
theorem flX7_7 : Cond.fieldLink RX7 7 (TX7 2).1 (TX7 2).2.1 (TX7 2).2.2.1 ∈ gw := gm (mt3 (i := 115) rfl) rfl
theorem flX7_87 : Cond.fieldLink RX7 87 (TX7 3).1 (TX7 3).2.1 (TX7 3).2.2.1 ∈ gw := gm (mt3 (i := 116) rfl) rfl
theorem flX7_13 : Cond.fieldLink RX7 13 (TX7 4).1 (TX7 4).2.1 (TX7 4).2.2.1 ∈ gw := gm (mt3 (i := 117) rfl) rfl
theorem flX7_65 : Cond.fieldLink RX7 65 (TX7 5).1 (TX7 5).2.1 (TX7 5).2.2.1 ∈ gw := gm (mt3 (i := 118) rfl) rfl
theorem flX7_16 : Cond.fieldLink RX7 16 (TX7 6).1 (TX7 6).2.1 (TX7 6).2.2.1 ∈ gw := gm (mt3 (i := 119) rfl) rfl
theorem flX7_19 : Cond.fieldLink RX7 19 (TX7 7).1 (TX7 7).2.1 (TX7 7).2.2.1 ∈ gw := gm (mt3 (i := 120) rfl) rfl
theorem flX7_100 : Cond.fieldLink RX7 100 (TX7 8).1 (TX7 8).2.1 (TX7 8).2.2.1 ∈ gw := gm (mt3 (i := 121) rfl) rfl
theorem flX7_22 : Cond.fieldLink RX7 22 (TX7 9).1 (TX7 9).2.1 (TX7 9).2.2.1 ∈ gw := gm (mt3 (i := 122) rfl) rfl
theorem flX7_25 : Cond.fieldLink RX7 25 (TX7 10).1 (TX7 10).2.1 (TX7 10).2.2.1 ∈ gw := gm (mt3 (i := 123) rfl) rfl
theorem flX7_28 : Cond.fieldLink RX7 28 (TX7 11).1 (TX7 11).2.1 (TX7 11).2.2.1 ∈ gw := gm (mt3 (i := 124) rfl) rfl
theorem flX7_84 : Cond.fieldLink RX7 84 (TX7 12).1 (TX7 12).2.1 (TX7 12).2.2.1 ∈ gw := gm (mt3 (i := 125) rfl) rfl
theorem flX7_31 : Cond.fieldLink RX7 31 (TX7 13).1 (TX7 13).2.1 (TX7 13).2.2.1 ∈ gw := gm (mt3 (i := 126) rfl) rfl
theorem flX7_34 : Cond.fieldLink RX7 34 (TX7 14).1 (TX7 14).2.1 (TX7 14).2.2.1 ∈ gw := gm (mt3 (i := 127) rfl) rfl
theorem flX7_37 : Cond.fieldLink RX7 37 (TX7 15).1 (TX7 15).2.1 (TX7 15).2.2.1 ∈ gw := gm (mt3 (i := 128) rfl) rfl
theorem flX7_40 : Cond.fieldLink RX7 40 (TX7 16).1 (TX7 16).2.1 (TX7 16).2.2.1 ∈ gw := gm (mt3 (i := 129) rfl) rfl
theorem flX7_43 : Cond.fieldLink RX7 43 (TX7 17).1 (TX7 17).2.1 (TX7 17).2.2.1 ∈ gw := gm (mt3 (i := 130) rfl) rfl
theorem flX7_47 : Cond.fieldLink RX7 47 (TX7 18).1 (TX7 18).2.1 (TX7 18).2.2.1 ∈ gw := gm (mt3 (i := 131) rfl) rfl
theorem mlL_49 : Cond.methodLink RL 49 yX7_thrown ∈ gw := gm (mt3 (i := 171) rfl) rfl
theorem mlL_38 : Cond.methodLink RL 38 yX7_type ∈ gw := gm (mt3 (i := 175) rfl) rfl
theorem mlL_42 : Cond.methodLink RL 42 yX7_wipe ∈ gw := gm (mt3 (i := 179) rfl) rfl
theorem mlX7_57 : Cond.methodLink RX7 57 yX7_take ∈ gw := gm (mt3 (i := 183) rfl) rfl
theorem mlL_48 : Cond.methodLink RL 48 yX7_add ∈ gw := gm (mt3 (i := 187) rfl) rfl
theorem mlX7_68 : Cond.methodLink RX7 68 yX7_isWord ∈ gw := gm (mt3 (i := 191) rfl) rfl
theorem mlX7_61 : Cond.methodLink RX7 61 yX7_letter ∈ gw := gm (mt3 (i := 195) rfl) rfl
theorem mlX7_76 : Cond.methodLink RX7 76 yX7_numberOf ∈ gw := gm (mt3 (i := 199) rfl) rfl
theorem mlX7_72 : Cond.methodLink RX7 72 yX7_compare ∈ gw := gm (mt3 (i := 203) rfl) rfl
theorem mlX7_80 : Cond.methodLink RX7 80 yX7_move ∈ gw := gm (mt3 (i := 207) rfl) rfl
theorem mlL_56 : Cond.methodLink RL 56 yX7_remove ∈ gw := gm (mt3 (i := 211) rfl) rfl
theorem mlL_60 : Cond.methodLink RL 60 yX7_words ∈ gw := gm (mt3 (i := 215) rfl) rfl
theorem mlL_64 : Cond.methodLink RL 64 yX7_word ∈ gw := gm (mt3 (i := 219) rfl) rfl
theorem mlX7_94 : Cond.methodLink RX7 94 yX7_printWord ∈ gw := gm (mt3 (i := 223) rfl) rfl
theorem mlX7_90 : Cond.methodLink RX7 90 yX7_print ∈ gw := gm (mt3 (i := 227) rfl) rfl
theorem mlL_68 : Cond.methodLink RL 68 yX7_rank ∈ gw := gm (mt3 (i := 231) rfl) rfl
theorem mlL_72 : Cond.methodLink RL 72 yX7_starting ∈ gw := gm (mt3 (i := 235) rfl) rfl
theorem mlX7_97 : Cond.methodLink RX7 97 yX7_beginsWith ∈ gw := gm (mt3 (i := 239) rfl) rfl
theorem mlL_76 : Cond.methodLink RL 76 yX7_longest ∈ gw := gm (mt4 (i := 3) rfl) rfl
theorem mlL_80 : Cond.methodLink RL 80 yX7_states ∈ gw := gm (mt4 (i := 7) rfl) rfl
theorem mlX7_110 : Cond.methodLink RX7 110 yX7_findPrefixes ∈ gw := gm (mt4 (i := 11) rfl) rfl
theorem mlX7_103 : Cond.methodLink RX7 103 yX7_shares ∈ gw := gm (mt4 (i := 15) rfl) rfl
theorem mlX7_113 : Cond.methodLink RX7 113 yX7_isFirst ∈ gw := gm (mt4 (i := 19) rfl) rfl
theorem mlX7_107 : Cond.methodLink RX7 107 yX7_areAlike ∈ gw := gm (mt4 (i := 23) rfl) rfl
theorem mlL_84 : Cond.methodLink RL 84 yX7_edges ∈ gw := gm (mt4 (i := 27) rfl) rfl
theorem mlX7_117 : Cond.methodLink RX7 117 yX7_nexts ∈ gw := gm (mt4 (i := 31) rfl) rfl
theorem mlL_88 : Cond.methodLink RL 88 yX7_alike ∈ gw := gm (mt4 (i := 35) rfl) rfl
theorem mlL_91 : Cond.methodLink RL 91 yX7_near ∈ gw := gm (mt4 (i := 39) rfl) rfl
theorem mlX7_120 : Cond.methodLink RX7 120 yX7_distance ∈ gw := gm (mt4 (i := 43) rfl) rfl
theorem mlX7_123 : Cond.methodLink RX7 123 yX7_note ∈ gw := gm (mt4 (i := 47) rfl) rfl
theorem mlL_95 : Cond.methodLink RL 95 yX7_scan ∈ gw := gm (mt4 (i := 51) rfl) rfl
theorem mlL_99 : Cond.methodLink RL 99 yX7_found ∈ gw := gm (mt4 (i := 55) rfl) rfl
theorem mlL_104 : Cond.methodLink RL 104 yX7_splits ∈ gw := gm (mt4 (i := 59) rfl) rfl
theorem mlL_108 : Cond.methodLink RL 108 yX7_split ∈ gw := gm (mt4 (i := 63) rfl) rfl
theorem mlL_112 : Cond.methodLink RL 112 yX7_length ∈ gw := gm (mt4 (i := 67) rfl) rfl
theorem mlL_117 : Cond.methodLink RL 117 yX7_charAt ∈ gw := gm (mt4 (i := 71) rfl) rfl
theorem oi_im : Cond.instanceMethod objectInit ∈ gw := gm (mt1 (i := 24) rfl) rfl
theorem oi_co : Cond.code objectInit ⟨#[0xb1]⟩ 1 none ∈ gw := gm (mt1 (i := 25) rfl) rfl
theorem mi_st : Cond.static Lib.Math.min.name ∈ gw := gm (mt3 (i := 88) rfl) rfl
theorem mi_in : Cond.initialized "java/lang/Math" ∈ gw := gm (mt1 (i := 17) rfl) rfl
theorem mi_co : Cond.code Lib.Math.min.name Lib.Math.min.code 2 (some .int) ∈ gw := gm (mt3 (i := 89) rfl) rfl
theorem ac_st : Cond.static arraycopyName ∈ gw := gm (mt2 (i := 17) rfl) rfl
theorem ac_na : Cond.native arraycopyName ∈ gw := gm (mt2 (i := 18) rfl) rfl
theorem ac_in : Cond.initialized "java/lang/System" ∈ gw := gm (mt1 (i := 14) rfl) rfl
abbrev nwT : Cond := .methodLinkNest RX5 40 yX6_letterOf RX6
theorem nwT_in : nwT ∈ lw_tbl := mt1 (i := 203) rfl
