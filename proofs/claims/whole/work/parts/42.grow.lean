/-! The tree holds the words of L, and beside them the prefixes of the rows of E -/
def TP (ch : Nat → Option Nat) (wh : Nat → Bool) (hf : Nat → Nat) (L E : List (List Nat)) : Prop :=
  (∀ i q, ch i = some q → 1 ≤ q ∧ q < 211) ∧
  (∀ u v p, lets u → lets v → nod ch u = some p → nod ch v = some p → u = v) ∧
  (∀ u, lets u → (nod ch u ≠ none ↔ u = [] ∨ (∃ w, w ∈ L ∧ u <+: w) ∨ ∃ v, v ∈ E ∧ u <+: v)) ∧
  (∀ u p, lets u → nod ch u = some p → (wh p = true ↔ u ∈ L)) ∧
  (∀ u p, lets u → nod ch u = some p → hf p = L.countP (fun w => u.isPrefixOf w) + E.countP (fun w => u.isPrefixOf w)) ∧
  (∀ p, 1 ≤ p → p < 211 → (∀ u, lets u → nod ch u ≠ some p) → hf p = 0 ∧ wh p = false ∧ ∀ x, x < 8 → ch (p * 8 + x) = none)
theorem TP.rg {ch : Nat → Option Nat} {wh : Nat → Bool} {hf : Nat → Nat} {L E : List (List Nat)} (h : TP ch wh hf L E) : rg ch := fun i j hj => (h.1 i j hj).2
theorem TP.root {ch : Nat → Option Nat} {wh : Nat → Bool} {hf : Nat → Nat} {L E : List (List Nat)} (h : TP ch wh hf L E) {u : List Nat} (hu : lets u) (h0 : nod ch u = some 0) : u = [] := h.2.1 u [] 0 hu lets_nil h0 rfl
theorem pre_snoc {u v : List Nat} {x : Nat} : u <+: v ++ [x] ↔ u <+: v ∨ u = v ++ [x] := by
  rw [List.prefix_concat_iff]
  constructor
  · rintro (h | h)
    · exact Or.inr h
    · exact Or.inl h
  · rintro (h | h)
    · exact Or.inr h
    · exact Or.inl h
theorem pre_nil {u : List Nat} : u <+: [] ↔ u = [] := List.prefix_nil
theorem not_pre_snoc {v : List Nat} {x : Nat} : ¬ v ++ [x] <+: v := fun h => by
  have := h.length_le
  rw [List.length_append, List.length_singleton] at this
  omega
theorem cP1 {u v : List Nat} : [v].countP (fun w => u.isPrefixOf w) = if u <+: v then 1 else 0 := by
  by_cases h : u <+: v
  · rw [if_pos h]; simp [List.countP_cons, List.isPrefixOf_iff_prefix.mpr h]
  · rw [if_neg h]
    have h2 : u.isPrefixOf v = false := by
      cases q : u.isPrefixOf v with
      | false => rfl
      | true => exact absurd (List.isPrefixOf_iff_prefix.mp q) h
    simp [List.countP_cons, h2]
theorem cP0 {u : List Nat} {L : List (List Nat)} (h : ¬ ∃ w, w ∈ L ∧ u <+: w) : L.countP (fun w => u.isPrefixOf w) = 0 := by
  rw [List.countP_eq_zero]
  intro w hw q
  exact h ⟨w, hw, List.isPrefixOf_iff_prefix.mp q⟩
theorem cPpos {u : List Nat} {L : List (List Nat)} (h : ∃ w, w ∈ L ∧ u <+: w) : 1 ≤ L.countP (fun w => u.isPrefixOf w) := by
  obtain ⟨w, hw, q⟩ := h
  exact List.countP_pos_iff.mpr ⟨w, hw, List.isPrefixOf_iff_prefix.mpr q⟩
/-- the begin of a way -/
theorem TP.start {ch : Nat → Option Nat} {wh : Nat → Bool} {hf : Nat → Nat} {L : List (List Nat)} (h : TP ch wh hf L []) : TP ch wh (va_up hf 0 (hf 0 + 1)) L [[]] := by
  obtain ⟨h1, h2, h3, h4, h5, h6⟩ := h
  refine ⟨h1, h2, fun u hu => ?_, h4, fun u p hu hp => ?_, fun p hp1 hp2 hp3 => ?_⟩
  · rw [h3 u hu]
    constructor
    · rintro (q | q | ⟨v, hv, -⟩)
      · exact Or.inl q
      · exact Or.inr (Or.inl q)
      · cases hv
    · rintro (q | q | ⟨v, hv, q⟩)
      · exact Or.inl q
      · exact Or.inr (Or.inl q)
      · rw [List.mem_singleton] at hv
        subst hv
        exact Or.inl (pre_nil.mp q)
  · rw [cP1]
    by_cases q : p = 0
    · subst q
      have hu0 : u = [] := h2 u [] 0 hu lets_nil hp rfl
      have h7 := h5 u 0 hu hp
      rw [va_up_self, h7, if_pos (by rw [hu0]; exact List.prefix_rfl)]
      rfl
    · rw [va_up_ne _ _ q, h5 u p hu hp, if_neg]
      · rfl
      · intro z
        rw [pre_nil.mp z] at hp
        cases hp
        exact q rfl
  · rw [va_up_ne _ _ (by omega)]
    exact h6 p hp1 hp2 hp3
/-- how many prefixes there can be -/
def pfx (w : List Nat) : List (List Nat) := (List.range w.length).map (fun k => w.take (k + 1))
theorem pfx_len (w : List Nat) : (pfx w).length = w.length := by simp [pfx]
theorem pfx_mem {u w : List Nat} (h : u <+: w) (hu : u ≠ []) : u ∈ pfx w := by
  have hl := h.length_le
  have hp : 0 < u.length := List.length_pos_iff.mpr hu
  refine List.mem_map.mpr ⟨u.length - 1, List.mem_range.mpr (by omega), ?_⟩
  rw [show u.length - 1 + 1 = u.length by omega]
  exact (List.prefix_iff_eq_take.mp h).symm
theorem pfx_sum (L : List (List Nat)) : (L.flatMap pfx).length = (L.map List.length).sum := by
  induction L with
  | nil => rfl
  | cons a l ih => simp only [List.flatMap_cons, List.length_append, pfx_len, ih, List.map_cons, List.sum_cons]
/-- a cell that grow takes is free -/
theorem TP.fresh {ch : Nat → Option Nat} {wh : Nat → Bool} {hf : Nat → Nat} {L : List (List Nat)} {v : List Nat} (h : TP ch wh hf L [v]) (hs : (L.map List.length).sum + v.length ≤ 209) : ∀ u, lets u → nod ch u ≠ some (fcell hf) := by
  obtain ⟨h1, h2, h3, h4, h5, h6⟩ := h
  have hge := fcell_le hf
  -- a node has members
  have key : ∀ u p, lets u → nod ch u = some p → u ≠ [] → 1 ≤ hf p := by
    intro u p hu hp hne
    rw [h5 u p hu hp]
    rcases (h3 u hu).mp (by rw [hp]; simp) with q | q | ⟨w, hw, q⟩
    · exact absurd q hne
    · have := cPpos q; omega
    · rw [List.mem_singleton] at hw
      subst hw
      rw [cP1, if_pos q]
      omega
  by_cases hz : hf (fcell hf) = 0
  · intro u hu hp
    by_cases hne : u = []
    · subst hne
      have hq : 0 = fcell hf := Option.some.inj hp
      omega
    · have := key u _ hu hp hne; omega
  · -- then all cells are taken
    exfalso
    have all : ∀ p, 1 ≤ p → p ≤ 210 → hf p ≠ 0 := by
      have gen : ∀ f c, 1 ≤ c → c + f ≥ 211 → fcl hf f c = fcell hf → ∀ p, c ≤ p → p ≤ 210 → hf p ≠ 0 := by
        intro f
        induction f with
        | zero => intro c _ h9 _ p hp1 hp2; omega
        | succ f ih =>
          intro c hc h9 he p hp1 hp2
          by_cases q : c < 210 ∧ hf c ≠ 0
          · rw [fcl_next q] at he
            by_cases e : p = c
            · rw [e]; exact q.2
            · exact ih (c + 1) (by omega) (by omega) he p (by omega) hp2
          · rw [fcl_end q] at he
            rw [← he] at hz
            have hc210 : ¬ c < 210 := fun z => q ⟨z, hz⟩
            have : p = c := by omega
            rw [this]; exact hz
      intro p hp1 hp2
      exact gen 210 1 (by omega) (by omega) rfl p hp1 hp2
    have hB : ∀ p, 1 ≤ p → p ≤ 210 → some p ∈ ((L.flatMap pfx) ++ pfx v).map (nod ch) := by
      intro p hp1 hp2
      have hex : ∃ u, lets u ∧ nod ch u = some p := by
        apply Classical.byContradiction
        intro hno
        have := (h6 p hp1 (by omega) (fun u hu q => hno ⟨u, hu, q⟩)).1
        exact all p hp1 hp2 this
      obtain ⟨u, hu, hp⟩ := hex
      have hne : u ≠ [] := by
        rintro rfl
        cases hp
        omega
      refine List.mem_map.mpr ⟨u, ?_, hp⟩
      rcases (h3 u hu).mp (by rw [hp]; simp) with q | ⟨w, hw, q⟩ | ⟨w, hw, q⟩
      · exact absurd q hne
      · exact List.mem_append_left _ (List.mem_flatMap.mpr ⟨w, hw, pfx_mem q hne⟩)
      · rw [List.mem_singleton] at hw
        subst hw
        exact List.mem_append_right _ (pfx_mem q hne)
    have h9 := pig 210 _ hB
    rw [List.length_map, List.length_append, pfx_sum, pfx_len] at h9
    omega
