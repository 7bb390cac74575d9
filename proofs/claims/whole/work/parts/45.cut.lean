theorem CP.way {ch : Nat → Option Nat} {wh : Nat → Bool} {hf : Nat → Nat} {L : List (List Nat)} {tx : Nat → Nat} {n : Nat} (h : TP ch wh hf L []) (hw : lts tx 0 n ∈ L) : ∀ k, k ≤ n → CP ch hf L (lts tx 0 k) (ctw tx ch hf k)
  | 0, _ => CP.start h
  | k + 1, hk => by
    have ih := CP.way h hw k (by omega)
    have h1 := ih.step (c := tx k) h (lts_lets tx 0 k) ⟨_, hw, by
      have := lts_pre (tx := tx) (b := 0) hk
      rw [lts_succ, Nat.zero_add] at this
      exact this⟩
    rw [lts_succ, Nat.zero_add]
    exact h1
/-- what cut's contract asks -/
theorem CP.ok {ch : Nat → Option Nat} {wh : Nat → Bool} {hf : Nat → Nat} {L : List (List Nat)} {tx : Nat → Nat} {n : Nat} (h : TP ch wh hf L []) (hw : lts tx 0 n ∈ L) : ∀ k, k < n → ∃ q, (ctw tx ch hf k).2.1 ((ctw tx ch hf k).1 * 8 + lz (tx k)) = some q ∧ 1 ≤ (ctw tx ch hf k).2.2 q := by
  intro k hk
  have hc := CP.way (tx := tx) h hw k (by omega)
  obtain ⟨q, -, e2, e3, -, e5⟩ := hc.here h (lts_lets tx 0 k) (lz_lt (tx k)) ⟨_, hw, by
      have := lts_pre (tx := tx) (b := 0) (show k + 1 ≤ n by omega)
      rw [lts_succ, Nat.zero_add] at this
      exact this⟩
  exact ⟨q, e2, by omega⟩
theorem cnt_erase {L : List (List Nat)} {w : List Nat} (hw : w ∈ L) (u : List Nat) : L.countP (fun z => u.isPrefixOf z) = (L.erase w).countP (fun z => u.isPrefixOf z) + if u <+: w then 1 else 0 := by
  have hp := (List.perm_cons_erase hw).countP_eq (fun z => u.isPrefixOf z)
  rw [hp, List.countP_cons]
  by_cases z : u <+: w
  · rw [if_pos z, if_pos (List.isPrefixOf_iff_prefix.mpr z)]
  · rw [if_neg z, if_neg (fun y => z (List.isPrefixOf_iff_prefix.mp y))]
/-- who is still reached behind cut -/
theorem CP.reach {ch : Nat → Option Nat} {wh : Nat → Bool} {hf : Nat → Nat} {L : List (List Nat)} {w : List Nat} {s : gst} (h : TP ch wh hf L []) (hw : w ∈ L) (hc : CP ch hf L w s) :
    ∀ (k : Nat) (u : List Nat), u.length = k → lets u → ((u = [] ∨ ∃ z, z ∈ L.erase w ∧ u <+: z) → nod s.2.1 u = nod ch u) ∧ (¬ (u = [] ∨ ∃ z, z ∈ L.erase w ∧ u <+: z) → nod s.2.1 u = none) := by
  obtain ⟨h1, h2, h3, h4, h5, h6⟩ := h
  obtain ⟨c1, c2, c3, c4, c5, c6⟩ := hc
  intro k
  induction k with
  | zero =>
    intro u hu _
    have hu0 : u = [] := List.length_eq_zero_iff.mp hu
    subst hu0
    exact ⟨fun _ => rfl, fun z => absurd (Or.inl rfl) z⟩
  | succ k ih =>
    intro u hu hl
    rcases snoc_cases u with rfl | ⟨u', y, rfl⟩
    · cases hu
    · have hlen : u'.length = k := by simpa using hu
      obtain ⟨hl', hy⟩ := lets_snoc.mp hl
      obtain ⟨i1, i2⟩ := ih u' hlen hl'
      have hce := cnt_erase hw (u' ++ [y])
      constructor
      · rintro (z | ⟨z, hz, hpz⟩)
        · simp at z
        · have hu' : u' = [] ∨ ∃ z, z ∈ L.erase w ∧ u' <+: z := Or.inr ⟨z, hz, (List.prefix_append _ _).trans hpz⟩
          have hzL : z ∈ L := List.mem_of_mem_erase hz
          have hne := (h3 u' hl').mpr (Or.inr (Or.inl ⟨z, hzL, (List.prefix_append _ _).trans hpz⟩))
          rw [nod_snoc, nod_snoc, i1 hu']
          cases ho : nod ch u' with
          | none => exact absurd ho hne
          | some r =>
            show s.2.1 (r * 8 + y) = ch (r * 8 + y)
            rw [c4 u' r y hl' ho hy, if_neg]
            rintro ⟨a1, a2⟩
            rw [if_pos a1] at hce
            have := cPpos ⟨z, hz, hpz⟩
            omega
      · intro hno
        rw [nod_snoc]
        cases ho : nod s.2.1 u' with
        | none => rfl
        | some r =>
          have hu' : u' = [] ∨ ∃ z, z ∈ L.erase w ∧ u' <+: z := by
            apply Classical.byContradiction
            intro q
            rw [i2 q] at ho
            cases ho
          have ho2 : nod ch u' = some r := by rw [← i1 hu']; exact ho
          show s.2.1 (r * 8 + y) = none
          rw [c4 u' r y hl' ho2 hy]
          have hz0 : (L.erase w).countP (fun z => (u' ++ [y]).isPrefixOf z) = 0 := cP0 (fun q => hno (Or.inr q))
          cases hcy : ch (r * 8 + y) with
          | none => split <;> rfl
          | some q =>
            have hn : nod ch (u' ++ [y]) = some q := by rw [nod_snoc_s ho2]; exact hcy
            rcases (h3 _ hl).mp (by rw [hn]; simp) with a | ⟨z, hz, a⟩ | ⟨z, hz, -⟩
            · simp at a
            · have hpos := cPpos ⟨z, hz, a⟩
              by_cases b : u' ++ [y] <+: w
              · rw [if_pos b] at hce
                rw [if_pos ⟨b, by omega⟩]
              · rw [if_neg b] at hce
                omega
            · cases hz
theorem TP.cutd {ch : Nat → Option Nat} {wh : Nat → Bool} {hf : Nat → Nat} {L : List (List Nat)} {w : List Nat} {s : gst} (h : TP ch wh hf L []) (hw : w ∈ L) (hwl : lets w) (hnd : L.Nodup) (hc : CP ch hf L w s) : TP s.2.1 (va_up wh s.1 false) s.2.2 (L.erase w) [] := by
  have hN := fun u hu => CP.reach h hw hc u.length u rfl hu
  obtain ⟨h1, h2, h3, h4, h5, h6⟩ := h
  obtain ⟨c1, c2, c3, c4, c5, c6⟩ := hc
  have hwho : ∀ u r, lets u → nod s.2.1 u = some r → nod ch u = some r ∧ (u = [] ∨ ∃ z, z ∈ L.erase w ∧ u <+: z) := by
    intro u r hu hr
    have hq : u = [] ∨ ∃ z, z ∈ L.erase w ∧ u <+: z := by
      apply Classical.byContradiction
      intro q
      rw [(hN u hu).2 q] at hr
      cases hr
    exact ⟨by rw [← (hN u hu).1 hq]; exact hr, hq⟩
  have hwE : w ∉ L.erase w := fun z => by
    have := (List.Nodup.mem_erase_iff hnd).mp z
    exact this.1 rfl
  refine ⟨fun i q hq => h1 i q (c6 i q hq), fun u v p hu hv a b => h2 u v p hu hv (hwho u p hu a).1 (hwho v p hv b).1, fun u hu => ?_, fun u r hu hr => ?_, fun u r hu hr => ?_, fun r hr1 hr2 hr3 => ?_⟩
  · constructor
    · intro z
      cases hr : nod s.2.1 u with
      | none => exact absurd hr z
      | some r =>
        rcases (hwho u r hu hr).2 with a | a
        · exact Or.inl a
        · exact Or.inr (Or.inl a)
    · intro z
      have hq : u = [] ∨ ∃ z, z ∈ L.erase w ∧ u <+: z := by
        rcases z with a | a | ⟨v, hv, -⟩
        · exact Or.inl a
        · exact Or.inr a
        · cases hv
      rw [(hN u hu).1 hq]
      refine (h3 u hu).mpr ?_
      rcases hq with a | ⟨z, hz, a⟩
      · exact Or.inl a
      · exact Or.inr (Or.inl ⟨z, List.mem_of_mem_erase hz, a⟩)
  · have hr0 := (hwho u r hu hr).1
    show va_up wh s.1 false r = true ↔ _
    by_cases e : r = s.1
    · subst e
      have hu2 := h2 u w _ hu hwl hr0 c1
      rw [va_up_self, hu2]
      exact ⟨fun z => (by cases z), fun z => absurd z hwE⟩
    · rw [va_up_ne _ _ e, h4 u r hu hr0]
      have hne : u ≠ w := by
        rintro rfl
        exact e (Option.some.inj (hr0.symm.trans c1))
      exact (List.mem_erase_of_ne hne).symm
  · have hr0 := (hwho u r hu hr).1
    rw [c2 u r hu hr0, h5 u r hu hr0, cnt_erase hw u, List.countP_nil, Nat.add_zero, Nat.add_zero]
    split <;> omega
  · by_cases hex : ∃ u, lets u ∧ nod ch u = some r
    · obtain ⟨u, hu, hr⟩ := hex
      have hno : ¬ (u = [] ∨ ∃ z, z ∈ L.erase w ∧ u <+: z) := fun q => hr3 u hu (by rw [(hN u hu).1 q]; exact hr)
      have hz0 : (L.erase w).countP (fun z => u.isPrefixOf z) = 0 := cP0 (fun q => hno (Or.inr q))
      have hce := cnt_erase hw u
      have hcu := h5 u r hu hr
      rw [List.countP_nil, Nat.add_zero] at hcu
      have hpos : 1 ≤ L.countP (fun z => u.isPrefixOf z) := by
        rcases (h3 u hu).mp (by rw [hr]; simp) with a | a | ⟨z, hz, -⟩
        · exact absurd (Or.inl a) hno
        · exact cPpos a
        · cases hz
      have hpre : u <+: w := by
        apply Classical.byContradiction
        intro q
        rw [if_neg q] at hce
        omega
      rw [if_pos hpre] at hce
      refine ⟨?_, ?_, fun y hy => ?_⟩
      · rw [c2 u r hu hr, if_pos hpre]
        omega
      · show va_up wh s.1 false r = false
        by_cases e : r = s.1
        · rw [e, va_up_self]
        · rw [va_up_ne _ _ e]
          cases hwr : wh r with
          | false => rfl
          | true =>
            exfalso
            have huL := (h4 u r hu hr).mp hwr
            have hne : u ≠ w := by
              rintro rfl
              exact e (Option.some.inj (hr.symm.trans c1))
            exact hno (Or.inr ⟨u, (List.mem_erase_of_ne hne).mpr huL, List.prefix_rfl⟩)
      · rw [c4 u r y hu hr hy]
        cases hcy : ch (r * 8 + y) with
        | none => split <;> rfl
        | some q =>
          have hl : lets (u ++ [y]) := lets_snoc.mpr ⟨hu, hy⟩
          have hn : nod ch (u ++ [y]) = some q := by rw [nod_snoc_s hr]; exact hcy
          have hce2 := cnt_erase hw (u ++ [y])
          have hz2 : (L.erase w).countP (fun z => (u ++ [y]).isPrefixOf z) = 0 := cP0 (fun ⟨z, hz, a⟩ => hno (Or.inr ⟨z, hz, (List.prefix_append _ _).trans a⟩))
          rcases (h3 _ hl).mp (by rw [hn]; simp) with a | ⟨z, hz, a⟩ | ⟨z, hz, -⟩
          · simp at a
          · have hp2 := cPpos ⟨z, hz, a⟩
            by_cases b : u ++ [y] <+: w
            · rw [if_pos b] at hce2
              rw [if_pos ⟨b, by omega⟩]
            · rw [if_neg b] at hce2
              omega
          · cases hz
    · have hno : ∀ u, lets u → nod ch u ≠ some r := fun u hu q => hex ⟨u, hu, q⟩
      have h8 := h6 r hr1 hr2 hno
      refine ⟨by rw [c3 r hno]; exact h8.1, ?_, fun y hy => by rw [c5 r y hy hno]; exact h8.2.2 y hy⟩
      show va_up wh s.1 false r = false
      rw [va_up_ne _ _ (fun e => hno w hwl (by rw [e]; exact c1))]
      exact h8.2.1
/-- an empty tree -/
theorem TP.none0 : TP (fun _ => none) (fun _ => false) (fun _ => 0) [] [] := by
  have hn : ∀ (u : List Nat), nod (fun _ => none) u = if u = [] then some 0 else none := by
    intro u
    rcases snoc_cases u with rfl | ⟨v, x, rfl⟩
    · rfl
    · rw [nod_snoc, if_neg (by simp)]
      cases nod (fun _ => none) v <;> rfl
  refine ⟨fun i q h => (by cases h), fun u v p hu hv a b => ?_, fun u hu => ?_, fun u p hu a => ?_, fun u p hu a => rfl, fun p _ _ _ => ⟨rfl, rfl, fun _ _ => rfl⟩⟩
  · rw [hn] at a b
    by_cases h1 : u = []
    · by_cases h2 : v = []
      · rw [h1, h2]
      · rw [if_neg h2] at b; cases b
    · rw [if_neg h1] at a; cases a
  · rw [hn]
    by_cases h1 : u = []
    · rw [if_pos h1]
      exact ⟨fun _ => Or.inl h1, fun _ => by simp⟩
    · rw [if_neg h1]
      constructor
      · intro z; exact absurd rfl z
      · rintro (z | ⟨w, hw, -⟩ | ⟨w, hw, -⟩)
        · exact absurd z h1
        · cases hw
        · cases hw
  · exact ⟨fun z => (by cases z), fun z => (by cases z)⟩
/-- order doesn't matter -/
theorem TP.perm {ch : Nat → Option Nat} {wh : Nat → Bool} {hf : Nat → Nat} {L M : List (List Nat)} (h : TP ch wh hf L []) (hp : L.Perm M) : TP ch wh hf M [] := by
  obtain ⟨h1, h2, h3, h4, h5, h6⟩ := h
  refine ⟨h1, h2, fun u hu => ?_, fun u p hu a => ?_, fun u p hu a => ?_, h6⟩
  · rw [h3 u hu]
    constructor
    · rintro (z | ⟨w, hw, z⟩ | z)
      · exact Or.inl z
      · exact Or.inr (Or.inl ⟨w, hp.mem_iff.mp hw, z⟩)
      · exact Or.inr (Or.inr z)
    · rintro (z | ⟨w, hw, z⟩ | z)
      · exact Or.inl z
      · exact Or.inr (Or.inl ⟨w, hp.mem_iff.mpr hw, z⟩)
      · exact Or.inr (Or.inr z)
  · rw [h4 u p hu a]
    exact hp.mem_iff
  · rw [h5 u p hu a, hp.countP_eq]
