/-! grow from its begin to its end; cut -/
theorem TP.way {ch : Nat → Option Nat} {wh : Nat → Bool} {hf : Nat → Nat} {L : List (List Nat)} {tx : Nat → Nat} (h : TP ch wh hf L []) : ∀ k, (L.map List.length).sum + k ≤ 210 → TP (grw tx ch hf k).2.1 wh (grw tx ch hf k).2.2 L [lts tx 0 k] ∧ nod (grw tx ch hf k).2.1 (lts tx 0 k) = some (grw tx ch hf k).1
  | 0, _ => ⟨h.start, rfl⟩
  | k + 1, hk => by
    obtain ⟨h1, h2⟩ := TP.way h k (by omega)
    have h3 := h1.step (c := tx k) (lts_lets tx 0 k) h2 (by rw [lts_len]; omega)
    rw [lts_succ, Nat.zero_add]
    exact h3
theorem TP.grown {ch : Nat → Option Nat} {wh : Nat → Bool} {hf : Nat → Nat} {L : List (List Nat)} {tx : Nat → Nat} {n : Nat} (h : TP ch wh hf L []) (hs : (L.map List.length).sum + n ≤ 210) : TP (grw tx ch hf n).2.1 (va_up wh (grw tx ch hf n).1 true) (grw tx ch hf n).2.2 (lts tx 0 n :: L) [] := by
  obtain ⟨⟨h1, h2, h3, h4, h5, h6⟩, h7⟩ := h.way (tx := tx) n hs
  have hw := lts_lets tx 0 n
  generalize grw tx ch hf n = g at *
  obtain ⟨p, c1, f1⟩ := g
  refine ⟨h1, h2, fun u hu => ?_, fun u r hu hr => ?_, fun u r hu hr => ?_, fun r hr1 hr2 hr3 => ?_⟩
  · rw [h3 u hu]
    constructor
    · rintro (z | ⟨w, hw, z⟩ | ⟨w, hw, z⟩)
      · exact Or.inl z
      · exact Or.inr (Or.inl ⟨w, List.mem_cons_of_mem _ hw, z⟩)
      · rw [List.mem_singleton] at hw
        exact Or.inr (Or.inl ⟨w, by rw [hw]; exact List.mem_cons_self, z⟩)
    · rintro (z | ⟨w, hw, z⟩ | ⟨w, hw, -⟩)
      · exact Or.inl z
      · rcases List.mem_cons.mp hw with e | e
        · exact Or.inr (Or.inr ⟨w, by rw [e]; exact List.mem_singleton.mpr rfl, z⟩)
        · exact Or.inr (Or.inl ⟨w, e, z⟩)
      · cases hw
  · show va_up wh p true r = true ↔ _
    by_cases e : r = p
    · subst e
      have hu2 : u = lts tx 0 n := h2 u _ r hu hw hr h7
      rw [va_up_self, hu2]
      exact ⟨fun _ => List.mem_cons_self, fun _ => rfl⟩
    · rw [va_up_ne _ _ e, h4 u r hu hr]
      constructor
      · exact fun z => List.mem_cons_of_mem _ z
      · intro z
        rcases List.mem_cons.mp z with y | y
        · exfalso
          rw [y] at hr
          exact e (Option.some.inj (hr.symm.trans h7))
        · exact y
  · rw [h5 u r hu hr, cP1, List.countP_cons, List.countP_nil]
    by_cases z : u <+: lts tx 0 n
    · rw [if_pos z, if_pos (List.isPrefixOf_iff_prefix.mpr z)]
    · rw [if_neg z, if_neg (fun y => z (List.isPrefixOf_iff_prefix.mp y))]
  · have h8 := h6 r hr1 hr2 hr3
    have e : r ≠ p := fun e => hr3 _ hw (by rw [e]; exact h7)
    refine ⟨h8.1, ?_, h8.2.2⟩
    show va_up wh p true r = false
    rw [va_up_ne _ _ e]
    exact h8.2.1
/-- cut, after k letters -/
def CP (ch : Nat → Option Nat) (hf : Nat → Nat) (L : List (List Nat)) (v : List Nat) (s : gst) : Prop :=
  nod ch v = some s.1 ∧
  (∀ u r, lets u → nod ch u = some r → s.2.2 r = hf r - if u <+: v then 1 else 0) ∧
  (∀ r, (∀ u, lets u → nod ch u ≠ some r) → s.2.2 r = hf r) ∧
  (∀ u r y, lets u → nod ch u = some r → y < 8 → s.2.1 (r * 8 + y) = if u ++ [y] <+: v ∧ L.countP (fun w => (u ++ [y]).isPrefixOf w) = 1 then none else ch (r * 8 + y)) ∧
  (∀ r y, y < 8 → (∀ u, lets u → nod ch u ≠ some r) → s.2.1 (r * 8 + y) = ch (r * 8 + y)) ∧
  (∀ i q, s.2.1 i = some q → ch i = some q)
theorem CP.start {ch : Nat → Option Nat} {wh : Nat → Bool} {hf : Nat → Nat} {L : List (List Nat)} (h : TP ch wh hf L []) : CP ch hf L [] (0, ch, va_up hf 0 (hf 0 - 1)) := by
  refine ⟨rfl, fun u r hu hr => ?_, fun r hr => ?_, fun u r y hu hr hy => ?_, fun r y _ _ => rfl, fun i q hq => hq⟩
  · show va_up hf 0 (hf 0 - 1) r = _
    by_cases e : r = 0
    · subst e
      rw [va_up_self, h.root hu hr, if_pos List.prefix_rfl]
    · rw [va_up_ne _ _ e, if_neg]
      · rfl
      · intro z
        rw [pre_nil.mp z] at hr
        cases hr
        exact e rfl
  · show va_up hf 0 (hf 0 - 1) r = hf r
    rw [va_up_ne _ _ (fun e => hr [] lets_nil (by rw [e]; rfl))]
  · rw [if_neg]
    rintro ⟨z, -⟩
    have := z.length_le
    simp at this
/-- what a step of cut finds -/
theorem CP.here {ch : Nat → Option Nat} {wh : Nat → Bool} {hf : Nat → Nat} {L : List (List Nat)} {v : List Nat} {s : gst} {x : Nat} (h : TP ch wh hf L []) (hc : CP ch hf L v s) (hv : lets v) (hx : x < 8) (hex : ∃ w, w ∈ L ∧ v ++ [x] <+: w) : ∃ q, nod ch (v ++ [x]) = some q ∧ s.2.1 (s.1 * 8 + x) = some q ∧ s.2.2 q = hf q ∧ hf q = L.countP (fun w => (v ++ [x]).isPrefixOf w) ∧ 1 ≤ hf q := by
  obtain ⟨h1, h2, h3, h4, h5, h6⟩ := h
  obtain ⟨c1, c2, c3, c4, c5, c6⟩ := hc
  have hvx : lets (v ++ [x]) := lets_snoc.mpr ⟨hv, hx⟩
  cases hq : nod ch (v ++ [x]) with
  | none => exact absurd hq ((h3 _ hvx).mpr (Or.inr (Or.inl hex)))
  | some q =>
    have hch : ch (s.1 * 8 + x) = some q := by rw [← nod_snoc_s c1]; exact hq
    have hcnt := h5 _ q hvx hq
    rw [List.countP_nil, Nat.add_zero] at hcnt
    have hpos := cPpos hex
    refine ⟨q, rfl, ?_, ?_, hcnt, by omega⟩
    · rw [c4 v s.1 x hv c1 hx, if_neg (fun z => not_pre_snoc z.1)]
      exact hch
    · rw [c2 _ q hvx hq, if_neg not_pre_snoc]
      rfl
theorem CP.step {ch : Nat → Option Nat} {wh : Nat → Bool} {hf : Nat → Nat} {L : List (List Nat)} {v : List Nat} {s : gst} {c : Nat} (h : TP ch wh hf L []) (hc : CP ch hf L v s) (hv : lets v) (hex : ∃ w, w ∈ L ∧ v ++ [lz c] <+: w) : CP ch hf L (v ++ [lz c]) (ctS c s) := by
  have hx := lz_lt c
  obtain ⟨q, e1, e2, e3, e4, e5⟩ := hc.here h hv hx hex
  have hvx : lets (v ++ [lz c]) := lets_snoc.mpr ⟨hv, hx⟩
  have hst : ctS c s = (q, if hf q = 1 then va_up s.2.1 (s.1 * 8 + lz c) none else s.2.1, va_up s.2.2 q (hf q - 1)) := by
    unfold ctS
    simp only [e2, Option.getD_some, va_up_self, e3]
    by_cases z : hf q = 1
    · rw [if_pos (by omega), if_pos z]
    · rw [if_neg (by omega), if_neg z]
  rw [hst]
  obtain ⟨h1, h2, h3, h4, h5, h6⟩ := h
  obtain ⟨c1, c2, c3, c4, c5, c6⟩ := hc
  refine ⟨e1, fun u r hu hr => ?_, fun r hr => ?_, fun u r y hu hr hy => ?_, fun r y hy hr => ?_, fun i z hz => ?_⟩
  · show va_up s.2.2 q (hf q - 1) r = _
    by_cases e : r = q
    · subst e
      have hu2 := h2 u _ r hu hvx hr e1
      rw [va_up_self, hu2, if_pos List.prefix_rfl]
    · have hne : u ≠ v ++ [lz c] := by
        rintro rfl
        rw [e1] at hr
        cases hr
        exact e rfl
      rw [va_up_ne _ _ e, c2 u r hu hr]
      by_cases z : u <+: v
      · rw [if_pos z, if_pos (pre_snoc.mpr (Or.inl z))]
      · rw [if_neg z, if_neg (fun y => (pre_snoc.mp y).elim z hne)]
  · show va_up s.2.2 q (hf q - 1) r = hf r
    rw [va_up_ne _ _ (fun e => hr _ hvx (by rw [e]; exact e1))]
    exact c3 r hr
  · show (if hf q = 1 then va_up s.2.1 (s.1 * 8 + lz c) none else s.2.1) (r * 8 + y) = _
    by_cases e : r * 8 + y = s.1 * 8 + lz c
    · obtain ⟨a1, a2⟩ := ix_inj hy hx e
      subst a2
      have hu2 : u = v := h2 u v r hu hv hr (by rw [a1]; exact c1)
      subst hu2
      by_cases z : hf q = 1
      · rw [if_pos z, e, va_up_self, if_pos ⟨List.prefix_rfl, by rw [← e4]; exact z⟩]
      · rw [if_neg z, if_neg (fun w => z (by rw [e4]; exact w.2)), e, e2]
        rw [← nod_snoc_s c1]
        exact e1.symm
    · have hb : (if hf q = 1 then va_up s.2.1 (s.1 * 8 + lz c) none else s.2.1) (r * 8 + y) = s.2.1 (r * 8 + y) := by
        split
        · rw [va_up_ne _ _ e]
        · rfl
      rw [hb, c4 u r y hu hr hy]
      have hne : u ++ [y] ≠ v ++ [lz c] := by
        intro z
        obtain ⟨a1, a2⟩ := List.append_inj' z rfl
        have a3 : y = lz c := by simpa using a2
        rw [a1] at hr
        have a4 : r = s.1 := Option.some.inj (hr.symm.trans c1)
        exact e (by rw [a3, a4])
      by_cases z : u ++ [y] <+: v ∧ L.countP (fun w => (u ++ [y]).isPrefixOf w) = 1
      · rw [if_pos z, if_pos ⟨pre_snoc.mpr (Or.inl z.1), z.2⟩]
      · rw [if_neg z, if_neg (fun w => z ⟨(pre_snoc.mp w.1).elim id (fun k => absurd k hne), w.2⟩)]
  · show (if hf q = 1 then va_up s.2.1 (s.1 * 8 + lz c) none else s.2.1) (r * 8 + y) = _
    have e : r * 8 + y ≠ s.1 * 8 + lz c := fun e => hr v hv (by rw [(ix_inj hy hx e).1]; exact c1)
    have hb : (if hf q = 1 then va_up s.2.1 (s.1 * 8 + lz c) none else s.2.1) (r * 8 + y) = s.2.1 (r * 8 + y) := by
      split
      · rw [va_up_ne _ _ e]
      · rfl
    rw [hb]
    exact c5 r y hy hr
  · have hz : (if hf q = 1 then va_up s.2.1 (s.1 * 8 + lz c) none else s.2.1) i = some z := hz
    split at hz
    · by_cases e : i = s.1 * 8 + lz c
      · rw [e, va_up_self] at hz; cases hz
      · rw [va_up_ne _ _ e] at hz; exact c6 i z hz
    · exact c6 i z hz
