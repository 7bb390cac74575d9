/-! One letter more on the way of grow -/
theorem ix_inj {p q x y : Nat} (hx : x < 8) (hy : y < 8) (h : p * 8 + x = q * 8 + y) : p = q ∧ x = y := by omega
theorem lets_take {u v : List Nat} (h : lets (u ++ v)) : lets u := fun x hx => h x (List.mem_append_left _ hx)
/-- the cells reached, when one new edge leads to a fresh cell -/
theorem nod_new {ch : Nat → Option Nat} {wh : Nat → Bool} {hf : Nat → Nat} {L E : List (List Nat)} {v : List Nat} {x p q : Nat} (h : TP ch wh hf L E) (hv : lets v) (hx : x < 8) (hp : nod ch v = some p) (hn : ch (p * 8 + x) = none) (hq : ∀ u, lets u → nod ch u ≠ some q) (hq1 : 1 ≤ q) (hq2 : q < 211) :
    ∀ (k : Nat) (u : List Nat), u.length = k → lets u → nod (va_up ch (p * 8 + x) (some q)) u = if v ++ [x] <+: u then (if u = v ++ [x] then some q else none) else nod ch u := by
  obtain ⟨h1, h2, h3, h4, h5, h6⟩ := h
  have hqc := (h6 q hq1 hq2 hq).2.2
  have hpq : p ≠ q := fun e => hq v hv (by rw [hp, e])
  intro k
  induction k with
  | zero =>
    intro u hu _
    have hu0 : u = [] := List.length_eq_zero_iff.mp hu
    subst hu0
    rw [if_neg (fun z => by have := z.length_le; simp at this)]
    rfl
  | succ k ih =>
    intro u hu hl
    rcases snoc_cases u with rfl | ⟨u', y, rfl⟩
    · cases hu
    · have hlen : u'.length = k := by simpa using hu
      obtain ⟨hl', hy⟩ := lets_snoc.mp hl
      have ih' := ih u' hlen hl'
      rw [nod_snoc]
      by_cases hpre : v ++ [x] <+: u'
      · rw [if_pos hpre] at ih'
        have hpre2 : v ++ [x] <+: u' ++ [y] := hpre.trans (List.prefix_append _ _)
        have hne : u' ++ [y] ≠ v ++ [x] := by
          intro e
          rw [← e] at hpre
          exact not_pre_snoc hpre
        rw [if_pos hpre2, if_neg hne, ih']
        by_cases e : u' = v ++ [x]
        · rw [if_pos e]
          show va_up ch (p * 8 + x) (some q) (q * 8 + y) = none
          rw [va_up_ne _ _ (fun z => hpq (ix_inj hy hx z).1.symm)]
          exact hqc y hy
        · rw [if_neg e]; rfl
      · rw [if_neg hpre] at ih'
        rw [ih']
        cases ho : nod ch u' with
        | none =>
          have hnp : ¬ v ++ [x] <+: u' ++ [y] := by
            intro z
            rcases pre_snoc.mp z with z | z
            · exact hpre z
            · have := (List.append_inj' z rfl).1
              rw [← this, hp] at ho
              cases ho
          rw [if_neg hnp, nod_snoc, ho]
          rfl
        | some p' =>
          show va_up ch (p * 8 + x) (some q) (p' * 8 + y) = _
          by_cases e : p' * 8 + y = p * 8 + x
          · obtain ⟨e1, e2⟩ := ix_inj hy hx e
            subst e2
            have e3 : u' = v := h2 u' v p hl' hv (by rw [ho, e1]) hp
            subst e3
            rw [e, va_up_self, if_pos List.prefix_rfl, if_pos rfl]
          · rw [va_up_ne _ _ e]
            have hnp : ¬ v ++ [x] <+: u' ++ [y] := by
              intro z
              rcases pre_snoc.mp z with z | z
              · exact hpre z
              · obtain ⟨e1, e2⟩ := List.append_inj' z rfl
                subst e1
                have e4 : x = y := by simpa using e2
                subst e4
                rw [hp] at ho
                cases ho
                exact e rfl
            rw [if_neg hnp, nod_snoc, ho]
            rfl
theorem TP.step {ch : Nat → Option Nat} {wh : Nat → Bool} {hf : Nat → Nat} {L : List (List Nat)} {v : List Nat} {c p : Nat} (h : TP ch wh hf L [v]) (hv : lets v) (hp : nod ch v = some p) (hs : (L.map List.length).sum + v.length ≤ 209) :
    TP (grS c (p, ch, hf)).2.1 wh (grS c (p, ch, hf)).2.2 L [v ++ [lz c]] ∧ nod (grS c (p, ch, hf)).2.1 (v ++ [lz c]) = some (grS c (p, ch, hf)).1 := by
  have hfresh := h.fresh hs
  have hge := fcell_le hf
  have hx := lz_lt c
  have hvx : lets (v ++ [lz c]) := lets_snoc.mpr ⟨hv, hx⟩
  cases hz : ch (p * 8 + lz c) with
  | some q =>
    rw [show grS c (p, ch, hf) = (q, ch, va_up hf q (hf q + 1)) by simp only [grS, hz]]
    have hq : nod ch (v ++ [lz c]) = some q := by rw [nod_snoc_s hp]; exact hz
    obtain ⟨h1, h2, h3, h4, h5, h6⟩ := h
    refine ⟨⟨h1, h2, fun u hu => ?_, h4, fun u r hu hr => ?_, fun r hr1 hr2 hr3 => ?_⟩, hq⟩
    · rw [h3 u hu]
      constructor
      · rintro (z | z | ⟨w, hw, z⟩)
        · exact Or.inl z
        · exact Or.inr (Or.inl z)
        · rw [List.mem_singleton] at hw
          subst hw
          exact Or.inr (Or.inr ⟨_, List.mem_singleton.mpr rfl, pre_snoc.mpr (Or.inl z)⟩)
      · rintro (z | z | ⟨w, hw, z⟩)
        · exact Or.inl z
        · exact Or.inr (Or.inl z)
        · rw [List.mem_singleton] at hw
          subst hw
          rcases pre_snoc.mp z with z | z
          · exact Or.inr (Or.inr ⟨v, List.mem_singleton.mpr rfl, z⟩)
          · subst z
            exact (h3 _ hu).mp (by rw [hq]; simp)
    · have h7 := h5 u r hu hr
      rw [cP1] at h7 ⊢
      show va_up hf q (hf q + 1) r = _
      by_cases e : r = q
      · subst e
        have hu2 := h2 u _ r hu hvx hr hq
        subst hu2
        rw [va_up_self, if_pos List.prefix_rfl, h7, if_neg not_pre_snoc]
      · rw [va_up_ne _ _ e, h7]
        have hne : u ≠ v ++ [lz c] := by
          rintro rfl
          rw [hq] at hr
          cases hr
          exact e rfl
        by_cases z : u <+: v
        · rw [if_pos z, if_pos (pre_snoc.mpr (Or.inl z))]
        · rw [if_neg z, if_neg (fun y => (pre_snoc.mp y).elim z hne)]
    · have e : r ≠ q := fun e => hr3 _ hvx (by rw [e]; exact hq)
      show va_up hf q (hf q + 1) r = 0 ∧ _
      rw [va_up_ne _ _ e]
      exact h6 r hr1 hr2 hr3
  | none =>
    rw [show grS c (p, ch, hf) = (fcell hf, va_up ch (p * 8 + lz c) (some (fcell hf)), va_up hf (fcell hf) (hf (fcell hf) + 1)) by simp only [grS, hz]]
    have hN := fun u hu => nod_new h hv hx hp hz hfresh hge.1 (by omega) u.length u rfl hu
    have h0 := h
    obtain ⟨h1, h2, h3, h4, h5, h6⟩ := h
    have hfr := h6 _ hge.1 (by omega) hfresh
    have hnone : nod ch (v ++ [lz c]) = none := by rw [nod_snoc_s hp]; exact hz
    have hnoL : ¬ ∃ w, w ∈ L ∧ v ++ [lz c] <+: w := fun z => (h3 _ hvx).mpr (Or.inr (Or.inl z)) hnone
    -- a row that goes on behind the new one isn't a prefix of any word
    have hdead : ∀ u, lets u → v ++ [lz c] <+: u → nod ch u = none := by
      intro u hu z
      cases hc : nod ch u with
      | none => rfl
      | some r =>
        exfalso
        rcases (h3 u hu).mp (by rw [hc]; simp) with y | ⟨w, hw, y⟩ | ⟨w, hw, y⟩
        · subst y
          have := z.length_le
          simp at this
        · exact hnoL ⟨w, hw, z.trans y⟩
        · rw [List.mem_singleton] at hw
          subst hw
          exact not_pre_snoc (z.trans y)
    -- who is reached now
    have hwho : ∀ u r, lets u → nod (va_up ch (p * 8 + lz c) (some (fcell hf))) u = some r → (u = v ++ [lz c] ∧ r = fcell hf) ∨ (nod ch u = some r ∧ r ≠ fcell hf ∧ u ≠ v ++ [lz c]) := by
      intro u r hu hr
      rw [hN u hu] at hr
      by_cases z : v ++ [lz c] <+: u
      · rw [if_pos z] at hr
        by_cases e : u = v ++ [lz c]
        · rw [if_pos e] at hr
          cases hr
          exact Or.inl ⟨e, rfl⟩
        · rw [if_neg e] at hr; cases hr
      · rw [if_neg z] at hr
        exact Or.inr ⟨hr, fun e => hfresh u hu (by rw [← e]; exact hr), fun e => z (by rw [e]; exact List.prefix_rfl)⟩
    have hnew : nod (va_up ch (p * 8 + lz c) (some (fcell hf))) (v ++ [lz c]) = some (fcell hf) := by
      rw [hN _ hvx, if_pos List.prefix_rfl, if_pos rfl]
    refine ⟨⟨fun i q hq => ?_, fun u w r hu hw hr1 hr2 => ?_, fun u hu => ?_, fun u r hu hr => ?_, fun u r hu hr => ?_, fun r hr1 hr2 hr3 => ?_⟩, hnew⟩
    · have hq : va_up ch (p * 8 + lz c) (some (fcell hf)) i = some q := hq
      by_cases e : i = p * 8 + lz c
      · rw [e, va_up_self] at hq; cases hq; omega
      · rw [va_up_ne _ _ e] at hq; exact h1 i q hq
    · rcases hwho u r hu hr1 with ⟨a1, a2⟩ | ⟨a1, a2, -⟩
      · rcases hwho w r hw hr2 with ⟨b1, b2⟩ | ⟨b1, b2, -⟩
        · rw [a1, b1]
        · exact absurd a2 b2
      · rcases hwho w r hw hr2 with ⟨b1, b2⟩ | ⟨b1, b2, -⟩
        · exact absurd b2 a2
        · exact h2 u w r hu hw a1 b1
    · constructor
      · intro z
        cases hr : nod (va_up ch (p * 8 + lz c) (some (fcell hf))) u with
        | none => exact absurd hr z
        | some r =>
          rcases hwho u r hu hr with ⟨a1, -⟩ | ⟨a1, -, -⟩
          · exact Or.inr (Or.inr ⟨_, List.mem_singleton.mpr rfl, by rw [a1]; exact List.prefix_rfl⟩)
          · rcases (h3 u hu).mp (by rw [a1]; simp) with y | y | ⟨w, hw, y⟩
            · exact Or.inl y
            · exact Or.inr (Or.inl y)
            · rw [List.mem_singleton] at hw
              subst hw
              exact Or.inr (Or.inr ⟨_, List.mem_singleton.mpr rfl, pre_snoc.mpr (Or.inl y)⟩)
      · intro z
        rw [hN u hu]
        have hold : (u = [] ∨ (∃ w, w ∈ L ∧ u <+: w) ∨ ∃ w, w ∈ [v] ∧ u <+: w) ∨ u = v ++ [lz c] := by
          rcases z with y | y | ⟨w, hw, y⟩
          · exact Or.inl (Or.inl y)
          · exact Or.inl (Or.inr (Or.inl y))
          · rw [List.mem_singleton] at hw
            subst hw
            rcases pre_snoc.mp y with y | y
            · exact Or.inl (Or.inr (Or.inr ⟨v, List.mem_singleton.mpr rfl, y⟩))
            · exact Or.inr y
        rcases hold with y | y
        · have hne := (h3 u hu).mpr y
          rw [if_neg (fun q => hne (hdead u hu q))]
          exact hne
        · rw [if_pos (by rw [y]; exact List.prefix_rfl), if_pos y]
          simp
    · rcases hwho u r hu hr with ⟨a1, a2⟩ | ⟨a1, -, -⟩
      · rw [a2, hfr.2.1]
        constructor
        · intro z; cases z
        · intro z
          exact absurd ⟨u, z, by rw [← a1]; exact List.prefix_rfl⟩ hnoL
      · exact h4 u r hu a1
    · rw [cP1]
      show va_up hf (fcell hf) (hf (fcell hf) + 1) r = _
      rcases hwho u r hu hr with ⟨a1, a2⟩ | ⟨a1, a2, a3⟩
      · rw [a2, va_up_self, hfr.1, if_pos (by rw [a1]; exact List.prefix_rfl), a1, cP0 hnoL]
      · rw [va_up_ne _ _ a2, h5 u r hu a1, cP1]
        by_cases z : u <+: v
        · rw [if_pos z, if_pos (pre_snoc.mpr (Or.inl z))]
        · rw [if_neg z, if_neg (fun y => (pre_snoc.mp y).elim z a3)]
    · have e : r ≠ fcell hf := fun e => hr3 _ hvx (by rw [e]; exact hnew)
      have hold : ∀ u, lets u → nod ch u ≠ some r := by
        intro u hu z
        apply hr3 u hu
        rw [hN u hu, if_neg (fun q => by rw [hdead u hu q] at z; cases z)]
        exact z
      have h7 := h6 r hr1 hr2 hold
      refine ⟨?_, h7.2.1, fun y hy => ?_⟩
      · show va_up hf (fcell hf) (hf (fcell hf) + 1) r = 0
        rw [va_up_ne _ _ e]
        exact h7.1
      · show va_up ch (p * 8 + lz c) (some (fcell hf)) (r * 8 + y) = none
        have hrp : r ≠ p := fun e => hold v hv (by rw [e]; exact hp)
        rw [va_up_ne _ _ (fun z => hrp (ix_inj hy hx z).1)]
        exact h7.2.2 y hy
