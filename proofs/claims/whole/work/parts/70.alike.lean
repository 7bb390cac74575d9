/-! Equal states: the same may follow -/
section LH
variable {ch : Nat → Option Nat} {wh : Nat → Bool} {hf : Nat → Nat} {L : List (List Nat)} {so mb : Nat → Nat} {ac : Nat → Bool} {tg : Nat → Option Nat} {S : List Nat}
theorem AT.alike (hA : AT ch wh so mb ac tg S) (hS : NS ch S) (hT : TP ch wh hf L []) (hL : ∀ w, w ∈ L → wrd w) {u v : List Nat} {p q : Nat} (hu : lets u) (hv : lets v) (hp : nod ch u = some p) (hq : nod ch v = some q) : so p = so q ↔ ∀ r, (u ++ r ∈ L ↔ v ++ r ∈ L) := by
  have hLl : ∀ w, w ∈ L → lets w := fun w hw => (hL w hw).2.2
  have hpS : p ∈ S := (hS p).mpr ⟨u, hu, hp⟩
  have hqS : q ∈ S := (hS q).mpr ⟨v, hv, hq⟩
  constructor
  · intro e r
    by_cases hr : lets r
    · have h1 := hA.same r p q hr hpS hqS e
      rw [hT.ends hLl hu hr hp, hT.ends hLl hv hr hq] at h1
      exact decide_eq_decide.mp h1
    · constructor
      · intro h
        exact absurd (fun x hx => hLl _ h x (List.mem_append_right _ hx)) hr
      · intro h
        exact absurd (fun x hx => hLl _ h x (List.mem_append_right _ hx)) hr
  · intro h
    refine hA.differ (fun p' x q' hp' hx hc => ?_) 7 p q hpS hqS (fun r hr hn => ?_) (fun r hr => ?_)
    · obtain ⟨u', hu', hn'⟩ := (hS p').mp hp'
      have hn2 : nod ch (u' ++ [x]) = some q' := by rw [nod_snoc_s hn']; exact hc
      have hl2 : lets (u' ++ [x]) := lets_snoc.mpr ⟨hu', hx⟩
      rcases (hT.2.2.1 _ hl2).mp (by rw [hn2]; simp) with e | ⟨w, hw, e⟩ | ⟨w, hw, -⟩
      · exact absurd e (by simp)
      · obtain ⟨r, rfl⟩ := e
        have hr : lets r := fun y hy => hLl _ hw y (List.mem_append_right _ hy)
        exact ⟨r, hr, by rw [hT.ends hLl hl2 hr hn2]; exact decide_eq_true hw⟩
      · cases hw
    · have hur : lets (u ++ r) := fun x hx => (List.mem_append.mp hx).elim (hu x) (hr x)
      rw [← wlk_nod r u p hp] at hn
      rcases (hT.2.2.1 _ hur).mp hn with e | ⟨w, hw, e⟩ | ⟨w, hw, -⟩
      · have := congrArg List.length e
        rw [List.length_append, List.length_nil] at this
        omega
      · have h1 := e.length_le
        rw [List.length_append] at h1
        have h2 := (hL w hw).2.1
        omega
      · cases hw
    · rw [hT.ends hLl hu hr hp, hT.ends hLl hv hr hq]
      exact decide_eq_decide.mpr (h r)
end LH
/-! How many classes: counted over a row of values -/
def cg (g : Nat → Nat) (k s : Nat) : Nat := (List.range k).countP (fun i => decide (g i = s))
theorem cg_s (g : Nat → Nat) (k s : Nat) : cg g (k + 1) s = cg g k s + if g k = s then 1 else 0 := by
  unfold cg
  rw [List.range_succ, List.countP_append, List.countP_cons, List.countP_nil]
  by_cases e : g k = s
  · rw [if_pos e, if_pos (decide_eq_true e)]
  · rw [if_neg e, if_neg (fun q => e (of_decide_eq_true q))]
theorem cg_0 {g : Nat → Nat} {k s : Nat} : cg g k s = 0 ↔ ∀ i, i < k → g i ≠ s := by
  unfold cg
  rw [List.countP_eq_zero]
  constructor
  · intro h i hi e
    exact h i (List.mem_range.mpr hi) (decide_eq_true e)
  · intro h i hi e
    exact h i (List.mem_range.mp hi) (of_decide_eq_true e)
theorem cnz_cg (g : Nat → Nat) (k : Nat) : ∀ m, cnz (cg g (k + 1)) m = cnz (cg g k) m + if g k < m ∧ cg g k (g k) = 0 then 1 else 0
  | 0 => by
    rw [if_neg (by omega)]
    rfl
  | m + 1 => by
    have ih := cnz_cg g k m
    show (if cg g (k + 1) m = 0 then cnz (cg g (k + 1)) m else cnz (cg g (k + 1)) m + 1) = (if cg g k m = 0 then cnz (cg g k) m else cnz (cg g k) m + 1) + _
    rw [ih, cg_s]
    by_cases e : g k = m
    · rw [if_pos e, if_neg (by omega), if_neg (by omega)]
      by_cases z : cg g k m = 0
      · rw [if_pos z, if_pos ⟨by omega, by rw [e]; exact z⟩]
      · rw [if_neg z, if_neg (by rw [e]; exact fun q => z q.2)]
    · rw [if_neg e, Nat.add_zero]
      by_cases y : g k < m ∧ cg g k (g k) = 0
      · have y2 : g k < m + 1 ∧ cg g k (g k) = 0 := ⟨by omega, y.2⟩
        rw [if_pos y, if_pos y2]
        split <;> omega
      · have y2 : ¬ (g k < m + 1 ∧ cg g k (g k) = 0) := fun q => y ⟨by omega, q.2⟩
        rw [if_neg y, if_neg y2]
        split <;> omega
theorem ced_cg (g : Nat → Nat) (tg : Nat → Option Nat) (k : Nat) : ∀ m, ced (cg g (k + 1)) tg m = ced (cg g k) tg m + if g k < m ∧ cg g k (g k) = 0 then cef tg (g k) 8 else 0
  | 0 => by
    rw [if_neg (by omega)]
    rfl
  | m + 1 => by
    have ih := ced_cg g tg k m
    show (if cg g (k + 1) m = 0 then ced (cg g (k + 1)) tg m else ced (cg g (k + 1)) tg m + cef tg m 8) = (if cg g k m = 0 then ced (cg g k) tg m else ced (cg g k) tg m + cef tg m 8) + _
    rw [ih, cg_s]
    by_cases e : g k = m
    · rw [if_pos e, if_neg (by omega), if_neg (by omega)]
      by_cases z : cg g k m = 0
      · rw [if_pos z, if_pos ⟨by omega, by rw [e]; exact z⟩, e]
        omega
      · rw [if_neg z, if_neg (by rw [e]; exact fun q => z q.2)]
        omega
    · rw [if_neg e, Nat.add_zero]
      by_cases y : g k < m ∧ cg g k (g k) = 0
      · have y2 : g k < m + 1 ∧ cg g k (g k) = 0 := ⟨by omega, y.2⟩
        rw [if_pos y, if_pos y2]
        split <;> omega
      · have y2 : ¬ (g k < m + 1 ∧ cg g k (g k) = 0) := fun q => y ⟨by omega, q.2⟩
        rw [if_neg y, if_neg y2]
        split <;> omega
theorem cnz_0 : ∀ m, cnz (fun _ => 0) m = 0
  | 0 => rfl
  | m + 1 => by
    show (if (0 : Nat) = 0 then cnz (fun _ => 0) m else _) = 0
    rw [if_pos rfl]
    exact cnz_0 m
theorem ced_0 (tg : Nat → Option Nat) : ∀ m, ced (fun _ => 0) tg m = 0
  | 0 => rfl
  | m + 1 => by
    show (if (0 : Nat) = 0 then ced (fun _ => 0) tg m else _) = 0
    rw [if_pos rfl]
    exact ced_0 tg m
