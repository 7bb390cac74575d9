/-! Endings: the longest shorter one that is reached, the longest shorter one that is held -/
def isN (ch : Nat → Option Nat) (u : List Nat) : Bool := (nod ch u).isSome
theorem isN_nil (ch : Nat → Option Nat) : isN ch [] = true := rfl
theorem isN_some {ch : Nat → Option Nat} {u : List Nat} (h : isN ch u = true) : ∃ p, nod ch u = some p := Option.isSome_iff_exists.mp h
theorem isN_of {ch : Nat → Option Nat} {u : List Nat} {p : Nat} (h : nod ch u = some p) : isN ch u = true := by unfold isN; rw [h]; rfl
theorem isN_pre {ch : Nat → Option Nat} {u : List Nat} {x : Nat} (h : isN ch (u ++ [x]) = true) : isN ch u = true := by
  obtain ⟨q, hq⟩ := isN_some h
  obtain ⟨p, hp, -⟩ := nod_up hq
  exact isN_of hp
def lsf (ch : Nat → Option Nat) : List Nat → List Nat
  | [] => []
  | _ :: t => if isN ch t then t else lsf ch t
def swf (wd : List Nat → Bool) : List Nat → Option (List Nat)
  | [] => none
  | _ :: t => if wd t then some t else swf wd t
/-- the longest ending of s that is reached with y behind it *-/
def gS (ch : Nat → Option Nat) (y : Nat) : List Nat → List Nat
  | [] => if isN ch ([] ++ [y]) then [] ++ [y] else []
  | a :: t => if isN ch (a :: t ++ [y]) then a :: t ++ [y] else gS ch y t
theorem lsf_len (ch : Nat → Option Nat) : ∀ u : List Nat, u ≠ [] → (lsf ch u).length < u.length
  | [], h => absurd rfl h
  | a :: t, _ => by
    show (if isN ch t then t else lsf ch t).length < _
    by_cases h : isN ch t = true
    · rw [if_pos h]; simp
    · rw [if_neg h]
      cases t with
      | nil => simp [lsf]
      | cons b t =>
        have := lsf_len ch (b :: t) (by simp)
        simp only [List.length_cons] at this ⊢
        omega
theorem lsf_N (ch : Nat → Option Nat) : ∀ u : List Nat, isN ch (lsf ch u) = true
  | [] => rfl
  | a :: t => by
    show isN ch (if isN ch t then t else lsf ch t) = true
    by_cases h : isN ch t = true
    · rw [if_pos h]; exact h
    · rw [if_neg h]; exact lsf_N ch t
theorem lsf_lets {ch : Nat → Option Nat} : ∀ {u : List Nat}, lets u → lets (lsf ch u)
  | [], _ => lets_nil
  | a :: t, h => by
    have ht : lets t := fun x hx => h x (List.mem_cons_of_mem _ hx)
    show lets (if isN ch t then t else lsf ch t)
    by_cases q : isN ch t = true
    · rw [if_pos q]; exact ht
    · rw [if_neg q]; exact lsf_lets ht
theorem lsf_snoc (ch : Nat → Option Nat) (y : Nat) : ∀ (a : Nat) (t : List Nat), lsf ch (a :: t ++ [y]) = gS ch y t
  | a, [] => by
    show (if isN ch [y] then [y] else lsf ch [y]) = if isN ch [y] then [y] else []
    by_cases h : isN ch [y] = true
    · rw [if_pos h, if_pos h]
    · rw [if_neg h, if_neg h]
      rfl
  | a, b :: t => by
    show (if isN ch (b :: t ++ [y]) then b :: t ++ [y] else lsf ch (b :: t ++ [y])) = if isN ch (b :: t ++ [y]) then b :: t ++ [y] else gS ch y t
    rw [lsf_snoc ch y b t]
theorem gS_lsf (ch : Nat → Option Nat) (y : Nat) : ∀ (a : Nat) (t : List Nat), gS ch y t = gS ch y (lsf ch (a :: t))
  | a, t => by
    show gS ch y t = gS ch y (if isN ch t then t else lsf ch t)
    by_cases h : isN ch t = true
    · rw [if_pos h]
    · rw [if_neg h]
      cases t with
      | nil => exact absurd rfl h
      | cons b t =>
        have hn : ¬ isN ch (b :: t ++ [y]) = true := fun q => h (isN_pre q)
        have e : gS ch y (b :: t) = gS ch y t := by
          show (if isN ch (b :: t ++ [y]) then b :: t ++ [y] else gS ch y t) = _
          rw [if_neg hn]
        rw [e]
        exact gS_lsf ch y b t
theorem gS_yes {ch : Nat → Option Nat} {y : Nat} {s : List Nat} (h : isN ch (s ++ [y]) = true) : gS ch y s = s ++ [y] := by
  cases s with
  | nil => exact if_pos h
  | cons a t => exact if_pos h
theorem gS_no {ch : Nat → Option Nat} {y : Nat} {s : List Nat} (h : ¬ isN ch (s ++ [y]) = true) (hs : s ≠ []) : gS ch y s = gS ch y (lsf ch s) := by
  cases s with
  | nil => exact absurd rfl hs
  | cons a t =>
    rw [← gS_lsf ch y a t]
    exact if_neg h
theorem gS_nil {ch : Nat → Option Nat} {y : Nat} (h : ¬ isN ch ([] ++ [y]) = true) : gS ch y [] = [] := if_neg h
theorem gS_N (ch : Nat → Option Nat) (y : Nat) : ∀ s, isN ch (gS ch y s) = true
  | [] => by
    by_cases h : isN ch ([] ++ [y]) = true
    · rw [gS_yes h]; exact h
    · rw [gS_nil h]; rfl
  | a :: t => by
    by_cases h : isN ch (a :: t ++ [y]) = true
    · rw [gS_yes h]; exact h
    · show isN ch (if isN ch (a :: t ++ [y]) then a :: t ++ [y] else gS ch y t) = true
      rw [if_neg h]
      exact gS_N ch y t
/-- links are right for all that is shorter than d -/
def LK (ch : Nat → Option Nat) (ln : Nat → Nat) (d : Nat) : Prop := ∀ u p, lets u → u ≠ [] → u.length ≤ d → nod ch u = some p → nod ch (lsf ch u) = some (ln p)
theorem flw_gS {ch : Nat → Option Nat} {ln : Nat → Nat} {y : Nat} (hr : ∀ i q, ch i = some q → 1 ≤ q ∧ q < 211) : ∀ (f : Nat) (s : List Nat) (a : Nat), lets s → nod ch s = some a → s.length ≤ f → LK ch ln s.length → nod ch (gS ch y s) = some ((ch (flw ch ln y f a * 8 + y)).getD 0)
  | 0, s, a, hs, ha, hl, _ => by
    have h0 : s = [] := List.length_eq_zero_iff.mp (by omega)
    subst h0
    cases ha
    show nod ch (gS ch y []) = some ((ch (0 * 8 + y)).getD 0)
    have hn : nod ch ([] ++ [y]) = ch (0 * 8 + y) := nod_snoc_s rfl
    by_cases h : isN ch ([] ++ [y]) = true
    · obtain ⟨q, hq⟩ := isN_some h
      rw [gS_yes h, hq, ← hn, hq]
      rfl
    · rw [gS_nil h]
      have : ch (0 * 8 + y) = none := by
        rw [← hn]
        cases z : nod ch ([] ++ [y]) with
        | none => rfl
        | some q => exact absurd (isN_of z) h
      rw [this]
      rfl
  | f + 1, s, a, hs, ha, hl, hk => by
    have hn : nod ch (s ++ [y]) = ch (a * 8 + y) := nod_snoc_s ha
    by_cases h : isN ch (s ++ [y]) = true
    · obtain ⟨q, hq⟩ := isN_some h
      have hc : ch (a * 8 + y) = some q := by rw [← hn]; exact hq
      rw [gS_yes h, flw_end (fun z => by rw [hc] at z; cases z.2), hc, hq]
      rfl
    · have hc : ch (a * 8 + y) = none := by
        rw [← hn]
        cases z : nod ch (s ++ [y]) with
        | none => rfl
        | some q => exact absurd (isN_of z) h
      by_cases h0 : s = []
      · subst h0
        cases ha
        rw [gS_nil h, flw_end (fun z => absurd rfl z.1), hc]
        rfl
      · have ha0 : a ≠ 0 := by
          rintro rfl
          rcases snoc_cases s with e | ⟨v, x, e⟩
          · exact h0 e
          · subst e
            obtain ⟨p, -, hq⟩ := nod_up ha
            have := (hr _ _ hq).1
            omega
        rw [gS_no h h0, flw_next ⟨ha0, hc⟩]
        have hlen := lsf_len ch s h0
        exact flw_gS hr f (lsf ch s) (ln a) (lsf_lets hs) (hk s a hs h0 (Nat.le_refl _) ha) (by omega) (fun u p hu hu0 hul hp => hk u p hu hu0 (by omega) hp)
theorem fol_gS {ch : Nat → Option Nat} {ln : Nat → Nat} {y a : Nat} {s : List Nat} (hr : ∀ i q, ch i = some q → 1 ≤ q ∧ q < 211) (hs : lets s) (ha : nod ch s = some a) (hl : s.length ≤ 7) (hk : LK ch ln s.length) : nod ch (gS ch y s) = some (fol ch ln a y) := flw_gS hr 7 s a hs ha hl hk
/-- the held endings by the link -/
theorem swf_lsf {ch : Nat → Option Nat} {wd : List Nat → Bool} (hw : ∀ u, wd u = true → isN ch u = true) : ∀ u : List Nat, u ≠ [] → swf wd u = if wd (lsf ch u) then some (lsf ch u) else swf wd (lsf ch u)
  | [], h => absurd rfl h
  | a :: t, _ => by
    show (if wd t then some t else swf wd t) = if wd (if isN ch t then t else lsf ch t) then some (if isN ch t then t else lsf ch t) else swf wd (if isN ch t then t else lsf ch t)
    by_cases h : isN ch t = true
    · simp only [h, if_true]
    · have hwt : ¬ wd t = true := fun q => h (hw t q)
      rw [if_neg h, if_neg hwt]
      cases t with
      | nil => exact absurd rfl h
      | cons b t => exact swf_lsf hw (b :: t) (by simp)
