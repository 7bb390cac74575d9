/-! scan over the words -/
def wdL (L : List (List Nat)) (u : List Nat) : Bool := decide (u ∈ L)
/-- the letters that end at k -/
def run (tx : Nat → Nat) : Nat → List Nat
  | 0 => []
  | k + 1 => match ltr (tx k) with
    | none => []
    | some q => run tx k ++ [q]
theorem run_lets (tx : Nat → Nat) : ∀ k, lets (run tx k)
  | 0 => lets_nil
  | k + 1 => by
    show lets (match ltr (tx k) with | none => [] | some q => run tx k ++ [q])
    cases h : ltr (tx k) with
    | none => exact lets_nil
    | some q => exact lets_snoc.mpr ⟨run_lets tx k, ltr_lt h⟩
/-- all endings that are held, the longest first -/
def eds (wd : List Nat → Bool) : List Nat → List (List Nat)
  | [] => []
  | a :: t => if wd (a :: t) then (a :: t) :: eds wd t else eds wd t
/-- the longest ending that is reached -/
def ln0 (ch : Nat → Option Nat) : List Nat → List Nat
  | [] => []
  | a :: t => if isN ch (a :: t) then a :: t else ln0 ch t
theorem ln0_N (ch : Nat → Option Nat) : ∀ s, isN ch (ln0 ch s) = true
  | [] => rfl
  | a :: t => by
    show isN ch (if isN ch (a :: t) then a :: t else ln0 ch t) = true
    by_cases h : isN ch (a :: t) = true
    · rw [if_pos h]; exact h
    · rw [if_neg h]; exact ln0_N ch t
theorem ln0_lets {ch : Nat → Option Nat} : ∀ {s : List Nat}, lets s → lets (ln0 ch s)
  | [], h => h
  | a :: t, h => by
    show lets (if isN ch (a :: t) then a :: t else ln0 ch t)
    by_cases q : isN ch (a :: t) = true
    · rw [if_pos q]; exact h
    · rw [if_neg q]; exact ln0_lets (fun x hx => h x (List.mem_cons_of_mem _ hx))
theorem ln0_snoc (ch : Nat → Option Nat) (y : Nat) : ∀ s, ln0 ch (s ++ [y]) = gS ch y (ln0 ch s)
  | [] => rfl
  | a :: t => by
    show (if isN ch (a :: t ++ [y]) then a :: t ++ [y] else ln0 ch (t ++ [y])) = gS ch y (if isN ch (a :: t) then a :: t else ln0 ch t)
    by_cases h : isN ch (a :: t) = true
    · rw [if_pos h]
      by_cases h2 : isN ch (a :: t ++ [y]) = true
      · rw [if_pos h2, gS_yes h2]
      · rw [if_neg h2, ln0_snoc ch y t, gS_no h2 (by simp)]
        cases t with
        | nil => rfl
        | cons b t =>
          show gS ch y (if isN ch (b :: t) then b :: t else ln0 ch t) = gS ch y (if isN ch (b :: t) then b :: t else lsf ch (b :: t))
          by_cases h3 : isN ch (b :: t) = true
          · rw [if_pos h3, if_pos h3]
          · rw [if_neg h3, if_neg h3]
            have : ∀ t : List Nat, ∀ b, ln0 ch t = lsf ch (b :: t) := by
              intro t
              induction t with
              | nil => intro b; show [] = if isN ch [] then [] else _; rw [if_pos (isN_nil ch)]
              | cons c t ih =>
                intro b
                show (if isN ch (c :: t) then c :: t else ln0 ch t) = if isN ch (c :: t) then c :: t else lsf ch (c :: t)
                rw [ih c]
            rw [this t b]
    · have h2 : ¬ isN ch (a :: t ++ [y]) = true := fun q => h (isN_pre q)
      rw [if_neg h, if_neg h2]
      exact ln0_snoc ch y t
theorem eds_ln0 {ch : Nat → Option Nat} {wd : List Nat → Bool} : ∀ {s : List Nat}, (∀ u, u <:+ s → wd u = true → isN ch u = true) → eds wd s = eds wd (ln0 ch s)
  | [], _ => rfl
  | a :: t, hw => by
    show _ = eds wd (if isN ch (a :: t) then a :: t else ln0 ch t)
    by_cases h : isN ch (a :: t) = true
    · rw [if_pos h]
    · rw [if_neg h]
      show (if wd (a :: t) then (a :: t) :: eds wd t else eds wd t) = _
      rw [if_neg (fun q => h (hw _ List.suffix_rfl q))]
      exact eds_ln0 (fun u hu => hw u (hu.trans (List.suffix_cons a t)))
/-- by the links of held endings -/
theorem eds_swf {wd : List Nat → Bool} (h0 : wd [] = false) : ∀ (t : List Nat) (a : Nat), eds wd t = match swf wd (a :: t) with
    | none => []
    | some w => w :: eds wd w.tail
  | [], a => by
    show [] = match (if wd [] then some [] else none) with | none => [] | some w => w :: eds wd w.tail
    rw [h0]
    rfl
  | b :: t, a => by
    show (if wd (b :: t) then (b :: t) :: eds wd t else eds wd t) = match (if wd (b :: t) then some (b :: t) else swf wd (b :: t)) with | none => [] | some w => w :: eds wd w.tail
    by_cases h : wd (b :: t) = true
    · rw [if_pos h, if_pos h]
      rfl
    · rw [if_neg h, if_neg h]
      exact eds_swf h0 t b
theorem swf_some {wd : List Nat → Bool} : ∀ {s w : List Nat}, swf wd s = some w → wd w = true ∧ w <:+ s ∧ w.length < s.length
  | [], _, h => by cases h
  | a :: t, w, h => by
    unfold swf at h
    by_cases q : wd t = true
    · rw [if_pos q] at h
      cases h
      exact ⟨q, List.suffix_cons a t, by simp⟩
    · rw [if_neg q] at h
      obtain ⟨h1, h2, h3⟩ := swf_some h
      exact ⟨h1, h2.trans (List.suffix_cons a t), by simp only [List.length_cons]; omega⟩
abbrev pss := (Nat → Nat) × (Nat → Nat) × Nat
def psh (b : Nat) : List Nat → pss → pss
  | [], s => s
  | r :: l, s => psh b l (va_up s.1 s.2.2 r, va_up s.2.1 s.2.2 b, s.2.2 + 1)
theorem fed_shift {sw : Nat → Option Nat} {hb : Nat → Nat} {b : Nat} {s : fst4} : ∀ k, fed sw hb b s (k + 1) = fed sw hb b (feS sw hb b s) k
  | 0 => rfl
  | k + 1 => by
    show feS sw hb b (fed sw hb b s (k + 1)) = feS sw hb b (fed sw hb b (feS sw hb b s) k)
    rw [fed_shift k]
section SC
variable {ch : Nat → Option Nat} {wh : Nat → Bool} {hf hb ln : Nat → Nat} {sw : Nat → Option Nat} {L : List (List Nat)}
theorem TR.wdl {u : List Nat} (h : TR ch wh hf hb ln sw L) (hu : lets u) : wd ch wh u = wdL L u := by
  unfold wdL
  cases hn : nod ch u with
  | none =>
    have : u ∉ L := fun q => by
      obtain ⟨p, hp⟩ := h.in_ q
      rw [hp] at hn
      cases hn
    rw [decide_eq_false this]
    unfold wd
    rw [hn]
    rfl
  | some p =>
    have hw := h.1.2.2.2.1 _ p hu hn
    unfold wd
    rw [hn]
    show wh p = _
    cases hz : wh p with
    | true => exact (decide_eq_true (hw.mp hz)).symm
    | false => exact (decide_eq_false (fun q => by rw [hw.mpr q] at hz; cases hz)).symm
theorem swf_ext {f g : List Nat → Bool} : ∀ {s : List Nat}, (∀ u, u <:+ s → f u = g u) → swf f s = swf g s
  | [], _ => rfl
  | a :: t, h => by
    show (if f t then some t else swf f t) = if g t then some t else swf g t
    rw [h t (List.suffix_cons a t), swf_ext (fun u hu => h u (hu.trans (List.suffix_cons a t)))]
theorem lets_suf {u s : List Nat} (h : u <:+ s) (hs : lets s) : lets u := fun x hx => hs x (h.subset hx)
theorem TR.nil {u : List Nat} (h : TR ch wh hf hb ln sw L) (hu : u ∈ L) : u ≠ [] := by
  rintro rfl
  have := (h.2.2.1 _ hu).1
  simp at this
theorem TR.wd0 (h : TR ch wh hf hb ln sw L) : wdL L [] = false := decide_eq_false (fun q => h.nil q rfl)
theorem TR.swl {u : List Nat} {p : Nat} (h : TR ch wh hf hb ln sw L) (hu : lets u) (hp : nod ch u = some p) : sw p = (swf (wdL L) u).bind (nod ch) := by
  rw [(h.2.2.2 u hu p hp).2.2, swf_ext (fun t ht => h.wdl (lets_suf ht hu))]
/-- the endings that are found from a held word on -/
theorem TR.fdd (h : TR ch wh hf hb ln sw L) (b : Nat) : ∀ (k : Nat) (w : List Nat) (a : Nat) (fu fv : Nat → Nat) (fk : Nat), w ∈ L → nod ch w = some a → w.length ≤ k → (fed sw hb b (some a, fu, fv, fk) k).2 = psh b ((w :: eds (wdL L) w.tail).map (less L)) (fu, fv, fk)
  | 0, w, a, fu, fv, fk, hw, ha, hl => absurd (List.length_eq_zero_iff.mp (Nat.le_zero.mp hl)) (h.nil hw)
  | k + 1, w, a, fu, fv, fk, hw, ha, hl => by
    have hwl : lets w := (h.2.2.1 w hw).2.2
    have hba := (h.2.2.2 w hwl a ha).1
    rw [fed_shift]
    show (fed sw hb b (sw a, va_up fu fk (hb a), va_up fv fk b, fk + 1) k).2 = psh b ((eds (wdL L) w.tail).map (less L)) (va_up fu fk (less L w), va_up fv fk b, fk + 1)
    rw [hba, h.swl hwl ha]
    cases w with
    | nil => exact absurd rfl (h.nil hw)
    | cons x t =>
      show _ = psh b ((eds (wdL L) t).map (less L)) _
      rw [eds_swf h.wd0 t x]
      cases hs : swf (wdL L) (x :: t) with
      | none =>
        show (fed sw hb b (none, va_up fu fk (less L (x :: t)), va_up fv fk b, fk + 1) k).2 = _
        rw [fed_none (j := 0) rfl (Nat.zero_le k)]
        rfl
      | some w2 =>
        obtain ⟨g1, g2, g3⟩ := swf_some hs
        have hw2 : w2 ∈ L := of_decide_eq_true g1
        obtain ⟨a2, ha2⟩ := h.in_ hw2
        show (fed sw hb b ((nod ch w2), va_up fu fk (less L (x :: t)), va_up fv fk b, fk + 1) k).2 = _
        rw [ha2]
        exact TR.fdd h b k w2 a2 _ _ _ hw2 ha2 (by omega)
/-- .. and from a row on -/
theorem TR.att (h : TR ch wh hf hb ln sw L) (b : Nat) {s : List Nat} {p : Nat} (fu fv : Nat → Nat) (fk : Nat) (hs : lets s) (hp : nod ch s = some p) : (fed sw hb b (at0 wh sw p, fu, fv, fk) n7).2 = psh b ((eds (wdL L) s).map (less L)) (fu, fv, fk) := by
  have h7 : ∀ w, w ∈ L → w.length ≤ n7 := fun w hw => by rw [n7_eq]; exact (h.2.2.1 w hw).2.1
  have hwp := h.1.2.2.2.1 s p hs hp
  unfold at0
  by_cases q : s ∈ L
  · rw [if_pos (hwp.mpr q), TR.fdd h b n7 s p fu fv fk q hp (h7 s q)]
    cases s with
    | nil => exact absurd rfl (h.nil q)
    | cons x t =>
      have e : eds (wdL L) (x :: t) = (x :: t) :: eds (wdL L) t := if_pos (decide_eq_true q)
      rw [e]
      rfl
  · rw [if_neg (fun z => q (hwp.mp z)), h.swl hs hp]
    have e : eds (wdL L) s = match swf (wdL L) s with
        | none => []
        | some w => w :: eds (wdL L) w.tail := by
      cases s with
      | nil => rfl
      | cons x t =>
        rw [← eds_swf h.wd0 t x]
        exact if_neg (fun z => q (of_decide_eq_true z))
    rw [e]
    cases hz : swf (wdL L) s with
    | none =>
      show (fed sw hb b (none, fu, fv, fk) n7).2 = _
      rw [fed_none (j := 0) rfl (Nat.zero_le n7)]
      rfl
    | some w =>
      have hw : w ∈ L := of_decide_eq_true (swf_some hz).1
      obtain ⟨a, ha⟩ := h.in_ hw
      show (fed sw hb b (nod ch w, fu, fv, fk) n7).2 = _
      rw [ha]
      exact TR.fdd h b n7 w a fu fv fk hw ha (h7 w hw)
theorem TR.len {u : List Nat} {p : Nat} (h : TR ch wh hf hb ln sw L) (hu : lets u) (hp : nod ch u = some p) : u.length ≤ 7 := by
  rcases (h.1.2.2.1 _ hu).mp (by rw [hp]; simp) with e | ⟨w, hw, e⟩ | ⟨w, hw, -⟩
  · rw [e]; simp
  · exact Nat.le_trans e.length_le (h.2.2.1 w hw).2.1
  · cases hw
/-- what scan finds up to k -/
def scf (L : List (List Nat)) (tx : Nat → Nat) (s : pss) : Nat → pss
  | 0 => (s.1, s.2.1, 0)
  | k + 1 => psh (k + 1) ((eds (wdL L) (run tx (k + 1))).map (less L)) (scf L tx s k)
theorem TR.scan (h : TR ch wh hf hb ln sw L) (tx fu fv : Nat → Nat) (fk : Nat) : ∀ k, nod ch (ln0 ch (run tx k)) = some (scs ch wh hb ln sw tx fu fv k).1 ∧ (scs ch wh hb ln sw tx fu fv k).2 = scf L tx (fu, fv, fk) k
  | 0 => ⟨rfl, rfl⟩
  | k + 1 => by
    obtain ⟨i1, i2⟩ := TR.scan h tx fu fv fk k
    have hrl := run_lets tx (k + 1)
    have hN : ∀ u, u <:+ run tx (k + 1) → wdL L u = true → isN ch u = true := fun u _ hw => by
      obtain ⟨p, hp⟩ := h.in_ (of_decide_eq_true hw)
      exact isN_of hp
    have step : nod ch (ln0 ch (run tx (k + 1))) = some (onw ch ln (scs ch wh hb ln sw tx fu fv k).1 (tx k)) := by
      unfold onw
      show nod ch (ln0 ch (match ltr (tx k) with | none => [] | some q => run tx k ++ [q])) = _
      cases hq : ltr (tx k) with
      | none => rfl
      | some q =>
        show nod ch (ln0 ch (run tx k ++ [q])) = _
        rw [ln0_snoc]
        have hl := ln0_lets (ch := ch) (run_lets tx k)
        exact fol_gS h.1.1 hl i1 (h.len hl i1) (fun u p hu hu0 _ hp => (h.2.2.2 u hu p hp).2.1 hu0)
    refine ⟨step, ?_⟩
    show (fed sw hb (k + 1) (at0 wh sw (onw ch ln (scs ch wh hb ln sw tx fu fv k).1 (tx k)), (scs ch wh hb ln sw tx fu fv k).2.1, (scs ch wh hb ln sw tx fu fv k).2.2.1, (scs ch wh hb ln sw tx fu fv k).2.2.2) n7).2 = psh (k + 1) ((eds (wdL L) (run tx (k + 1))).map (less L)) (scf L tx (fu, fv, fk) k)
    rw [h.att (k + 1) _ _ _ (ln0_lets hrl) step, ← eds_ln0 hN, ← i2]
end SC
