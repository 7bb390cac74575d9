/-! The automaton: a cell leaves; another tree; what equal states say -/
section AV
variable {ch : Nat → Option Nat} {wh : Nat → Bool} {so mb : Nat → Nat} {ac : Nat → Bool} {tg : Nat → Option Nat} {S : List Nat}
theorem AT.leave (h : AT ch wh so mb ac tg S) {p : Nat} (hp : p ∈ S) (hc : ∀ q, q ∈ S → q ≠ p → ∀ x, x < 8 → ch (q * 8 + x) ≠ some p) : AT ch wh so (va_up mb (so p) (mb (so p) - 1)) ac tg (S.erase p) := by
  obtain ⟨⟨a1, a1'⟩, a2, a3, a4, a5⟩ := id h
  have hin : ∀ q, q ∈ S.erase p → q ∈ S ∧ q ≠ p := fun q hq => ⟨List.mem_of_mem_erase hq, (List.Nodup.mem_erase_iff a1).mp hq |>.1⟩
  refine ⟨⟨a1.erase p, fun q hq => a1' q (hin q hq).1⟩, fun s => ?_, fun q hq => a3 q (hin q hq).1, fun q hq x r hx hr => ?_, fun s t hs ht => ?_⟩
  · have e := (List.perm_cons_erase hp).countP_eq (fun q => decide (so q = s))
    rw [List.countP_cons] at e
    by_cases q : s = so p
    · subst q
      rw [va_up_self, a2, e, if_pos (decide_eq_true rfl), Nat.add_sub_cancel]
    · rw [va_up_ne _ _ q, a2, e, if_neg (fun z => q (of_decide_eq_true z).symm)]
      rfl
  · refine (List.Nodup.mem_erase_iff a1).mpr ⟨fun e => ?_, a4 q (hin q hq).1 x r hx hr⟩
    subst e
    exact hc q (hin q hq).1 (hin q hq).2 x hx hr
  · have hup : ∀ s, va_up mb (so p) (mb (so p) - 1) s ≠ 0 → mb s ≠ 0 := by
      intro s hs
      by_cases e : s = so p
      · subst e
        exact h.mb1 hp
      · rw [va_up_ne _ _ e] at hs
        exact hs
    exact a5 s t (hup s hs) (hup t ht)
theorem AT.other {ch' : Nat → Option Nat} {wh' : Nat → Bool} (h : AT ch wh so mb ac tg S) (he : ∀ p, p ∈ S → wh' p = wh p ∧ ∀ x, x < 8 → ch' (p * 8 + x) = ch (p * 8 + x)) : AT ch' wh' so mb ac tg S := by
  obtain ⟨a1, a2, a3, a4, a5⟩ := h
  refine ⟨a1, a2, fun p hp => ?_, fun p hp x q hx hq => ?_, a5⟩
  · obtain ⟨c1, c2, c3⟩ := a3 p hp
    obtain ⟨e1, e2⟩ := he p hp
    exact ⟨c1, by rw [e1]; exact c2, fun x hx => by rw [e2 x hx]; exact c3 x hx⟩
  · rw [(he p hp).2 x hx] at hq
    exact a4 p hp x q hx hq
/-- the way from a cell on -/
def wlk (ch : Nat → Option Nat) : List Nat → Nat → Option Nat
  | [], p => some p
  | x :: v, p => (ch (p * 8 + x)).bind (wlk ch v)
theorem AT.same (h : AT ch wh so mb ac tg S) : ∀ (v : List Nat) (p q : Nat), lets v → p ∈ S → q ∈ S → so p = so q → whO wh (wlk ch v p) = whO wh (wlk ch v q)
  | [], p, q, _, hp, hq, e => by
    show wh p = wh q
    rw [← (h.2.2.1 p hp).2.1, ← (h.2.2.1 q hq).2.1, e]
  | x :: v, p, q, hv, hp, hq, e => by
    have hx : x < 8 := hv x List.mem_cons_self
    have hv' : lets v := fun y hy => hv y (List.mem_cons_of_mem _ hy)
    have e1 := (h.2.2.1 p hp).2.2 x hx
    have e2 := (h.2.2.1 q hq).2.2 x hx
    rw [e, e2] at e1
    show whO wh ((ch (p * 8 + x)).bind (wlk ch v)) = whO wh ((ch (q * 8 + x)).bind (wlk ch v))
    cases hc : ch (p * 8 + x) with
    | none =>
      cases hd : ch (q * 8 + x) with
      | none => rfl
      | some d => rw [hc, hd] at e1; cases e1
    | some c =>
      cases hd : ch (q * 8 + x) with
      | none => rw [hc, hd] at e1; cases e1
      | some d =>
        rw [hc, hd] at e1
        have e3 : so d = so c := Option.some.inj e1
        exact AT.same h v c d hv' (h.2.2.2.1 p hp x c hx hc) (h.2.2.2.1 q hq x d hx hd) e3.symm
/-- equal endings, equal states; every child has an ending, no way is longer than k -/
theorem AT.differ (h : AT ch wh so mb ac tg S) (ht : ∀ p x q, p ∈ S → x < 8 → ch (p * 8 + x) = some q → ∃ v, lets v ∧ whO wh (wlk ch v q) = true) : ∀ (k p q : Nat), p ∈ S → q ∈ S → (∀ v, lets v → wlk ch v p ≠ none → v.length ≤ k) → (∀ v, lets v → whO wh (wlk ch v p) = whO wh (wlk ch v q)) → so p = so q := by
  intro k
  induction k with
  | zero =>
    intro p q hp hq hk he
    refine h.2.2.2.2 _ _ (h.mb1 hp) (h.mb1 hq) ?_ (fun x hx => ?_)
    · rw [(h.2.2.1 p hp).2.1, (h.2.2.1 q hq).2.1]
      exact he [] lets_nil
    · rw [(h.2.2.1 p hp).2.2 x hx, (h.2.2.1 q hq).2.2 x hx]
      have hpn : ch (p * 8 + x) = none := by
        cases hc : ch (p * 8 + x) with
        | none => rfl
        | some c =>
          have := hk [x] (fun y hy => by rw [List.mem_singleton.mp hy]; exact hx) (by show (ch (p * 8 + x)).bind (wlk ch []) ≠ none; rw [hc]; simp [wlk])
          simp at this
      have hqn : ch (q * 8 + x) = none := by
        cases hd : ch (q * 8 + x) with
        | none => rfl
        | some d =>
          obtain ⟨v, hv, hw⟩ := ht q x d hq hx hd
          have := he (x :: v) (fun y hy => (List.mem_cons.mp hy).elim (fun e => by rw [e]; exact hx) (hv y))
          have h1 : whO wh (wlk ch (x :: v) p) = false := by
            show whO wh ((ch (p * 8 + x)).bind (wlk ch v)) = false
            rw [hpn]
            rfl
          have h2 : whO wh (wlk ch (x :: v) q) = true := by
            show whO wh ((ch (q * 8 + x)).bind (wlk ch v)) = true
            rw [hd]
            exact hw
          rw [h1, h2] at this
          cases this
      rw [hpn, hqn]
  | succ k ih =>
    intro p q hp hq hk he
    refine h.2.2.2.2 _ _ (h.mb1 hp) (h.mb1 hq) ?_ (fun x hx => ?_)
    · rw [(h.2.2.1 p hp).2.1, (h.2.2.1 q hq).2.1]
      exact he [] lets_nil
    · rw [(h.2.2.1 p hp).2.2 x hx, (h.2.2.1 q hq).2.2 x hx]
      have hle : ∀ v, lets v → lets (x :: v) := fun v hv y hy => (List.mem_cons.mp hy).elim (fun e => by rw [e]; exact hx) (hv y)
      have hstep : ∀ v, lets v → whO wh ((ch (p * 8 + x)).bind (wlk ch v)) = whO wh ((ch (q * 8 + x)).bind (wlk ch v)) := fun v hv => he (x :: v) (hle v hv)
      cases hc : ch (p * 8 + x) with
      | none =>
        cases hd : ch (q * 8 + x) with
        | none => rfl
        | some d =>
          obtain ⟨v, hv, hw⟩ := ht q x d hq hx hd
          have := hstep v hv
          rw [hc, hd] at this
          have this : whO wh none = whO wh (wlk ch v d) := this
          rw [hw] at this
          cases this
      | some c =>
        cases hd : ch (q * 8 + x) with
        | none =>
          obtain ⟨v, hv, hw⟩ := ht p x c hp hx hc
          have := hstep v hv
          rw [hc, hd] at this
          have this : whO wh (wlk ch v c) = whO wh none := this
          rw [hw] at this
          cases this
        | some d =>
          refine congrArg some (ih c d (h.2.2.2.1 p hp x c hx hc) (h.2.2.2.1 q hq x d hx hd) (fun v hv hn => ?_) (fun v hv => ?_))
          · have := hk (x :: v) (hle v hv) (by show (ch (p * 8 + x)).bind (wlk ch v) ≠ none; rw [hc]; exact hn)
            rw [List.length_cons] at this
            omega
          · have := hstep v hv
            rw [hc, hd] at this
            exact this
end AV
