/-! The automaton: cells that have a state -/
def AT (ch : Nat → Option Nat) (wh : Nat → Bool) (so mb : Nat → Nat) (ac : Nat → Bool) (tg : Nat → Option Nat) (S : List Nat) : Prop :=
  (S.Nodup ∧ ∀ p, p ∈ S → p < 211) ∧
  (∀ s, mb s = S.countP (fun p => decide (so p = s))) ∧
  (∀ p, p ∈ S → so p < 211 ∧ ac (so p) = wh p ∧ ∀ x, x < 8 → tg (so p * 8 + x) = (ch (p * 8 + x)).map so) ∧
  (∀ p, p ∈ S → ∀ x q, x < 8 → ch (p * 8 + x) = some q → q ∈ S) ∧
  (∀ s t, mb s ≠ 0 → mb t ≠ 0 → ac s = ac t → (∀ x, x < 8 → tg (s * 8 + x) = tg (t * 8 + x)) → s = t)
theorem jw_at {ch : Nat → Option Nat} {so : Nat → Nat} {p : Nat} {wn : Nat → Option Nat} {x : Nat} : ∀ k, x < k → jw ch so p wn k x = (ch (p * 8 + x)).map so
  | 0, h => by omega
  | k + 1, h => by
    show va_up (jw ch so p wn k) k ((ch (p * 8 + k)).map so) x = _
    by_cases e : x = k
    · subst e
      exact va_up_self _ _ _
    · rw [va_up_ne _ _ e]
      exact jw_at k (by omega)
theorem hwt_iff {tg wn : Nat → Option Nat} {s : Nat} : ∀ (f x : Nat), hwt tg wn s f x = true ↔ ∀ y, x ≤ y → y < x + f → tg (s * 8 + y) = wn y
  | 0, x => ⟨fun _ y h1 h2 => by omega, fun _ => rfl⟩
  | f + 1, x => by
    show (if tg (s * 8 + x) = wn x then hwt tg wn s f (x + 1) else false) = true ↔ _
    by_cases e : tg (s * 8 + x) = wn x
    · rw [if_pos e, hwt_iff f (x + 1)]
      constructor
      · intro h y h1 h2
        by_cases q : y = x
        · rw [q]; exact e
        · exact h y (by omega) (by omega)
      · intro h y h1 h2
        exact h y (by omega) (by omega)
    · rw [if_neg e]
      constructor
      · intro h; cases h
      · intro h; exact absurd (h x (Nat.le_refl _) (by omega)) e
theorem wst_some {mb : Nat → Nat} {ac : Nat → Bool} {tg wn : Nat → Option Nat} {b : Bool} : ∀ {f s z : Nat}, wst mb ac tg wn b f s = some z → mb z ≠ 0 ∧ ac z = b ∧ hwt tg wn z 8 0 = true
  | 0, _, _, h => by cases h
  | f + 1, s, z, h => by
    by_cases q : mb s ≠ 0 ∧ ac s = b ∧ hwt tg wn s 8 0 = true
    · rw [wst_yes q] at h
      cases h
      exact q
    · rw [wst_no q] at h
      exact wst_some h
theorem wst_none {mb : Nat → Nat} {ac : Nat → Bool} {tg wn : Nat → Option Nat} {b : Bool} : ∀ {f s : Nat}, wst mb ac tg wn b f s = none → ∀ z, s ≤ z → z < s + f → ¬ (mb z ≠ 0 ∧ ac z = b ∧ hwt tg wn z 8 0 = true)
  | 0, _, _, z, h1, h2 => by omega
  | f + 1, s, h, z, h1, h2 => by
    by_cases q : mb s ≠ 0 ∧ ac s = b ∧ hwt tg wn s 8 0 = true
    · rw [wst_yes q] at h
      cases h
    · rw [wst_no q] at h
      by_cases e : z = s
      · rw [e]; exact q
      · exact wst_none h z (by omega) (by omega)
/-- fcl stops at a free one or at 210 -/
theorem fcl_free {hf : Nat → Nat} : ∀ (f c : Nat), 210 ≤ c + f → c ≤ 210 → hf (fcl hf f c) = 0 ∨ (fcl hf f c = 210 ∧ ∀ i, c ≤ i → i < 210 → hf i ≠ 0)
  | 0, c, h1, h2 => Or.inr ⟨by show c = 210; omega, fun i h3 h4 => by omega⟩
  | f + 1, c, h1, h2 => by
    by_cases q : c < 210 ∧ hf c ≠ 0
    · rw [fcl_next q]
      rcases fcl_free (hf := hf) f (c + 1) (by omega) (by omega) with z | ⟨z1, z2⟩
      · exact Or.inl z
      · refine Or.inr ⟨z1, fun i h3 h4 => ?_⟩
        by_cases e : i = c
        · rw [e]; exact q.2
        · exact z2 i (by omega) h4
    · rw [fcl_end q]
      rcases Nat.lt_or_ge c 210 with z | z
      · refine Or.inl ?_
        cases hz : hf c with
        | zero => rfl
        | succ m => exact absurd ⟨z, by omega⟩ q
      · exact Or.inr ⟨by omega, fun i h3 h4 => by omega⟩
section AU
variable {ch : Nat → Option Nat} {wh : Nat → Bool} {so mb : Nat → Nat} {ac : Nat → Bool} {tg : Nat → Option Nat} {S : List Nat}
theorem AT.mb1 (h : AT ch wh so mb ac tg S) {p : Nat} (hp : p ∈ S) : mb (so p) ≠ 0 := by
  rw [h.2.1]
  have : 0 < S.countP (fun q => decide (so q = so p)) := List.countP_pos_iff.mpr ⟨p, hp, by simp⟩
  omega
theorem AT.mb2 (h : AT ch wh so mb ac tg S) {s : Nat} (hs : mb s ≠ 0) : ∃ p, p ∈ S ∧ so p = s := by
  rw [h.2.1] at hs
  obtain ⟨p, hp, e⟩ := List.countP_pos_iff.mp (Nat.pos_of_ne_zero hs)
  exact ⟨p, hp, of_decide_eq_true e⟩
/-- there is a free state -/
theorem AT.free (h : AT ch wh so mb ac tg S) (hl : S.length < 211) : mb (fcl mb 210 0) = 0 := by
  rcases fcl_free (hf := mb) 210 0 (by omega) (by omega) with z | ⟨z1, z2⟩
  · exact z
  · cases hz : mb (fcl mb 210 0) with
    | zero => rfl
    | succ m =>
      exfalso
      have hall : ∀ i, i < 211 → mb i ≠ 0 := by
        intro i hi
        by_cases e : i = 210
        · rw [e, ← z1, hz]; omega
        · exact z2 i (by omega) (by omega)
      have := pig 211 (S.map (fun p => some (so p + 1))) (fun q h1 h2 => by
        obtain ⟨p, hp, e⟩ := h.mb2 (hall (q - 1) (by omega))
        refine List.mem_map.mpr ⟨p, hp, ?_⟩
        show some (so p + 1) = some q
        rw [e]
        congr 1
        omega)
      rw [List.length_map] at this
      omega
/-- one state counted more -/
theorem count_up (p z : Nat) (hp : p ∉ S) (hm : ∀ s, mb s = S.countP (fun q => decide (so q = s))) (s : Nat) : va_up mb z (mb z + 1) s = (p :: S).countP (fun q => decide (va_up so p z q = s)) := by
  have e1 : S.countP (fun q => decide (va_up so p z q = s)) = S.countP (fun q => decide (so q = s)) := countP_ext S (fun q hq => by
    rw [va_up_ne _ _ (fun e => hp (by rw [← e]; exact hq))])
  rw [List.countP_cons, e1, ← hm, va_up_self]
  by_cases e : s = z
  · subst e
    rw [va_up_self, if_pos (decide_eq_true rfl)]
  · rw [va_up_ne _ _ e, if_neg (fun q => e (of_decide_eq_true q).symm)]
    rfl
theorem AT.join (h : AT ch wh so mb ac tg S) {p : Nat} (wn : Nat → Option Nat) (hp : p ∉ S) (hp2 : p < 211) (hl : S.length < 211) (hc : ∀ x q, x < 8 → ch (p * 8 + x) = some q → q ∈ S) :
    AT ch wh (jnS ch wh p (so, mb, ac, tg, wn)).1 (jnS ch wh p (so, mb, ac, tg, wn)).2.1 (jnS ch wh p (so, mb, ac, tg, wn)).2.2.1 (jnS ch wh p (so, mb, ac, tg, wn)).2.2.2.1 (p :: S) := by
  obtain ⟨⟨a1, a1'⟩, a2, a3, a4, a5⟩ := id h
  have hne : ∀ q, q ∈ S → q ≠ p := fun q hq e => hp (by rw [← e]; exact hq)
  have b1 : (p :: S).Nodup ∧ ∀ q, q ∈ p :: S → q < 211 := ⟨List.nodup_cons.mpr ⟨hp, a1⟩, fun q hq => by
    rcases List.mem_cons.mp hq with e | e
    · rw [e]; exact hp2
    · exact a1' q e⟩
  have b4 : ∀ q, q ∈ p :: S → ∀ x r, x < 8 → ch (q * 8 + x) = some r → r ∈ p :: S := fun q hq x r hx hr => by
    rcases List.mem_cons.mp hq with e | e
    · rw [e] at hr
      exact List.mem_cons_of_mem _ (hc x r hx hr)
    · exact List.mem_cons_of_mem _ (a4 q e x r hx hr)
  -- what is wanted
  have hmap : ∀ z q x, x < 8 → (∀ r, ch (q * 8 + x) = some r → r ∈ S) → (ch (q * 8 + x)).map (va_up so p z) = (ch (q * 8 + x)).map so := by
    intro z q x hx hr
    cases hz : ch (q * 8 + x) with
    | none => rfl
    | some r =>
      show some (va_up so p z r) = some (so r)
      rw [va_up_ne _ _ (hne r (hr r hz))]
  cases hz : wst mb ac tg (jw ch so p wn 8) (wh p) 211 0 with
  | some z =>
    rw [show jnS ch wh p (so, mb, ac, tg, wn) = (va_up so p z, va_up mb z (mb z + 1), ac, tg, jw ch so p wn 8) by simp only [jnS, hz]]
    show AT ch wh (va_up so p z) (va_up mb z (mb z + 1)) ac tg (p :: S)
    obtain ⟨w1, w2, w3⟩ := wst_some hz
    have w4 := wst_lt hz
    rw [hwt_iff] at w3
    refine ⟨b1, count_up p z hp a2, fun q hq => ?_, b4, fun s t hs ht => ?_⟩
    · rcases List.mem_cons.mp hq with e | e
      · subst e
        show va_up so q z q < 211 ∧ ac (va_up so q z q) = wh q ∧ ∀ x, x < 8 → tg (va_up so q z q * 8 + x) = (ch (q * 8 + x)).map (va_up so q z)
        rw [va_up_self]
        refine ⟨by omega, w2, fun x hx => ?_⟩
        rw [w3 x (Nat.zero_le _) (by omega), jw_at 8 hx, hmap z q x hx (fun r hr => hc x r hx hr)]
      · show va_up so p z q < 211 ∧ ac (va_up so p z q) = wh q ∧ ∀ x, x < 8 → tg (va_up so p z q * 8 + x) = (ch (q * 8 + x)).map (va_up so p z)
        rw [va_up_ne _ _ (hne q e)]
        obtain ⟨c1, c2, c3⟩ := a3 q e
        exact ⟨c1, c2, fun x hx => by rw [c3 x hx, hmap z q x hx (fun r hr => a4 q e x r hx hr)]⟩
    · have hup : ∀ s, va_up mb z (mb z + 1) s ≠ 0 → mb s ≠ 0 := by
        intro s hs
        by_cases e : s = z
        · rw [e]; exact w1
        · rw [va_up_ne _ _ e] at hs
          exact hs
      exact a5 s t (hup s hs) (hup t ht)
  | none =>
    rw [show jnS ch wh p (so, mb, ac, tg, wn) = (va_up so p (fcl mb 210 0), va_up mb (fcl mb 210 0) (mb (fcl mb 210 0) + 1), va_up ac (fcl mb 210 0) (wh p), va_cpy (jw ch so p wn 8) tg 0 (fcl mb 210 0 * 8) 8, jw ch so p wn 8) by simp only [jnS, hz]]
    have hfr := h.free hl
    have hfl := fcl_le0 mb 210 0 (by omega)
    generalize fcl mb 210 0 = f at hfr hfl
    show AT ch wh (va_up so p f) (va_up mb f (mb f + 1)) (va_up ac f (wh p)) (va_cpy (jw ch so p wn 8) tg 0 (f * 8) 8) (p :: S)
    have hnf : ∀ s, mb s ≠ 0 → s ≠ f := fun s hs e => hs (by rw [e]; exact hfr)
    have tgn : ∀ s x, s ≠ f → x < 8 → va_cpy (jw ch so p wn 8) tg 0 (f * 8) 8 (s * 8 + x) = tg (s * 8 + x) := by
      intro s x hs hx
      unfold va_cpy
      rw [if_neg (by omega)]
    have tgf : ∀ x, x < 8 → va_cpy (jw ch so p wn 8) tg 0 (f * 8) 8 (f * 8 + x) = (ch (p * 8 + x)).map so := by
      intro x hx
      unfold va_cpy
      rw [if_pos (by omega), show 0 + (f * 8 + x - f * 8) = x by omega, jw_at 8 hx]
    refine ⟨b1, count_up p f hp a2, fun q hq => ?_, b4, ?_⟩
    · rcases List.mem_cons.mp hq with e | e
      · subst e
        show va_up so q f q < 211 ∧ va_up ac f (wh q) (va_up so q f q) = wh q ∧ ∀ x, x < 8 → va_cpy (jw ch so q wn 8) tg 0 (f * 8) 8 (va_up so q f q * 8 + x) = (ch (q * 8 + x)).map (va_up so q f)
        rw [va_up_self, va_up_self]
        refine ⟨by omega, rfl, fun x hx => ?_⟩
        rw [tgf x hx, hmap f q x hx (fun r hr => hc x r hx hr)]
      · obtain ⟨c1, c2, c3⟩ := a3 q e
        have hsf := hnf _ (h.mb1 e)
        show va_up so p f q < 211 ∧ va_up ac f (wh p) (va_up so p f q) = wh q ∧ ∀ x, x < 8 → va_cpy (jw ch so p wn 8) tg 0 (f * 8) 8 (va_up so p f q * 8 + x) = (ch (q * 8 + x)).map (va_up so p f)
        rw [va_up_ne _ _ (hne q e), va_up_ne _ _ hsf]
        exact ⟨c1, c2, fun x hx => by rw [tgn _ x hsf hx, c3 x hx, hmap f q x hx (fun r hr => a4 q e x r hx hr)]⟩
    · have hup : ∀ s, s ≠ f → va_up mb f (mb f + 1) s ≠ 0 → mb s ≠ 0 := by
        intro s e hs
        rw [va_up_ne _ _ e] at hs
        exact hs
      have hnew : ∀ t, t ≠ f → mb t ≠ 0 → ac t = wh p → (∀ x, x < 8 → tg (t * 8 + x) = (ch (p * 8 + x)).map so) → False := by
        intro t _ ht h1 h2
        obtain ⟨q, hq, e⟩ := h.mb2 ht
        have htl : t < 211 := by rw [← e]; exact (a3 q hq).1
        refine wst_none hz t (Nat.zero_le _) (by omega) ⟨ht, h1, ?_⟩
        rw [hwt_iff]
        intro y _ hy
        rw [h2 y (by omega), jw_at 8 (by omega)]
      intro s t hs ht h1 h2
      by_cases es : s = f
      · by_cases et : t = f
        · rw [es, et]
        · exfalso
          rw [es, va_up_self, va_up_ne _ _ et] at h1
          refine hnew t et (hup t et ht) h1.symm (fun x hx => ?_)
          have := h2 x hx
          rw [es, tgf x hx, tgn t x et hx] at this
          exact this.symm
      · by_cases et : t = f
        · exfalso
          rw [et, va_up_self, va_up_ne _ _ es] at h1
          refine hnew s es (hup s es hs) h1 (fun x hx => ?_)
          have := h2 x hx
          rw [et, tgf x hx, tgn s x es hx] at this
          exact this
        · rw [va_up_ne _ _ es, va_up_ne _ _ et] at h1
          refine a5 s t (hup s es hs) (hup t et ht) h1 (fun x hx => ?_)
          have := h2 x hx
          rw [tgn s x es hx, tgn t x et hx] at this
          exact this
end AU
