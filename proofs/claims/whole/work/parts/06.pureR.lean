/-! What Finds, Ruler and Splitter do -/
def rd (tx : Nat → Nat) (c : Nat) (ds : Nat → Nat) : Nat → Nat × (Nat → Nat)
  | 0 => (ds 0, va_up ds 0 (ds 0 + 1))
  | k + 1 => ((rd tx c ds k).2 (k + 1), va_up (rd tx c ds k).2 (k + 1) (min (if tx k = c then (rd tx c ds k).1 else (rd tx c ds k).1 + 1) (1 + min ((rd tx c ds k).2 (k + 1)) ((rd tx c ds k).2 k))))
def fil (ds : Nat → Nat) : Nat → Nat → Nat
  | 0 => ds
  | k + 1 => va_up (fil ds k) k k
def rds (tx : Nat → Nat) (n : Nat) (t2 : Nat → Nat) (ds : Nat → Nat) : Nat → Nat → Nat
  | 0 => fil ds (n + 1)
  | k + 1 => (rd tx (t2 k) (rds tx n t2 ds k) n).2
theorem fil_le {ds : Nat → Nat} {b : Nat} (h : ∀ i, ds i ≤ b) : ∀ k, k ≤ b + 1 → ∀ i, fil ds k i ≤ b
  | 0, _ => h
  | k + 1, hk => up_le (fil_le h k (by omega)) (Nat.le_refl _) (by omega)
theorem rd_le {tx : Nat → Nat} {c b : Nat} {ds : Nat → Nat} (h : ∀ i, ds i ≤ b) : ∀ k, (rd tx c ds k).1 ≤ b ∧ ∀ i, (rd tx c ds k).2 i ≤ b + 1 ∧ (k < i → (rd tx c ds k).2 i ≤ b)
  | 0 => ⟨h 0, fun i => by
      refine ⟨up_le h (by omega) (by have := h 0; omega) i, fun hi => ?_⟩
      show va_up ds 0 (ds 0 + 1) i ≤ b
      rw [va_up_ne _ _ (by omega)]
      exact h i⟩
  | k + 1 => by
    obtain ⟨h1, h2⟩ := rd_le (tx := tx) (c := c) h k
    refine ⟨(h2 (k + 1)).2 (by omega), fun i => ?_⟩
    have h3 := (h2 (k + 1)).2 (by omega)
    refine ⟨up_le (fun i => (h2 i).1) (by omega) ?_ i, fun hi => ?_⟩
    · have := Nat.min_le_right (if tx k = c then (rd tx c ds k).1 else (rd tx c ds k).1 + 1) (1 + min ((rd tx c ds k).2 (k + 1)) ((rd tx c ds k).2 k))
      have := Nat.min_le_left ((rd tx c ds k).2 (k + 1)) ((rd tx c ds k).2 k)
      omega
    · show va_up (rd tx c ds k).2 (k + 1) _ i ≤ b
      rw [va_up_ne _ _ (by omega)]
      exact (h2 i).2 (by omega)
/-- countFrom, count -/
def cf (ch : Nat → Option Nat) (wh : Nat → Bool) (tx : Nat → Nat) (b : Nat) (wy : Nat → Int64) : Nat → Option Nat × (Nat → Int64)
  | 0 => (some 0, va_up wy b 0)
  | j + 1 => (stp ch (cf ch wh tx b wy j).1 (tx (b + j)), if whO wh (stp ch (cf ch wh tx b wy j).1 (tx (b + j))) then va_up (cf ch wh tx b wy j).2 b ((cf ch wh tx b wy j).2 b + (cf ch wh tx b wy j).2 (b + j + 1)) else (cf ch wh tx b wy j).2)
theorem cf_none {ch : Nat → Option Nat} {wh : Nat → Bool} {tx : Nat → Nat} {b : Nat} {wy w1 : Nat → Int64} {j k : Nat} (h : cf ch wh tx b wy j = (none, w1)) (hk : j ≤ k) : cf ch wh tx b wy k = (none, w1) := by
  induction k with
  | zero => rw [show 0 = j by omega]; exact h
  | succ k ih =>
    by_cases q : j = k + 1
    · rw [← q]; exact h
    · unfold cf
      rw [ih (by omega)]
      rfl
theorem cf_lt {ch : Nat → Option Nat} {wh : Nat → Bool} {tx : Nat → Nat} {b : Nat} {wy w1 : Nat → Int64} {j z : Nat} (hr : rg ch) (h : cf ch wh tx b wy j = (some z, w1)) : z < 211 := by
  cases j with
  | zero => cases h; omega
  | succ j =>
    have h1 := congrArg Prod.fst h
    exact stp_lt hr h1
def cnt (ch : Nat → Option Nat) (wh : Nat → Bool) (tx : Nat → Nat) (n : Nat) (wy : Nat → Int64) : Nat → Nat → Int64
  | 0 => va_up wy n 1
  | k + 1 => (cf ch wh tx (n - (k + 1)) (cnt ch wh tx n wy k) (k + 1)).2
/-- chooseFrom, choose -/
def nw : Option Nat → Option Nat → Bool
  | none, _ => false
  | some _, none => true
  | some r, some b => decide (r + 1 ≤ b)
abbrev hst := Option Nat × (Nat → Option Nat) × (Nat → Nat)
def hsS (ch : Nat → Option Nat) (wh : Nat → Bool) (tx : Nat → Nat) (b j : Nat) (s : hst) : hst :=
  (stp ch s.1 (tx (b + j)), if whO wh (stp ch s.1 (tx (b + j))) = true ∧ nw (s.2.1 (b + j + 1)) (s.2.1 b) = true then (va_up s.2.1 b (some ((s.2.1 (b + j + 1)).getD 0 + 1)), va_up s.2.2 b (b + j + 1)) else (s.2.1, s.2.2))
def hs (ch : Nat → Option Nat) (wh : Nat → Bool) (tx : Nat → Nat) (b : Nat) (fw : Nat → Option Nat) (fe : Nat → Nat) : Nat → hst
  | 0 => (some 0, va_up fw b none, fe)
  | j + 1 => hsS ch wh tx b j (hs ch wh tx b fw fe j)
theorem hs_none {ch : Nat → Option Nat} {wh : Nat → Bool} {tx : Nat → Nat} {b : Nat} {fw f1 : Nat → Option Nat} {fe e1 : Nat → Nat} {j k : Nat} (h : hs ch wh tx b fw fe j = (none, f1, e1)) (hk : j ≤ k) : hs ch wh tx b fw fe k = (none, f1, e1) := by
  induction k with
  | zero => rw [show 0 = j by omega]; exact h
  | succ k ih =>
    by_cases q : j = k + 1
    · rw [← q]; exact h
    · unfold hs
      rw [ih (by omega)]
      rfl
def chs (ch : Nat → Option Nat) (wh : Nat → Bool) (tx : Nat → Nat) (n : Nat) (fw : Nat → Option Nat) (fe : Nat → Nat) : Nat → (Nat → Option Nat) × (Nat → Nat)
  | 0 => (va_up fw n (some 0), fe)
  | k + 1 => (hs ch wh tx (n - (k + 1)) (chs ch wh tx n fw fe k).1 (chs ch wh tx n fw fe k).2 (k + 1)).2
/-- write: the next end, the page, how many -/
abbrev wst3 := Nat × (Nat → Nat) × Nat
def wrS (tx fe : Nat → Nat) (k : Nat) (s : wst3) : wst3 :=
  if k = s.1 then (fe k, va_up (va_up s.2.1 s.2.2 46) (s.2.2 + 1) (tx k), s.2.2 + 1 + 1) else (s.1, va_up s.2.1 s.2.2 (tx k), s.2.2 + 1)
def wr (tx fe px : Nat → Nat) : Nat → wst3
  | 0 => (fe 0, px, 0)
  | k + 1 => wrS tx fe k (wr tx fe px k)
theorem cnt_step {ch : Nat → Option Nat} {wh : Nat → Bool} {tx : Nat → Nat} {n z : Nat} {wy w1 : Nat → Int64} (h : z + 1 ≤ n) (e : cnt ch wh tx n wy (n - (z + 1)) = w1) : cnt ch wh tx n wy (n - z) = (cf ch wh tx z w1 (n - z)).2 := by
  rw [show n - z = (n - (z + 1)) + 1 by omega]
  show (cf ch wh tx (n - (n - (z + 1) + 1)) (cnt ch wh tx n wy (n - (z + 1))) (n - (z + 1) + 1)).2 = _
  rw [show n - (n - (z + 1) + 1) = z by omega, e]
theorem hs_lt {ch : Nat → Option Nat} {wh : Nat → Bool} {tx : Nat → Nat} {b : Nat} {fw f1 : Nat → Option Nat} {fe q1 : Nat → Nat} {j z : Nat} (hr : rg ch) (h : hs ch wh tx b fw fe j = (some z, f1, q1)) : z < 211 := by
  cases j with
  | zero => cases h; omega
  | succ j =>
    have h1 := congrArg Prod.fst h
    exact stp_lt hr h1
theorem nw_some {r b : Option Nat} (h : nw r b = true) : ∃ q, r = some q := by
  cases r with
  | none => cases h
  | some q => exact ⟨q, rfl⟩
theorem upO_le {f : Nat → Option Nat} {b k v : Nat} (h : ∀ i z, f i = some z → z ≤ b) (hv : v ≤ b) : ∀ i z, va_up f k (some v) i = some z → z ≤ b := by
  intro i z hz
  unfold va_up at hz
  split at hz
  · cases hz; exact hv
  · exact h i z hz
theorem hs_le {ch : Nat → Option Nat} {wh : Nat → Bool} {tx : Nat → Nat} {b B : Nat} {fw : Nat → Option Nat} {fe : Nat → Nat} (h : ∀ i z, i ≠ b → fw i = some z → z ≤ B) : ∀ (j : Nat) (i z : Nat), (hs ch wh tx b fw fe j).2.1 i = some z → z ≤ B + 1 := by
  have key : ∀ j, (∀ i z, i ≠ b → (hs ch wh tx b fw fe j).2.1 i = some z → z ≤ B) ∧ ∀ z, (hs ch wh tx b fw fe j).2.1 b = some z → z ≤ B + 1 := by
    intro j
    induction j with
    | zero =>
      refine ⟨fun i z hi hz => ?_, fun z hz => ?_⟩
      · have hz : va_up fw b none i = some z := hz
        rw [va_up_ne _ _ hi] at hz
        exact h i z hi hz
      · have hz : va_up fw b none b = some z := hz
        rw [va_up_self] at hz
        cases hz
    | succ j ih =>
      show (∀ i z, i ≠ b → (hsS ch wh tx b j (hs ch wh tx b fw fe j)).2.1 i = some z → z ≤ B) ∧ ∀ z, (hsS ch wh tx b j (hs ch wh tx b fw fe j)).2.1 b = some z → z ≤ B + 1
      generalize hs ch wh tx b fw fe j = s at ih
      obtain ⟨o1, f1, q1⟩ := s
      unfold hsS
      by_cases q : whO wh (stp ch o1 (tx (b + j))) = true ∧ nw (f1 (b + j + 1)) (f1 b) = true
      · simp only [q, and_self, if_true]
        obtain ⟨r, hr⟩ := nw_some q.2
        refine ⟨fun i z hi hz => ?_, fun z hz => ?_⟩
        · rw [va_up_ne _ _ hi] at hz
          exact ih.1 i z hi hz
        · rw [va_up_self, hr] at hz
          cases hz
          have := ih.1 _ _ (show b + j + 1 ≠ b by omega) hr
          simpa using this
      · simp only [q, if_false]
        exact ih
  intro j i z hz
  by_cases hi : i = b
  · subst hi; exact (key j).2 z hz
  · have := (key j).1 i z hi hz; omega
theorem chs_step {ch : Nat → Option Nat} {wh : Nat → Bool} {tx : Nat → Nat} {n z : Nat} {fw f1 : Nat → Option Nat} {fe q1 : Nat → Nat} (h : z + 1 ≤ n) (e : chs ch wh tx n fw fe (n - (z + 1)) = (f1, q1)) : chs ch wh tx n fw fe (n - z) = (hs ch wh tx z f1 q1 (n - z)).2 := by
  rw [show n - z = (n - (z + 1)) + 1 by omega]
  show (hs ch wh tx (n - (n - (z + 1) + 1)) (chs ch wh tx n fw fe (n - (z + 1))).1 (chs ch wh tx n fw fe (n - (z + 1))).2 (n - (z + 1) + 1)).2 = _
  rw [show n - (n - (z + 1) + 1) = z by omega, e]
theorem whO_t {wh : Nat → Bool} {o : Option Nat} (h : whO wh o = true) : ∃ z, o = some z := by
  cases o with
  | none => cases h
  | some z => exact ⟨z, rfl⟩
/-- the face: isWord, longest, findEnding, scan -/
def alw (tx : Nat → Nat) : Nat → Bool
  | 0 => true
  | k + 1 => alw tx k && (ltr (tx k)).isSome
theorem alw_no {tx : Nat → Nat} {k n : Nat} (h : ltr (tx k) = none) (hk : k < n) : alw tx n = false := by
  induction n with
  | zero => omega
  | succ n ih =>
    show (alw tx n && (ltr (tx n)).isSome) = false
    by_cases q : k = n
    · rw [← q, h]; simp
    · rw [ih (by omega)]; rfl
theorem alw_ltr {tx : Nat → Nat} {k n : Nat} (h : alw tx n = true) (hk : k < n) : ltr (tx k) ≠ none := by
  intro q
  rw [alw_no q hk] at h
  cases h
def lgs (ch : Nat → Option Nat) (wh : Nat → Bool) (hb : Nat → Nat) (tx : Nat → Nat) : Nat → Option Nat × Option Nat
  | 0 => (none, some 0)
  | k + 1 => (if whO wh (stp ch (lgs ch wh hb tx k).2 (tx k)) then (stp ch (lgs ch wh hb tx k).2 (tx k)).map hb else (lgs ch wh hb tx k).1, stp ch (lgs ch wh hb tx k).2 (tx k))
theorem lgs_none {ch : Nat → Option Nat} {wh : Nat → Bool} {hb tx : Nat → Nat} {b : Option Nat} {j k : Nat} (h : lgs ch wh hb tx j = (b, none)) (hk : j ≤ k) : lgs ch wh hb tx k = (b, none) := by
  induction k with
  | zero => rw [show 0 = j by omega]; exact h
  | succ k ih =>
    by_cases q : j = k + 1
    · rw [← q]; exact h
    · unfold lgs
      rw [ih (by omega)]
      rfl
theorem lgs_lt {ch : Nat → Option Nat} {wh : Nat → Bool} {hb tx : Nat → Nat} {b : Option Nat} {j z : Nat} (hr : rg ch) (h : lgs ch wh hb tx j = (b, some z)) : z < 211 := by
  cases j with
  | zero => cases h; omega
  | succ j =>
    have h1 := congrArg Prod.snd h
    exact stp_lt hr h1
abbrev fst4 := Option Nat × (Nat → Nat) × (Nat → Nat) × Nat
def feS (sw : Nat → Option Nat) (hb : Nat → Nat) (b : Nat) (s : fst4) : fst4 := match s with
  | (none, fu, fv, fk) => (none, fu, fv, fk)
  | (some a, fu, fv, fk) => (sw a, va_up fu fk (hb a), va_up fv fk b, fk + 1)
def fed (sw : Nat → Option Nat) (hb : Nat → Nat) (b : Nat) (s : fst4) : Nat → fst4
  | 0 => s
  | k + 1 => feS sw hb b (fed sw hb b s k)
theorem fed_none {sw : Nat → Option Nat} {hb fu fv : Nat → Nat} {b fk j k : Nat} {s : fst4} (h : fed sw hb b s j = (none, fu, fv, fk)) (hk : j ≤ k) : fed sw hb b s k = (none, fu, fv, fk) := by
  induction k with
  | zero => rw [show 0 = j by omega]; exact h
  | succ k ih =>
    by_cases q : j = k + 1
    · rw [← q]; exact h
    · show feS sw hb b (fed sw hb b s k) = _
      rw [ih (by omega)]
      rfl
def at0 (wh : Nat → Bool) (sw : Nat → Option Nat) (p : Nat) : Option Nat := if wh p then some p else sw p
abbrev sst := Nat × (Nat → Nat) × (Nat → Nat) × Nat
noncomputable def scS (ch : Nat → Option Nat) (wh : Nat → Bool) (hb ln : Nat → Nat) (sw : Nat → Option Nat) (c b : Nat) (s : sst) : sst :=
  (onw ch ln s.1 c, (fed sw hb b (at0 wh sw (onw ch ln s.1 c), s.2.1, s.2.2.1, s.2.2.2) n7).2)
noncomputable def scs (ch : Nat → Option Nat) (wh : Nat → Bool) (hb ln : Nat → Nat) (sw : Nat → Option Nat) (tx fu fv : Nat → Nat) : Nat → sst
  | 0 => (0, fu, fv, 0)
  | k + 1 => scS ch wh hb ln sw (tx k) (k + 1) (scs ch wh hb ln sw tx fu fv k)
theorem fed_k {sw : Nat → Option Nat} {hb : Nat → Nat} {b : Nat} {s : fst4} : ∀ k, (fed sw hb b s k).2.2.2 ≤ s.2.2.2 + k
  | 0 => Nat.le_refl _
  | k + 1 => by
    have ih := fed_k (sw := sw) (hb := hb) (b := b) (s := s) k
    show (feS sw hb b (fed sw hb b s k)).2.2.2 ≤ _
    generalize fed sw hb b s k = t at ih
    obtain ⟨o, fu, fv, fk⟩ := t
    cases o with
    | none => show fk ≤ _; have : fk ≤ s.2.2.2 + k := ih; omega
    | some a => show fk + 1 ≤ _; have : fk ≤ s.2.2.2 + k := ih; omega
theorem onw_lt {ch : Nat → Option Nat} {ln : Nat → Nat} {p c : Nat} (hr : rg ch) : onw ch ln p c < 211 := by
  unfold onw
  split
  · omega
  · exact fol_lt hr
theorem at0_lt {wh : Nat → Bool} {sw : Nat → Option Nat} {p z : Nat} (hs : rg sw) (hp : p < 211) (h : at0 wh sw p = some z) : z < 211 := by
  unfold at0 at h
  split at h
  · cases h; exact hp
  · exact hs _ _ h
/-- near: the spelled row, its length, the distances, what is found -/
abbrev nst6 := (Nat → Nat) × Nat × (Nat → Nat) × (Nat → Nat) × (Nat → Nat) × Nat
noncomputable def nrS (ch : Nat → Option Nat) (hf hb tx : Nat → Nat) (n j i : Nat) (s : nst6) : nst6 := match s with
  | (qx, _, ds, fu, fv, fk) => if rds (spl ch hf hb i qx n7).2.2.1 (spl ch hf hb i qx n7).2.2.2 tx ds n (spl ch hf hb i qx n7).2.2.2 ≤ j then ((spl ch hf hb i qx n7).2.2.1, (spl ch hf hb i qx n7).2.2.2, rds (spl ch hf hb i qx n7).2.2.1 (spl ch hf hb i qx n7).2.2.2 tx ds n, va_up fu fk i, va_up fv fk (rds (spl ch hf hb i qx n7).2.2.1 (spl ch hf hb i qx n7).2.2.2 tx ds n (spl ch hf hb i qx n7).2.2.2), fk + 1) else ((spl ch hf hb i qx n7).2.2.1, (spl ch hf hb i qx n7).2.2.2, rds (spl ch hf hb i qx n7).2.2.1 (spl ch hf hb i qx n7).2.2.2 tx ds n, fu, fv, fk)
noncomputable def nrs (ch : Nat → Option Nat) (hf hb tx : Nat → Nat) (n j : Nat) (s : nst6) : Nat → nst6
  | 0 => s
  | i + 1 => nrS ch hf hb tx n j i (nrs ch hf hb tx n j s i)
theorem spl_ok {ch : Nat → Option Nat} {hf hb : Nat → Nat} {i : Nat} {tx : Nat → Nat} (h : ∀ k, tx k < 65536) : ∀ k, (spl ch hf hb i tx k).2.2.2 ≤ k ∧ (∀ x, (spl ch hf hb i tx k).2.1 = some x → x < 8) ∧ ∀ z, (spl ch hf hb i tx k).2.2.1 z < 65536
  | 0 => ⟨Nat.le_refl _, fun x hx => ltt_lt hx, h⟩
  | k + 1 => by
    have ih := spl_ok (ch := ch) (hf := hf) (hb := hb) (i := i) h k
    show (spS ch hf hb i (spl ch hf hb i tx k)).2.2.2 ≤ k + 1 ∧ (∀ x, (spS ch hf hb i (spl ch hf hb i tx k)).2.1 = some x → x < 8) ∧ ∀ z, (spS ch hf hb i (spl ch hf hb i tx k)).2.2.1 z < 65536
    generalize spl ch hf hb i tx k = s at ih
    obtain ⟨p, o, t, n⟩ := s
    obtain ⟨h1, h2, h3⟩ := ih
    cases o with
    | none => exact ⟨by show n ≤ k + 1; have : n ≤ k := h1; omega, fun x hx => (by cases hx), h3⟩
    | some x => exact ⟨by show n + 1 ≤ k + 1; have : n ≤ k := h1; omega, fun y hy => ltt_lt hy, up_lt h3 (by have : x < 8 := h2 x rfl; omega)⟩
theorem rd_ok {tx : Nat → Nat} {c b n : Nat} {ds : Nat → Nat} (h : ∀ i, i ≤ n → ds i ≤ b) : ∀ k, k ≤ n → (rd tx c ds k).1 ≤ b ∧ (∀ i, i ≤ n → (rd tx c ds k).2 i ≤ b + 1 ∧ (k < i → (rd tx c ds k).2 i ≤ b)) ∧ ∀ i, k < i → (rd tx c ds k).2 i = ds i
  | 0, _ => ⟨h 0 (by omega), fun i hi => by
      have e : (rd tx c ds 0).2 i = va_up ds 0 (ds 0 + 1) i := rfl
      by_cases q : i = 0
      · subst q
        rw [e, va_up_self]
        have := h 0 (by omega)
        exact ⟨by omega, fun z => by omega⟩
      · rw [e, va_up_ne _ _ q]
        have := h i hi
        exact ⟨by omega, fun _ => this⟩, fun i hi => va_up_ne _ _ (by omega)⟩
  | k + 1, hk => by
    obtain ⟨h1, h2, h3⟩ := rd_ok (tx := tx) (c := c) h k (by omega)
    have h4 := (h2 (k + 1) hk).2 (by omega)
    have e : ∀ i, (rd tx c ds (k + 1)).2 i = va_up (rd tx c ds k).2 (k + 1) (min (if tx k = c then (rd tx c ds k).1 else (rd tx c ds k).1 + 1) (1 + min ((rd tx c ds k).2 (k + 1)) ((rd tx c ds k).2 k))) i := fun i => rfl
    refine ⟨h4, fun i hi => ?_, fun i hi => ?_⟩
    · by_cases q : i = k + 1
      · subst q
        rw [e, va_up_self]
        refine ⟨?_, fun z => by omega⟩
        have := Nat.min_le_right (if tx k = c then (rd tx c ds k).1 else (rd tx c ds k).1 + 1) (1 + min ((rd tx c ds k).2 (k + 1)) ((rd tx c ds k).2 k))
        have := Nat.min_le_left ((rd tx c ds k).2 (k + 1)) ((rd tx c ds k).2 k)
        omega
      · rw [e, va_up_ne _ _ q]
        exact ⟨(h2 i hi).1, fun z => (h2 i hi).2 (by omega)⟩
    · rw [e, va_up_ne _ _ (by omega)]
      exact h3 i (by omega)
theorem fil_in {ds : Nat → Nat} : ∀ k i, fil ds k i = if i < k then i else ds i
  | 0, i => by rw [if_neg (by omega)]; rfl
  | k + 1, i => by
    show va_up (fil ds k) k k i = _
    by_cases q : i = k
    · subst q; rw [va_up_self, if_pos (by omega)]
    · rw [va_up_ne _ _ q, fil_in k i]
      by_cases z : i < k
      · rw [if_pos z, if_pos (by omega)]
      · rw [if_neg z, if_neg (by omega)]
theorem rds_ok {tx t2 ds : Nat → Nat} {n : Nat} : ∀ k, (∀ i, i ≤ n → rds tx n t2 ds k i ≤ n + k) ∧ ∀ i, n < i → rds tx n t2 ds k i = ds i
  | 0 => ⟨fun i hi => by show fil ds (n + 1) i ≤ n + 0; rw [fil_in, if_pos (by omega)]; omega, fun i hi => by show fil ds (n + 1) i = ds i; rw [fil_in, if_neg (by omega)]⟩
  | k + 1 => by
    obtain ⟨h1, h2⟩ := rds_ok (tx := tx) (t2 := t2) (ds := ds) (n := n) k
    obtain ⟨-, h3, h4⟩ := rd_ok (tx := tx) (c := t2 k) h1 n (Nat.le_refl _)
    exact ⟨fun i hi => (h3 i hi).1, fun i hi => (h4 i hi).trans (h2 i hi)⟩
theorem rds_le {tx t2 ds : Nat → Nat} {n k : Nat} (hn : n ≤ 7) (hk : k ≤ 60) (h : ∀ i, ds i ≤ 100) : ∀ i, rds tx n t2 ds k i ≤ 100 := by
  intro i
  by_cases q : i ≤ n
  · have := (rds_ok (tx := tx) (t2 := t2) (ds := ds) (n := n) k).1 i q
    omega
  · rw [(rds_ok (tx := tx) (t2 := t2) (ds := ds) (n := n) k).2 i (by omega)]
    exact h i
theorem sub_e1 {n b j : Nat} (h1 : n ≤ b + j) (h2 : b + j ≤ n) : n - b = j := by omega
theorem sub_e2 {n b j : Nat} (h2 : b + j ≤ n) : j ≤ n - b := by omega
theorem nw_ss (r b : Nat) : nw (some r) (some b) = decide (r + 1 ≤ b) := rfl
