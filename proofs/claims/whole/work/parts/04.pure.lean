/-! What the class's methods do, as functions of numbers: letters, the tree's readers and writers -/
/-- numbers that no reduction opens -/
noncomputable def n7 : Nat := Classical.choose (⟨7, rfl⟩ : ∃ n : Nat, n = 7)
theorem n7_eq : n7 = 7 := Classical.choose_spec (⟨7, rfl⟩ : ∃ n : Nat, n = 7)
noncomputable def n8 : Nat := Classical.choose (⟨8, rfl⟩ : ∃ n : Nat, n = 8)
theorem n8_eq : n8 = 8 := Classical.choose_spec (⟨8, rfl⟩ : ∃ n : Nat, n = 8)
noncomputable def n211 : Nat := Classical.choose (⟨211, rfl⟩ : ∃ n : Nat, n = 211)
theorem n211_eq : n211 = 211 := Classical.choose_spec (⟨211, rfl⟩ : ∃ n : Nat, n = 211)
def ltr (c : Nat) : Option Nat := if 97 ≤ c ∧ c < 105 then some (c - 97) else none
def lz (c : Nat) : Nat := (ltr c).getD 0
def whO (wh : Nat → Bool) : Option Nat → Bool
  | none => false
  | some p => wh p
def stp (ch : Nat → Option Nat) (o : Option Nat) (c : Nat) : Option Nat := match o, ltr c with
  | some p, some q => ch (p * 8 + q)
  | _, _ => none
def fwk (ch : Nat → Option Nat) (tx : Nat → Nat) : Nat → Option Nat
  | 0 => some 0
  | k + 1 => stp ch (fwk ch tx k) (tx k)
def rg (ch : Nat → Option Nat) : Prop := ∀ i j, ch i = some j → j < 211
theorem lt31 {n : Nat} (h : n < 211) : n < 2147483648 := by omega
theorem ltr_lt {c q : Nat} (h : ltr c = some q) : q < 8 := by
  unfold ltr at h
  split at h
  · cases h; omega
  · cases h
theorem ltr_some {c : Nat} (h1 : 97 ≤ c) (h2 : c < 105) : ltr c = some (c - 97) := if_pos ⟨h1, h2⟩
theorem ltr_none {c : Nat} (h : ¬ (97 ≤ c ∧ c < 105)) : ltr c = none := if_neg h
theorem ltr_eq {c q : Nat} (h : ltr c = some q) : c = 97 + q := by
  unfold ltr at h
  split at h
  · cases h; omega
  · cases h
theorem lz_lt (c : Nat) : lz c < 8 := by
  unfold lz
  cases h : ltr c with
  | none => simp
  | some q => simpa using ltr_lt h
theorem lz_eq {c : Nat} (h : ltr c ≠ none) : oN (ltr c) = nI (lz c) := by
  unfold lz
  cases hc : ltr c with
  | none => exact absurd hc h
  | some q => rfl
theorem stp_n (ch : Nat → Option Nat) (c : Nat) : stp ch none c = none := rfl
theorem stp_c {ch : Nat → Option Nat} {o : Option Nat} {c : Nat} (h : ltr c = none) : stp ch o c = none := by
  unfold stp
  rw [h]
  cases o <;> rfl
theorem stp_s {ch : Nat → Option Nat} {z c q : Nat} (h : ltr c = some q) : stp ch (some z) c = ch (z * 8 + q) := by
  unfold stp
  rw [h]
theorem stp_lt {ch : Nat → Option Nat} {o : Option Nat} {c n : Nat} (hr : rg ch) (h : stp ch o c = some n) : n < 211 := by
  cases o with
  | none => cases h
  | some z =>
    cases hc : ltr c with
    | none => rw [stp_c hc] at h; cases h
    | some q => rw [stp_s hc] at h; exact hr _ _ h
theorem fwk_lt {ch : Nat → Option Nat} {tx : Nat → Nat} {k n : Nat} (hr : rg ch) (h : fwk ch tx k = some n) : n < 211 := by
  cases k with
  | zero => cases h; omega
  | succ k => exact stp_lt hr h
theorem fwk_none {ch : Nat → Option Nat} {tx : Nat → Nat} {k n : Nat} (h : fwk ch tx k = none) (hk : k ≤ n) : fwk ch tx n = none := by
  induction n with
  | zero => rw [show 0 = k by omega]; exact h
  | succ n ih =>
    by_cases e : k = n + 1
    · rw [← e]; exact h
    · show stp ch (fwk ch tx n) (tx n) = none
      rw [ih (by omega), stp_n]
theorem whO_s (wh : Nat → Bool) (p : Nat) : whO wh (some p) = wh p := rfl
/-- trace: the prefixes that stand in the tree -/
def tro (ch : Nat → Option Nat) (tx : Nat → Nat) (n : Nat) : Nat → Option Nat
  | 0 => some 0
  | k + 1 => if k < n then stp ch (tro ch tx n k) (tx k) else none
def trp (ch : Nat → Option Nat) (tx : Nat → Nat) (n : Nat) (pa : Nat → Nat) : Nat → Nat → Nat
  | 0 => pa
  | k + 1 => match tro ch tx n k with
    | some z => va_up (trp ch tx n pa k) k z
    | none => trp ch tx n pa k
def trc (ch : Nat → Option Nat) (tx : Nat → Nat) (n : Nat) : Nat → Nat
  | 0 => 0
  | k + 1 => match tro ch tx n k with
    | some _ => k + 1
    | none => trc ch tx n k
theorem tro_lt {ch : Nat → Option Nat} {tx : Nat → Nat} {n k z : Nat} (hr : rg ch) (h : tro ch tx n k = some z) : z < 211 := by
  cases k with
  | zero => cases h; omega
  | succ k =>
    unfold tro at h
    split at h
    · exact stp_lt hr h
    · cases h
theorem tro_none {ch : Nat → Option Nat} {tx : Nat → Nat} {n k j : Nat} (h : tro ch tx n k = none) (hk : k ≤ j) : tro ch tx n j = none := by
  induction j with
  | zero => rw [show 0 = k by omega]; exact h
  | succ j ih =>
    by_cases e : k = j + 1
    · rw [← e]; exact h
    · show (if j < n then stp ch (tro ch tx n j) (tx j) else none) = none
      rw [ih (by omega), stp_n]
      split <;> rfl
theorem trp_none {ch : Nat → Option Nat} {tx : Nat → Nat} {n k j : Nat} {pa : Nat → Nat} (h : tro ch tx n k = none) (hk : k ≤ j) : trp ch tx n pa j = trp ch tx n pa k ∧ trc ch tx n j = trc ch tx n k := by
  induction j with
  | zero => rw [show k = 0 by omega]; exact ⟨rfl, rfl⟩
  | succ j ih =>
    by_cases e : k = j + 1
    · rw [← e]; exact ⟨rfl, rfl⟩
    · have h1 := tro_none h (show k ≤ j by omega)
      have h2 := ih (by omega)
      rw [trp, trc, h1]
      exact h2
/-- the first free cell -/
def fcl (hf : Nat → Nat) : Nat → Nat → Nat
  | 0, c => c
  | f + 1, c => if c < 210 ∧ hf c ≠ 0 then fcl hf f (c + 1) else c
def fcell (hf : Nat → Nat) : Nat := fcl hf 210 1
theorem fcl_end {hf : Nat → Nat} {c : Nat} (h : ¬ (c < 210 ∧ hf c ≠ 0)) : ∀ f, fcl hf f c = c
  | 0 => rfl
  | f + 1 => if_neg h
theorem fcl_next {hf : Nat → Nat} {c f : Nat} (h : c < 210 ∧ hf c ≠ 0) : fcl hf (f + 1) c = fcl hf f (c + 1) := if_pos h
theorem fcl_le {hf : Nat → Nat} : ∀ (f c : Nat), 1 ≤ c → c ≤ 210 → 1 ≤ fcl hf f c ∧ fcl hf f c ≤ 210
  | 0, c, h1, h2 => ⟨h1, h2⟩
  | f + 1, c, h1, h2 => by
    by_cases h : c < 210 ∧ hf c ≠ 0
    · rw [fcl_next h]
      exact fcl_le f (c + 1) (by omega) (by omega)
    · rw [fcl_end h]
      exact ⟨h1, h2⟩
theorem fcell_le (hf : Nat → Nat) : 1 ≤ fcell hf ∧ fcell hf ≤ 210 := fcl_le _ _ (by omega) (by omega)
theorem rg_up {ch : Nat → Option Nat} (h : rg ch) {c q : Nat} (hq : q < 211) : rg (va_up ch c (some q)) := by
  intro i j hj
  unfold va_up at hj
  split at hj
  · cases hj; exact hq
  · exact h i j hj
theorem rg_upN {ch : Nat → Option Nat} (h : rg ch) {c : Nat} : rg (va_up ch c none) := by
  intro i j hj
  unfold va_up at hj
  split at hj
  · cases hj
  · exact h i j hj
theorem up_le {f : Nat → Nat} {b b' k v : Nat} (h : ∀ i, f i ≤ b) (hb : b ≤ b') (hv : v ≤ b') : ∀ i, va_up f k v i ≤ b' := by
  intro i
  unfold va_up
  split
  · exact hv
  · exact Nat.le_trans (h i) hb
theorem up_lt {f : Nat → Nat} {b k v : Nat} (h : ∀ i, f i < b) (hv : v < b) : ∀ i, va_up f k v i < b := by
  intro i
  unfold va_up
  split
  · exact hv
  · exact h i
/-- grow, cut: a place, the children, the counts -/
abbrev gst := Nat × (Nat → Option Nat) × (Nat → Nat)
def grS (c : Nat) (s : gst) : gst := match s.2.1 (s.1 * 8 + lz c) with
  | some q => (q, s.2.1, va_up s.2.2 q (s.2.2 q + 1))
  | none => (fcell s.2.2, va_up s.2.1 (s.1 * 8 + lz c) (some (fcell s.2.2)), va_up s.2.2 (fcell s.2.2) (s.2.2 (fcell s.2.2) + 1))
def grw (tx : Nat → Nat) (ch : Nat → Option Nat) (hf : Nat → Nat) : Nat → gst
  | 0 => (0, ch, va_up hf 0 (hf 0 + 1))
  | k + 1 => grS (tx k) (grw tx ch hf k)
def ctS (c : Nat) (s : gst) : gst :=
  let q := (s.2.1 (s.1 * 8 + lz c)).getD 0
  let hf := va_up s.2.2 q (s.2.2 q - 1)
  (q, if hf q = 0 then va_up s.2.1 (s.1 * 8 + lz c) none else s.2.1, hf)
def ctw (tx : Nat → Nat) (ch : Nat → Option Nat) (hf : Nat → Nat) : Nat → gst
  | 0 => (0, ch, va_up hf 0 (hf 0 - 1))
  | k + 1 => ctS (tx k) (ctw tx ch hf k)
/-- follow -/
def flw (ch : Nat → Option Nat) (ln : Nat → Nat) (q : Nat) : Nat → Nat → Nat
  | 0, a => a
  | f + 1, a => if a ≠ 0 ∧ ch (a * 8 + q) = none then flw ch ln q f (ln a) else a
def fol (ch : Nat → Option Nat) (ln : Nat → Nat) (p q : Nat) : Nat := (ch (flw ch ln q 7 p * 8 + q)).getD 0
theorem flw_end {ch : Nat → Option Nat} {ln : Nat → Nat} {q a : Nat} (h : ¬ (a ≠ 0 ∧ ch (a * 8 + q) = none)) : ∀ f, flw ch ln q f a = a
  | 0 => rfl
  | f + 1 => if_neg h
theorem flw_next {ch : Nat → Option Nat} {ln : Nat → Nat} {q a f : Nat} (h : a ≠ 0 ∧ ch (a * 8 + q) = none) : flw ch ln q (f + 1) a = flw ch ln q f (ln a) := if_pos h
theorem flw_lt {ch : Nat → Option Nat} {ln : Nat → Nat} {q : Nat} (hl : ∀ i, ln i < 211) : ∀ (f a : Nat), a < 211 → flw ch ln q f a < 211
  | 0, _, h => h
  | f + 1, a, h => by
    by_cases e : a ≠ 0 ∧ ch (a * 8 + q) = none
    · rw [flw_next e]; exact flw_lt hl f _ (hl a)
    · rw [flw_end e]; exact h
theorem fol_lt {ch : Nat → Option Nat} {ln : Nat → Nat} {p q : Nat} (hr : rg ch) : fol ch ln p q < 211 := by
  unfold fol
  cases h : ch (flw ch ln q 7 p * 8 + q) with
  | none => simp
  | some z => simpa using hr _ _ h
def onw (ch : Nat → Option Nat) (ln : Nat → Nat) (p c : Nat) : Nat := match ltr c with
  | none => 0
  | some q => fol ch ln p q
/-- linkChildren: before, count, the four rows -/
abbrev lst := Nat × Nat × (Nat → Nat) × (Nat → Nat) × (Nat → Option Nat) × (Nat → Nat)
def lkS (ch : Nat → Option Nat) (wh : Nat → Bool) (hf : Nat → Nat) (p x : Nat) (s : lst) : lst := match s with
  | (bf, ct, hb, ln, sw, od) => if ct < 211 then (match ch (p * 8 + x) with
    | none => (bf, ct, hb, ln, sw, od)
    | some q => (bf + hf q, ct + 1, va_up hb q bf, va_up ln q (if p = 0 then 0 else fol ch ln (ln p) x), va_up sw q (if wh (if p = 0 then 0 else fol ch ln (ln p) x) then some (if p = 0 then 0 else fol ch ln (ln p) x) else sw (if p = 0 then 0 else fol ch ln (ln p) x)), va_up od ct q))
    else (bf, ct, hb, ln, sw, od)
def lks (ch : Nat → Option Nat) (wh : Nat → Bool) (hf : Nat → Nat) (p : Nat) (s : lst) : Nat → lst
  | 0 => s
  | x + 1 => lkS ch wh hf p x (lks ch wh hf p s x)
theorem lkS_full {ch : Nat → Option Nat} {wh : Nat → Bool} {hf : Nat → Nat} {p x bf ct : Nat} {hb ln od : Nat → Nat} {sw : Nat → Option Nat} (h : ¬ ct < 211) : lkS ch wh hf p x (bf, ct, hb, ln, sw, od) = (bf, ct, hb, ln, sw, od) := if_neg h
theorem lkS_none {ch : Nat → Option Nat} {wh : Nat → Bool} {hf : Nat → Nat} {p x bf ct : Nat} {hb ln od : Nat → Nat} {sw : Nat → Option Nat} (h : ch (p * 8 + x) = none) : lkS ch wh hf p x (bf, ct, hb, ln, sw, od) = (bf, ct, hb, ln, sw, od) := by
  unfold lkS
  simp only [h]
  split <;> rfl
theorem lkS_some {ch : Nat → Option Nat} {wh : Nat → Bool} {hf : Nat → Nat} {p x bf ct q s : Nat} {hb ln od : Nat → Nat} {sw : Nat → Option Nat} (hc : ct < 211) (h : ch (p * 8 + x) = some q) (hs : (if p = 0 then 0 else fol ch ln (ln p) x) = s) : lkS ch wh hf p x (bf, ct, hb, ln, sw, od) = (bf + hf q, ct + 1, va_up hb q bf, va_up ln q s, va_up sw q (if wh s then some s else sw s), va_up od ct q) := by
  unfold lkS
  simp only [h, hs, hc, if_true]
theorem lks_full {ch : Nat → Option Nat} {wh : Nat → Bool} {hf : Nat → Nat} {p x y bf ct : Nat} {s : lst} {hb ln od : Nat → Nat} {sw : Nat → Option Nat} (h : ¬ ct < 211) (e : lks ch wh hf p s x = (bf, ct, hb, ln, sw, od)) (hy : x ≤ y) : lks ch wh hf p s y = (bf, ct, hb, ln, sw, od) := by
  induction y with
  | zero => rw [show 0 = x by omega]; exact e
  | succ y ih =>
    by_cases q : x = y + 1
    · rw [← q]; exact e
    · show lkS ch wh hf p y (lks ch wh hf p s y) = _
      rw [ih (by omega), lkS_full h]
/-- relink -/
abbrev rst := Nat × (Nat → Nat) × (Nat → Nat) × (Nat → Option Nat) × (Nat → Nat)
noncomputable def rlS (ch : Nat → Option Nat) (wh : Nat → Bool) (hf : Nat → Nat) (k : Nat) (s : rst) : rst := match s with
  | (kn, hb, ln, sw, od) => if k < kn then (lks ch wh hf (od k) (hb (od k) + (wh (od k)).toNat, kn, hb, ln, sw, od) n8).2 else (kn, hb, ln, sw, od)
noncomputable def rls (ch : Nat → Option Nat) (wh : Nat → Bool) (hf hb ln : Nat → Nat) (sw : Nat → Option Nat) (od : Nat → Nat) : Nat → rst
  | 0 => (1, hb, ln, sw, va_up od 0 0)
  | k + 1 => rlS ch wh hf k (rls ch wh hf hb ln sw od k)
theorem rls_end {ch : Nat → Option Nat} {wh : Nat → Bool} {hf hb ln : Nat → Nat} {sw : Nat → Option Nat} {od : Nat → Nat} {k j kn : Nat} {hb1 ln1 od1 : Nat → Nat} {sw1 : Nat → Option Nat} (e : rls ch wh hf hb ln sw od k = (kn, hb1, ln1, sw1, od1)) (h : kn ≤ k) (hj : k ≤ j) : rls ch wh hf hb ln sw od j = (kn, hb1, ln1, sw1, od1) := by
  induction j with
  | zero => rw [show 0 = k by omega]; exact e
  | succ j ih =>
    by_cases q : k = j + 1
    · rw [← q]; exact e
    · show rlS ch wh hf j (rls ch wh hf hb ln sw od j) = _
      rw [ih (by omega)]
      exact if_neg (by omega)
/-- letterTowards: the first letter from x on -/
def ltOk (ch : Nat → Option Nat) (hf hb : Nat → Nat) (i p x : Nat) : Bool := match ch (p * 8 + x) with
  | none => false
  | some q => decide (hb q ≤ i) && decide (i < hb q + hf q)
def ltw (ch : Nat → Option Nat) (hf hb : Nat → Nat) (i p : Nat) : Nat → Nat → Option Nat
  | 0, _ => none
  | f + 1, x => if ltOk ch hf hb i p x then some x else ltw ch hf hb i p f (x + 1)
def ltt (ch : Nat → Option Nat) (hf hb : Nat → Nat) (i p : Nat) : Option Nat := ltw ch hf hb i p 8 0
theorem ltw_some {ch : Nat → Option Nat} {hf hb : Nat → Nat} {i p : Nat} : ∀ {f x y : Nat}, ltw ch hf hb i p f x = some y → x ≤ y ∧ y < x + f ∧ ltOk ch hf hb i p y = true
  | 0, _, _, h => by cases h
  | f + 1, x, y, h => by
    unfold ltw at h
    split at h
    · rename_i hq
      cases h
      exact ⟨by omega, by omega, hq⟩
    · have := ltw_some h
      exact ⟨by omega, by omega, this.2.2⟩
theorem ltt_lt {ch : Nat → Option Nat} {hf hb : Nat → Nat} {i p y : Nat} (h : ltt ch hf hb i p = some y) : y < 8 := by
  have := ltw_some h
  omega
theorem ltt_ch {ch : Nat → Option Nat} {hf hb : Nat → Nat} {i p y : Nat} (h : ltt ch hf hb i p = some y) : ∃ q, ch (p * 8 + y) = some q ∧ hb q ≤ i ∧ i < hb q + hf q := by
  have h1 := (ltw_some h).2.2
  unfold ltOk at h1
  cases hc : ch (p * 8 + y) with
  | none => rw [hc] at h1; cases h1
  | some q =>
    rw [hc] at h1
    simp at h1
    exact ⟨q, rfl, h1.1, h1.2⟩
theorem ltOk_n {ch : Nat → Option Nat} {hf hb : Nat → Nat} {i p x : Nat} (h : ch (p * 8 + x) = none) : ltOk ch hf hb i p x = false := by
  unfold ltOk; rw [h]
theorem ltOk_s {ch : Nat → Option Nat} {hf hb : Nat → Nat} {i p x q : Nat} (h : ch (p * 8 + x) = some q) : ltOk ch hf hb i p x = (decide (hb q ≤ i) && decide (i < hb q + hf q)) := by
  unfold ltOk; rw [h]
theorem ltw_no {ch : Nat → Option Nat} {hf hb : Nat → Nat} {i p f x : Nat} (h : ltOk ch hf hb i p x = false) : ltw ch hf hb i p (f + 1) x = ltw ch hf hb i p f (x + 1) := by
  show (if ltOk ch hf hb i p x then _ else _) = _
  rw [h]; rfl
theorem ltw_yes {ch : Nat → Option Nat} {hf hb : Nat → Nat} {i p f x : Nat} (h : ltOk ch hf hb i p x = true) : ltw ch hf hb i p (f + 1) x = some x := by
  show (if ltOk ch hf hb i p x then _ else _) = _
  rw [h]; rfl
/-- spell: the place, the letter, the row, how many -/
abbrev pst := Nat × Option Nat × (Nat → Nat) × Nat
def spS (ch : Nat → Option Nat) (hf hb : Nat → Nat) (i : Nat) (s : pst) : pst := match s with
  | (p, none, tx, n) => (p, none, tx, n)
  | (p, some x, tx, n) => ((ch (p * 8 + x)).getD 0, ltt ch hf hb i ((ch (p * 8 + x)).getD 0), va_up tx n (97 + x), n + 1)
def spl (ch : Nat → Option Nat) (hf hb : Nat → Nat) (i : Nat) (tx : Nat → Nat) : Nat → pst
  | 0 => (0, ltt ch hf hb i 0, tx, 0)
  | k + 1 => spS ch hf hb i (spl ch hf hb i tx k)
theorem spl_end {ch : Nat → Option Nat} {hf hb : Nat → Nat} {i k j p n : Nat} {tx tx1 : Nat → Nat} (e : spl ch hf hb i tx k = (p, none, tx1, n)) (hj : k ≤ j) : spl ch hf hb i tx j = (p, none, tx1, n) := by
  induction j with
  | zero => rw [show 0 = k by omega]; exact e
  | succ j ih =>
    by_cases q : k = j + 1
    · rw [← q]; exact e
    · show spS ch hf hb i (spl ch hf hb i tx j) = _
      rw [ih (by omega)]
      rfl
theorem lks_ok {ch : Nat → Option Nat} {wh : Nat → Bool} {hf hb ln : Nat → Nat} {sw : Nat → Option Nat} {od : Nat → Nat} {p bf kn : Nat} (hrg : rg ch) (hl : ∀ i, ln i < 211) (ho : ∀ i, od i < 211) (hk : kn ≤ 211) : ∀ x, (lks ch wh hf p (bf, kn, hb, ln, sw, od) x).2.1 ≤ 211 ∧ (∀ i, (lks ch wh hf p (bf, kn, hb, ln, sw, od) x).2.2.2.1 i < 211) ∧ ∀ i, (lks ch wh hf p (bf, kn, hb, ln, sw, od) x).2.2.2.2.2 i < 211
  | 0 => ⟨hk, hl, ho⟩
  | x + 1 => by
    have ih := lks_ok (wh := wh) (hf := hf) (hb := hb) (sw := sw) (p := p) (bf := bf) hrg hl ho hk x
    show (lkS ch wh hf p x (lks ch wh hf p (bf, kn, hb, ln, sw, od) x)).2.1 ≤ 211 ∧ (∀ i, (lkS ch wh hf p x (lks ch wh hf p (bf, kn, hb, ln, sw, od) x)).2.2.2.1 i < 211) ∧ ∀ i, (lkS ch wh hf p x (lks ch wh hf p (bf, kn, hb, ln, sw, od) x)).2.2.2.2.2 i < 211
    generalize lks ch wh hf p (bf, kn, hb, ln, sw, od) x = s at ih
    obtain ⟨b1, c1, hb1, ln1, sw1, od1⟩ := s
    obtain ⟨i1, i2, i3⟩ := ih
    by_cases hc : c1 < 211
    · cases hz : ch (p * 8 + x) with
      | none => rw [lkS_none hz]; exact ⟨i1, i2, i3⟩
      | some q =>
        rw [lkS_some hc hz rfl]
        refine ⟨?_, up_lt i2 ?_, up_lt i3 (hrg _ _ hz)⟩
        · show c1 + 1 ≤ 211
          omega
        · split
          · omega
          · exact fol_lt hrg
    · rw [lkS_full hc]; exact ⟨i1, i2, i3⟩
