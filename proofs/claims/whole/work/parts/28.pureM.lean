/-! What the reference's methods do -/
def iI (v : Int) : Int32 := Int32.ofInt v
theorem iI_sub {a b : Nat} (ha : a < 1073741824) (hb : b < 1073741824) : nI a - nI b = iI ((a : Int) - b) := by
  apply Int32.toInt_inj.mp
  rw [pk_sub_toInt ha hb]
  unfold iI
  rw [Int32.toInt_ofInt_of_le (by omega) (by omega)]
theorem iI_toInt {v : Int} (h1 : -1000 ≤ v) (h2 : v ≤ 1000) : (iI v).toInt = v := by
  unfold iI
  rw [Int32.toInt_ofInt_of_le (by omega) (by omega)]
theorem iI_0 {v : Int} (h1 : -1000 ≤ v) (h2 : v ≤ 1000) : iI v = 0 ↔ v = 0 := by
  rw [← Int32.toInt_inj, iI_toInt h1 h2, Int32.toInt_zero]
theorem iI_lt {v : Int} (h1 : -1000 ≤ v) (h2 : v ≤ 1000) : iI v < 0 ↔ v < 0 := by
  rw [Int32.lt_iff_toInt_lt, iI_toInt h1 h2, Int32.toInt_zero]
theorem iI_ge {v : Int} (h1 : -1000 ≤ v) (h2 : v ≤ 1000) : 0 ≤ iI v ↔ 0 ≤ v := by
  rw [Int32.le_iff_toInt_le, iI_toInt h1 h2, Int32.toInt_zero]
section VI
variable {κ : Ku} {lc : Launch} {rm : Room} {cc : ByteArray} {nL : Nat} {Ts : List Cond} {own : String} {D : va_G} {cl : List vw_C} {tys : List (ClassId × FieldType)}
variable {cells slots : Nat} {ws : va_W} {pc : Nat} {lv : List (Nat × Value)} {st : List Value}
theorem V_if_eqI (x : Cx κ lc rm cc nL Ts own D cl tys) {v : Int} {off : Int} (tgt : Nat) (hdg : decode cc pc = .ok (.ifCond .eq off, 3)) (ht : (pc : Int) + off = (tgt : Int)) (hv : -1000 ≤ v ∧ v ≤ 1000)
    (kt : v = 0 → V κ cells slots ws tgt lv st) (kf : ¬ v = 0 → V κ cells slots ws (pc + 3) lv st) : V κ cells slots ws pc lv (.int (iI v) :: st) :=
  V_if_eq x tgt hdg ht (fun h => kt ((iI_0 hv.1 hv.2).mp h)) (fun h => kf (fun e => h ((iI_0 hv.1 hv.2).mpr e)))
theorem V_if_neI (x : Cx κ lc rm cc nL Ts own D cl tys) {v : Int} {off : Int} (tgt : Nat) (hdg : decode cc pc = .ok (.ifCond .ne off, 3)) (ht : (pc : Int) + off = (tgt : Int)) (hv : -1000 ≤ v ∧ v ≤ 1000)
    (kt : ¬ v = 0 → V κ cells slots ws tgt lv st) (kf : v = 0 → V κ cells slots ws (pc + 3) lv st) : V κ cells slots ws pc lv (.int (iI v) :: st) :=
  V_if_ne x tgt hdg ht (fun h => kt (fun e => h ((iI_0 hv.1 hv.2).mpr e))) (fun h => kf ((iI_0 hv.1 hv.2).mp h))
theorem V_if_geI (x : Cx κ lc rm cc nL Ts own D cl tys) {v : Int} {off : Int} (tgt : Nat) (hdg : decode cc pc = .ok (.ifCond .ge off, 3)) (ht : (pc : Int) + off = (tgt : Int)) (hv : -1000 ≤ v ∧ v ≤ 1000)
    (kt : 0 ≤ v → V κ cells slots ws tgt lv st) (kf : v < 0 → V κ cells slots ws (pc + 3) lv st) : V κ cells slots ws pc lv (.int (iI v) :: st) :=
  V_if_ge x tgt hdg ht (fun h => kt ((iI_ge hv.1 hv.2).mp h)) (fun h => kf (Int.not_le.mp (fun e => h ((iI_ge hv.1 hv.2).mpr e))))
theorem V_if_geO (x : Cx κ lc rm cc nL Ts own D cl tys) {o : Option Nat} {off : Int} (tgt : Nat) (hdg : decode cc pc = .ok (.ifCond .ge off, 3)) (ht : (pc : Int) + off = (tgt : Int)) (ho : ∀ n, o = some n → n < 2147483648)
    (kt : ∀ n, o = some n → V κ cells slots ws tgt lv st) (kf : o = none → V κ cells slots ws (pc + 3) lv st) : V κ cells slots ws pc lv (.int (oN o) :: st) :=
  V_if_ge x tgt hdg ht (fun h => by
    cases o with
    | none => exact absurd h (by decide)
    | some n => exact kt n rfl) (fun h => by
    cases o with
    | none => exact kf rfl
    | some n => exact absurd (nI_pos' (ho n rfl)) h)
end VI
def mlt (c : Nat) : Nat := if 97 ≤ c ∧ c ≤ 104 then c - 97 + 1 else 0
theorem mlt_le (c : Nat) : mlt c ≤ 8 := by
  unfold mlt
  split <;> omega
theorem mlt_p {c : Nat} (h1 : 97 ≤ c) (h2 : c ≤ 104) : mlt c = c - 97 + 1 := if_pos ⟨h1, h2⟩
theorem mlt_n {c : Nat} (h : ¬ (97 ≤ c ∧ c ≤ 104)) : mlt c = 0 := if_neg h
def miw (tx : Nat → Nat) (b n : Nat) : Nat → Bool
  | 0 => decide (1 ≤ n ∧ n ≤ 7)
  | k + 1 => miw tx b n k && decide (0 < mlt (tx (b + k)))
theorem miw_false {tx : Nat → Nat} {b n k j : Nat} (h : miw tx b n k = false) (hj : k ≤ j) : miw tx b n j = false := by
  induction j with
  | zero => rw [show 0 = k by omega]; exact h
  | succ j ih =>
    by_cases q : k = j + 1
    · rw [← q]; exact h
    · show (miw tx b n j && _) = false
      rw [ih (by omega)]
      rfl
def mcm (tx le : Nat → Nat) (b n w s : Nat) : Nat → Nat → Int
  | 0, _ => (n : Int) - s
  | f + 1, k => if k < n ∧ k < s then (if mlt (tx (b + k)) = le (7 * w + k) then mcm tx le b n w s f (k + 1) else (mlt (tx (b + k)) : Int) - le (7 * w + k)) else (n : Int) - s
theorem mcm_end {tx le : Nat → Nat} {b n w s k : Nat} (h : ¬ (k < n ∧ k < s)) : ∀ f, mcm tx le b n w s f k = (n : Int) - s
  | 0 => rfl
  | f + 1 => if_neg h
theorem mcm_next {tx le : Nat → Nat} {b n w s k f : Nat} (h : k < n ∧ k < s) (e : mlt (tx (b + k)) = le (7 * w + k)) : mcm tx le b n w s (f + 1) k = mcm tx le b n w s f (k + 1) := by
  show (if _ then _ else _) = _
  rw [if_pos h, if_pos e]
theorem mcm_out {tx le : Nat → Nat} {b n w s k f : Nat} (h : k < n ∧ k < s) (e : ¬ mlt (tx (b + k)) = le (7 * w + k)) : mcm tx le b n w s (f + 1) k = (mlt (tx (b + k)) : Int) - le (7 * w + k) := by
  show (if _ then _ else _) = _
  rw [if_pos h, if_neg e]
theorem mcm_le {tx le : Nat → Nat} {b n w s : Nat} (hn : n ≤ 60) (hs : s ≤ 7) (hl : ∀ i, le i ≤ 8) : ∀ (f k : Nat), -1000 ≤ mcm tx le b n w s f k ∧ mcm tx le b n w s f k ≤ 1000
  | 0, _ => by
    show -1000 ≤ (n : Int) - s ∧ (n : Int) - s ≤ 1000
    omega
  | f + 1, k => by
    by_cases h : k < n ∧ k < s
    · by_cases e : mlt (tx (b + k)) = le (7 * w + k)
      · rw [mcm_next h e]; exact mcm_le hn hs hl f (k + 1)
      · rw [mcm_out h e]
        have := mlt_le (tx (b + k))
        have := hl (7 * w + k)
        omega
    · rw [mcm_end h]; omega
def mcp (tx le sz : Nat → Nat) (b n w : Nat) : Int := mcm tx le b n w (sz w) 8 0
def mno (tx le sz : Nat → Nat) (b n : Nat) : Nat → Option Nat
  | 0 => none
  | w + 1 => if mcp tx le sz b n w = 0 then some w else mno tx le sz b n w
def mnb (tx le sz : Nat → Nat) (cn b n : Nat) : Option Nat := if miw tx b n n then mno tx le sz b n cn else none
theorem mno_lt {tx le sz : Nat → Nat} {b n : Nat} : ∀ {w z : Nat}, mno tx le sz b n w = some z → z < w
  | 0, _, h => by cases h
  | w + 1, z, h => by
    unfold mno at h
    split at h
    · cases h; omega
    · have := mno_lt h; omega
theorem mnb_lt {tx le sz : Nat → Nat} {cn b n z : Nat} (h : mnb tx le sz cn b n = some z) : z < cn := by
  unfold mnb at h
  split at h
  · exact mno_lt h
  · cases h
def mbw (tx le : Nat → Nat) (w n s : Nat) : Nat → Bool
  | 0 => decide (n ≤ s)
  | k + 1 => mbw tx le w n s k && decide (le (7 * w + k) = mlt (tx k))
theorem mbw_false {tx le : Nat → Nat} {w n s k j : Nat} (h : mbw tx le w n s k = false) (hj : k ≤ j) : mbw tx le w n s j = false := by
  induction j with
  | zero => rw [show 0 = k by omega]; exact h
  | succ j ih =>
    by_cases q : k = j + 1
    · rw [← q]; exact h
    · show (mbw tx le w n s j && _) = false
      rw [ih (by omega)]
      rfl
theorem mbw_n {tx le : Nat → Nat} {w n s : Nat} : ∀ {k : Nat}, mbw tx le w n s k = true → n ≤ s
  | 0, h => of_decide_eq_true h
  | k + 1, h => mbw_n (k := k) (by
      have h1 : (mbw tx le w n s k && decide (le (7 * w + k) = mlt (tx k))) = true := h
      rw [Bool.and_eq_true] at h1
      exact h1.1)
def mvl (le : Nat → Nat) (t f : Nat) : Nat → Nat → Nat
  | 0 => le
  | k + 1 => va_up (mvl le t f k) (7 * t + k) (mvl le t f k (7 * f + k))
def mpr (pg : Nat → Nat) (wr : Nat) (le : Nat → Nat) (w : Nat) : Nat → Nat → Nat
  | 0 => pg
  | k + 1 => va_up (mpr pg wr le w k) (wr + k) (97 + le (7 * w + k) - 1)
def msh (le sz : Nat → Nat) (a b n : Nat) : Nat → Bool
  | 0 => decide (n ≤ sz a ∧ n ≤ sz b)
  | k + 1 => msh le sz a b n k && decide (le (7 * a + k) = le (7 * b + k))
theorem msh_false {le sz : Nat → Nat} {a b n k j : Nat} (h : msh le sz a b n k = false) (hj : k ≤ j) : msh le sz a b n j = false := by
  induction j with
  | zero => rw [show 0 = k by omega]; exact h
  | succ j ih =>
    by_cases q : k = j + 1
    · rw [← q]; exact h
    · show (msh le sz a b n j && _) = false
      rw [ih (by omega)]
      rfl
theorem msh_n {le sz : Nat → Nat} {a b n : Nat} : ∀ {k : Nat}, msh le sz a b n k = true → n ≤ sz a ∧ n ≤ sz b
  | 0, h => of_decide_eq_true h
  | k + 1, h => msh_n (k := k) (by
      have h1 : (msh le sz a b n k && decide (le (7 * a + k) = le (7 * b + k))) = true := h
      rw [Bool.and_eq_true] at h1
      exact h1.1)
def mst (tx le sz : Nat → Nat) (n : Nat) : Nat → Nat
  | 0 => 0
  | w + 1 => if mbw tx le w n (sz w) n then mst tx le sz n w + 1 else mst tx le sz n w
def mlg (tx le sz : Nat → Nat) (cn : Nat) : Nat → Option Nat
  | 0 => none
  | k + 1 => match mnb tx le sz cn 0 (k + 1) with
    | some w => some w
    | none => mlg tx le sz cn k
theorem mlg_lt {tx le sz : Nat → Nat} {cn : Nat} : ∀ {k z : Nat}, mlg tx le sz cn k = some z → z < cn
  | 0, _, h => by cases h
  | k + 1, z, h => by
    unfold mlg at h
    cases hm : mnb tx le sz cn 0 (k + 1) with
    | none => rw [hm] at h; exact mlg_lt h
    | some w => rw [hm] at h; cases h; exact mnb_lt hm
theorem mnb_end {tx le sz : Nat → Nat} {cn b n k : Nat} {o : Option Nat} (hq : k = 0 ∨ miw tx b n n = true) (e : mno tx le sz b n k = o) (h : k = cn ∨ miw tx b n n = false) : o = mnb tx le sz cn b n := by
  unfold mnb
  rcases hq with rfl | hq
  · have e0 : o = none := e.symm
    rcases h with rfl | h
    · rw [e0]; split <;> rfl
    · rw [e0, h]; rfl
  · rcases h with rfl | h
    · rw [hq, ← e]; rfl
    · rw [hq] at h; cases h
theorem mvl_le {le : Nat → Nat} {t f b : Nat} (h : ∀ i, le i ≤ b) : ∀ k i, mvl le t f k i ≤ b
  | 0 => h
  | k + 1 => up_le (mvl_le h k) (Nat.le_refl _) (mvl_le h k _)
/-- add: where the new word goes, the rows with room for it -/
abbrev mgt := Nat × (Nat → Nat) × (Nat → Nat)
def mis (tx : Nat → Nat) (n : Nat) : Nat → (Nat → Nat) → (Nat → Nat) → mgt
  | 0, le, sz => (0, le, sz)
  | a + 1, le, sz => if mcp tx le sz 0 n a < 0 then mis tx n a (mvl le (a + 1) a 7) (va_up sz (a + 1) (sz a)) else (a + 1, le, sz)
theorem mis_next {tx le sz : Nat → Nat} {n a : Nat} (h0 : 0 < a) (h : mcp tx le sz 0 n (a - 1) < 0) : mis tx n a le sz = mis tx n (a - 1) (mvl le a (a - 1) 7) (va_up sz a (sz (a - 1))) := by
  obtain ⟨b, rfl⟩ : ∃ b, a = b + 1 := ⟨a - 1, by omega⟩
  exact if_pos h
theorem mis_end {tx le sz : Nat → Nat} {n a : Nat} (h : a = 0 ∨ 0 ≤ mcp tx le sz 0 n (a - 1)) : mis tx n a le sz = (a, le, sz) := by
  cases a with
  | zero => rfl
  | succ b =>
    refine if_neg ?_
    rcases h with h | h
    · cases h
    · have : (0 : Int) ≤ mcp tx le sz 0 n b := h
      omega
def mfl (le : Nat → Nat) (a : Nat) (tx : Nat → Nat) : Nat → Nat → Nat
  | 0 => le
  | k + 1 => va_up (mfl le a tx k) (7 * a + k) (mlt (tx k))
def mrm (z : Nat) (le sz : Nat → Nat) : Nat → (Nat → Nat) × (Nat → Nat)
  | 0 => (le, sz)
  | j + 1 => (mvl (mrm z le sz j).1 (z + j) (z + j + 1) 7, va_up (mrm z le sz j).2 (z + j) ((mrm z le sz j).2 (z + j + 1)))
/-- scan -/
abbrev mnt := (Nat → Nat) × (Nat → Nat) × Nat
def msK (tx le sz : Nat → Nat) (cn e j : Nat) : Option Nat := if 7 - j ≤ e then mnb tx le sz cn (e - (7 - j)) (7 - j) else none
def msI (tx le sz : Nat → Nat) (cn e : Nat) (s : mnt) : Nat → mnt
  | 0 => s
  | j + 1 => match msK tx le sz cn e j with
    | some w => (va_up (msI tx le sz cn e s j).1 (msI tx le sz cn e s j).2.2 w, va_up (msI tx le sz cn e s j).2.1 (msI tx le sz cn e s j).2.2 e, (msI tx le sz cn e s j).2.2 + 1)
    | none => msI tx le sz cn e s j
def mso (tx le sz : Nat → Nat) (cn : Nat) (gu gv : Nat → Nat) : Nat → mnt
  | 0 => (gu, gv, 0)
  | i + 1 => msI tx le sz cn (i + 1) (mso tx le sz cn gu gv i) 7
theorem msK_lt {tx le sz : Nat → Nat} {cn e j z : Nat} (h : msK tx le sz cn e j = some z) : z < cn := by
  unfold msK at h
  split at h
  · exact mnb_lt h
  · cases h
/-- splits -/
def oselL (o : Option Nat) (a b : Int64) : Int64 := match o with
  | some _ => a
  | none => b
def msW (tx le sz : Nat → Nat) (cn e : Nat) (wy : Nat → Int64) : Nat → Nat → Int64
  | 0 => va_up wy e 0
  | j + 1 => va_up (msW tx le sz cn e wy j) e (oselL (mnb tx le sz cn (e - (j + 1)) (j + 1)) (msW tx le sz cn e wy j e + msW tx le sz cn e wy j (e - (j + 1))) (msW tx le sz cn e wy j e))
def msp (tx le sz : Nat → Nat) (cn : Nat) (wy : Nat → Int64) : Nat → Nat → Int64
  | 0 => va_up wy 0 1
  | i + 1 => msW tx le sz cn (i + 1) (msp tx le sz cn wy i) (min 7 (i + 1))
/-- distance: one place of the lower row; the lower row; the copy; all letters -/
def mdv (r c l r1 b0 : Nat) : Nat := if r + (if mlt c = l then 0 else 1) < (if r1 < b0 then r1 + 1 else b0 + 1) then r + (if mlt c = l then 0 else 1) else (if r1 < b0 then r1 + 1 else b0 + 1)
def mdB (tx : Nat → Nat) (l : Nat) (ro : Nat → Nat) (i : Nat) (bl : Nat → Nat) : Nat → Nat → Nat
  | 0 => va_up bl 0 (i + 1)
  | k + 1 => va_up (mdB tx l ro i bl k) (k + 1) (mdv (ro k) (tx k) l (ro (k + 1)) (mdB tx l ro i bl k k))
def mdC (ro bl : Nat → Nat) : Nat → Nat → Nat
  | 0 => ro
  | k + 1 => va_up (mdC ro bl k) k (bl k)
def mdO (tx le : Nat → Nat) (w n : Nat) (ro bl : Nat → Nat) : Nat → (Nat → Nat) × (Nat → Nat)
  | 0 => (fil ro (n + 1), bl)
  | i + 1 => (mdC (mdO tx le w n ro bl i).1 (mdB tx (le (7 * w + i)) (mdO tx le w n ro bl i).1 i (mdO tx le w n ro bl i).2 n) (n + 1), mdB tx (le (7 * w + i)) (mdO tx le w n ro bl i).1 i (mdO tx le w n ro bl i).2 n)
theorem mdv_lt {r c l r1 b0 : Nat} (h : r + (if mlt c = l then 0 else 1) < (if r1 < b0 then r1 + 1 else b0 + 1)) : mdv r c l r1 b0 = r + (if mlt c = l then 0 else 1) := if_pos h
theorem mdv_ge {r c l r1 b0 : Nat} (h : (if r1 < b0 then r1 + 1 else b0 + 1) ≤ r + (if mlt c = l then 0 else 1)) : mdv r c l r1 b0 = (if r1 < b0 then r1 + 1 else b0 + 1) := if_neg (Nat.not_lt.mpr h)
theorem mdv_le {r c l r1 b0 : Nat} : mdv r c l r1 b0 ≤ b0 + 1 := by
  unfold mdv
  split <;> split <;> (try split) <;> omega
theorem mdB_ok {tx : Nat → Nat} {l : Nat} {ro : Nat → Nat} {i : Nat} {bl : Nat → Nat} : ∀ k, (∀ z, z ≤ k → mdB tx l ro i bl k z ≤ i + 1 + z) ∧ ∀ z, k < z → mdB tx l ro i bl k z = bl z
  | 0 => ⟨fun z hz => by
      rw [show z = 0 by omega]
      show va_up bl 0 (i + 1) 0 ≤ _
      rw [va_up_self]
      omega, fun z hz => va_up_ne _ _ (by omega)⟩
  | k + 1 => by
    obtain ⟨h1, h2⟩ := mdB_ok (tx := tx) (l := l) (ro := ro) (i := i) (bl := bl) k
    refine ⟨fun z hz => ?_, fun z hz => ?_⟩
    · show va_up (mdB tx l ro i bl k) (k + 1) _ z ≤ _
      by_cases q : z = k + 1
      · subst q
        rw [va_up_self]
        have := mdv_le (r := ro k) (c := tx k) (l := l) (r1 := ro (k + 1)) (b0 := mdB tx l ro i bl k k)
        have := h1 k (Nat.le_refl _)
        omega
      · rw [va_up_ne _ _ q]
        exact h1 z (by omega)
    · show va_up (mdB tx l ro i bl k) (k + 1) _ z = _
      rw [va_up_ne _ _ (by omega)]
      exact h2 z (by omega)
theorem mdC_in {ro bl : Nat → Nat} : ∀ k z, mdC ro bl k z = if z < k then bl z else ro z
  | 0, z => by rw [if_neg (by omega)]; rfl
  | k + 1, z => by
    show va_up (mdC ro bl k) k (bl k) z = _
    by_cases q : z = k
    · subst q; rw [va_up_self, if_pos (by omega)]
    · rw [va_up_ne _ _ q, mdC_in k z]
      by_cases y : z < k
      · rw [if_pos y, if_pos (by omega)]
      · rw [if_neg y, if_neg (by omega)]
theorem mdO_ok {tx le : Nat → Nat} {w n : Nat} {ro bl : Nat → Nat} : ∀ i, (∀ z, z ≤ n → (mdO tx le w n ro bl i).1 z ≤ i + z) ∧ (∀ z, n < z → (mdO tx le w n ro bl i).1 z = ro z ∧ (mdO tx le w n ro bl i).2 z = bl z)
  | 0 => ⟨fun z hz => by
      show fil ro (n + 1) z ≤ _
      rw [fil_in, if_pos (by omega)]
      omega, fun z hz => ⟨by
      show fil ro (n + 1) z = _
      rw [fil_in, if_neg (by omega)], rfl⟩⟩
  | i + 1 => by
    obtain ⟨h1, h2⟩ := mdO_ok (tx := tx) (le := le) (w := w) (n := n) (ro := ro) (bl := bl) i
    obtain ⟨h3, h4⟩ := mdB_ok (tx := tx) (l := le (7 * w + i)) (ro := (mdO tx le w n ro bl i).1) (i := i) (bl := (mdO tx le w n ro bl i).2) n
    refine ⟨fun z hz => ?_, fun z hz => ⟨?_, ?_⟩⟩
    · show mdC _ _ (n + 1) z ≤ _
      rw [mdC_in, if_pos (by omega)]
      exact h3 z hz
    · show mdC _ _ (n + 1) z = _
      rw [mdC_in, if_neg (by omega)]
      exact (h2 z hz).1
    · exact (h4 z hz).trans (h2 z hz).2
abbrev mnr5 := (Nat → Nat) × (Nat → Nat) × (Nat → Nat) × (Nat → Nat) × Nat
def mnS (tx le sz : Nat → Nat) (n j w : Nat) (s : mnr5) : mnr5 := match s with
  | (ro, bl, gu, gv, mn) => if (mdO tx le w n ro bl (sz w)).1 n ≤ j then ((mdO tx le w n ro bl (sz w)).1, (mdO tx le w n ro bl (sz w)).2, va_up gu mn w, va_up gv mn ((mdO tx le w n ro bl (sz w)).1 n), mn + 1) else ((mdO tx le w n ro bl (sz w)).1, (mdO tx le w n ro bl (sz w)).2, gu, gv, mn)
def mnr (tx le sz : Nat → Nat) (n j : Nat) (s : mnr5) : Nat → mnr5
  | 0 => s
  | w + 1 => mnS tx le sz n j w (mnr tx le sz n j s w)
/-- findPrefixes -/
def mfe (le sz : Nat → Nat) (w n cn : Nat) : Nat → Nat → Nat
  | 0, e => e
  | f + 1, e => if e < cn ∧ msh le sz w e n n = true then mfe le sz w n cn f (e + 1) else e
theorem mfe_next {le sz : Nat → Nat} {w n cn f e : Nat} (h : e < cn ∧ msh le sz w e n n = true) : mfe le sz w n cn (f + 1) e = mfe le sz w n cn f (e + 1) := if_pos h
theorem mfe_end {le sz : Nat → Nat} {w n cn e : Nat} (h : ¬ (e < cn ∧ msh le sz w e n n = true)) : ∀ f, mfe le sz w n cn f e = e
  | 0 => rfl
  | f + 1 => if_neg h
abbrev pst4 := Nat × (Nat → Nat) × (Nat → Nat) × (Nat → Nat)
def mfS (le sz : Nat → Nat) (cn w n : Nat) (s : pst4) : pst4 := if w = 0 ∨ msh le sz (w - 1) w n n = false then (s.1 + 1, va_up s.2.1 s.1 w, va_up s.2.2.1 s.1 (mfe le sz w n cn 31 (w + 1)), va_up s.2.2.2 s.1 n) else s
def mfI (le sz : Nat → Nat) (cn w : Nat) (s : pst4) : Nat → pst4
  | 0 => s
  | k + 1 => mfS le sz cn w (k + 1) (mfI le sz cn w s k)
def mfO (le sz : Nat → Nat) (cn : Nat) (lo hi dp : Nat → Nat) : Nat → pst4
  | 0 => (1, va_up lo 0 0, va_up hi 0 cn, va_up dp 0 0)
  | w + 1 => mfI le sz cn w (mfO le sz cn lo hi dp w) (sz w)
/-- areAlike -/
def maI (le sz : Nat → Nat) (a b da db : Nat) : Nat → Bool
  | 0 => decide (sz a - da = sz b - db)
  | j + 1 => maI le sz a b da db j && decide (le (7 * a + da + j) = le (7 * b + db + j))
theorem maI_false {le sz : Nat → Nat} {a b da db k j : Nat} (h : maI le sz a b da db k = false) (hj : k ≤ j) : maI le sz a b da db j = false := by
  induction j with
  | zero => rw [show 0 = k by omega]; exact h
  | succ j ih =>
    by_cases q : k = j + 1
    · rw [← q]; exact h
    · show (maI le sz a b da db j && _) = false
      rw [ih (by omega)]
      rfl
theorem maI_n {le sz : Nat → Nat} {a b da db : Nat} : ∀ {k : Nat}, maI le sz a b da db k = true → sz a - da = sz b - db
  | 0, h => of_decide_eq_true h
  | k + 1, h => maI_n (k := k) (by
      have h1 : (maI le sz a b da db k && decide (le (7 * a + da + k) = le (7 * b + db + k))) = true := h
      rw [Bool.and_eq_true] at h1
      exact h1.1)
def maO (le sz lo hi dp : Nat → Nat) (p q : Nat) : Nat → Bool
  | 0 => decide (hi p - lo p = hi q - lo q)
  | k + 1 => maO le sz lo hi dp p q k && maI le sz (lo p + k) (lo q + k) (dp p) (dp q) (sz (lo p + k) - dp p)
theorem maO_false {le sz lo hi dp : Nat → Nat} {p q k j : Nat} (h : maO le sz lo hi dp p q k = false) (hj : k ≤ j) : maO le sz lo hi dp p q j = false := by
  induction j with
  | zero => rw [show 0 = k by omega]; exact h
  | succ j ih =>
    by_cases z : k = j + 1
    · rw [← z]; exact h
    · show (maO le sz lo hi dp p q j && _) = false
      rw [ih (by omega)]
      rfl
theorem maO_n {le sz lo hi dp : Nat → Nat} {p q : Nat} : ∀ {k : Nat}, maO le sz lo hi dp p q k = true → hi p - lo p = hi q - lo q
  | 0, h => of_decide_eq_true h
  | k + 1, h => maO_n (k := k) (by
      have h1 : (maO le sz lo hi dp p q k && maI le sz (lo p + k) (lo q + k) (dp p) (dp q) (sz (lo p + k) - dp p)) = true := h
      rw [Bool.and_eq_true] at h1
      exact h1.1)
def mal (le sz lo hi dp : Nat → Nat) (p q : Nat) : Bool := maO le sz lo hi dp p q (hi p - lo p)
/-- a prefix's words are held, and long enough -/
def vpr (sz lo hi dp : Nat → Nat) (p : Nat) : Prop := lo p ≤ hi p ∧ hi p ≤ 30 ∧ ∀ w, lo p ≤ w → w < hi p → dp p ≤ sz w
def mif (le sz lo hi dp : Nat → Nat) (p : Nat) : Nat → Bool
  | 0 => true
  | q + 1 => mif le sz lo hi dp p q && !mal le sz lo hi dp p q
theorem mif_false {le sz lo hi dp : Nat → Nat} {p k j : Nat} (h : mif le sz lo hi dp p k = false) (hj : k ≤ j) : mif le sz lo hi dp p j = false := by
  induction j with
  | zero => rw [show 0 = k by omega]; exact h
  | succ j ih =>
    by_cases z : k = j + 1
    · rw [← z]; exact h
    · show (mif le sz lo hi dp p j && _) = false
      rw [ih (by omega)]
      rfl
def mss (le sz lo hi dp : Nat → Nat) : Nat → Nat
  | 0 => 0
  | p + 1 => if mif le sz lo hi dp p p then mss le sz lo hi dp p + 1 else mss le sz lo hi dp p
/-- nexts: how many, the last letter -/
def mnx (le sz : Nat → Nat) (d w : Nat) : Nat := if d < sz w then le (7 * w + d) else 0
def mnS2 (x : Nat) (s : Nat × Nat) : Nat × Nat := (if 0 < x ∧ x ≠ s.2 then s.1 + 1 else s.1, if 0 < x then x else s.2)
def mxs (le sz : Nat → Nat) (b d : Nat) : Nat → Nat × Nat
  | 0 => (0, 0)
  | k + 1 => mnS2 (mnx le sz d (b + k)) (mxs le sz b d k)
def mes (le sz lo hi dp : Nat → Nat) : Nat → Nat
  | 0 => 0
  | p + 1 => if mif le sz lo hi dp p p then mes le sz lo hi dp p + (mxs le sz (lo p) (dp p) (hi p - lo p)).1 else mes le sz lo hi dp p
/-- alike: the text's own prefix; how many -/
def mow (tx le sz lo dp : Nat → Nat) (n : Nat) : Nat → Option Nat
  | 0 => none
  | p + 1 => if dp p = n ∧ (n = 0 ∨ mbw tx le (lo p) n (sz (lo p)) n = true) then some p else mow tx le sz lo dp n p
theorem mow_lt {tx le sz lo dp : Nat → Nat} {n : Nat} : ∀ {k z : Nat}, mow tx le sz lo dp n k = some z → z < k
  | 0, _, h => by cases h
  | k + 1, z, h => by
    unfold mow at h
    split at h
    · cases h; omega
    · have := mow_lt h; omega
def mac (le sz lo hi dp : Nat → Nat) (o : Nat) : Nat → Nat
  | 0 => 0
  | p + 1 => if mal le sz lo hi dp p o then mac le sz lo hi dp o p + 1 else mac le sz lo hi dp o p
/-- split: the fewest words from each place on; the longest good first word; what is written -/
def mgv (o : Option Nat) (a b : Nat) : Nat := match o with
  | some _ => if a + 1 < b then a + 1 else b
  | none => b
def mgI (tx le sz : Nat → Nat) (cn p : Nat) (fe : Nat → Nat) : Nat → Nat → Nat
  | 0 => va_up fe p 100
  | j + 1 => va_up (mgI tx le sz cn p fe j) p (mgv (mnb tx le sz cn p (j + 1)) (mgI tx le sz cn p fe j (p + (j + 1))) (mgI tx le sz cn p fe j p))
def mgO (tx le sz : Nat → Nat) (cn n : Nat) (fe : Nat → Nat) : Nat → Nat → Nat
  | 0 => va_up fe n 0
  | i + 1 => mgI tx le sz cn (n - (i + 1)) (mgO tx le sz cn n fe i) (min 7 (i + 1))
theorem mgI_le {tx le sz : Nat → Nat} {cn p b : Nat} {fe : Nat → Nat} (h : ∀ i, fe i ≤ b) (hb : 100 ≤ b) : ∀ j i, mgI tx le sz cn p fe j i ≤ b
  | 0 => up_le h (Nat.le_refl _) hb
  | j + 1 => up_le (mgI_le h hb j) (Nat.le_refl _) (by
      have := mgI_le (tx := tx) (le := le) (sz := sz) (cn := cn) (p := p) h hb j p
      unfold mgv
      split
      · split <;> omega
      · omega)
theorem mgO_le {tx le sz : Nat → Nat} {cn n b : Nat} {fe : Nat → Nat} (h : ∀ i, fe i ≤ b) (hb : 100 ≤ b) : ∀ k i, mgO tx le sz cn n fe k i ≤ b
  | 0 => up_le h (Nat.le_refl _) (by omega)
  | k + 1 => mgI_le (mgO_le h hb k) hb _
theorem mgO_step {tx le sz : Nat → Nat} {cn n z : Nat} {fe f1 : Nat → Nat} (h : z + 1 ≤ n) (e : mgO tx le sz cn n fe (n - (z + 1)) = f1) : mgO tx le sz cn n fe (n - z) = mgI tx le sz cn z f1 (min 7 (n - z)) := by
  rw [show n - z = (n - (z + 1)) + 1 by omega]
  show mgI tx le sz cn (n - (n - (z + 1) + 1)) (mgO tx le sz cn n fe (n - (z + 1))) (min 7 (n - (z + 1) + 1)) = _
  rw [show n - (n - (z + 1) + 1) = z by omega, e]
def mgc (tx le sz : Nat → Nat) (cn n : Nat) (fe : Nat → Nat) (p k : Nat) : Prop := p + k ≤ n ∧ mnb tx le sz cn p k ≠ none ∧ fe (p + k) + 1 = fe p
def mgk (tx le sz : Nat → Nat) (cn n : Nat) (fe : Nat → Nat) (p : Nat) : Nat → Nat
  | 0 => 0
  | k + 1 => if p + (k + 1) ≤ n ∧ mnb tx le sz cn p (k + 1) ≠ none ∧ fe (p + (k + 1)) + 1 = fe p then k + 1 else mgk tx le sz cn n fe p k
abbrev mgt3 := Nat × (Nat → Nat) × Nat
def mgP (tx le sz : Nat → Nat) (cn n : Nat) (fe : Nat → Nat) (s : mgt3) : mgt3 :=
  if s.1 < n then
    (let k := mgk tx le sz cn n fe s.1 7
     let z := (mnb tx le sz cn s.1 k).getD 0
     if 0 < s.1 then (s.1 + k, mpr (va_up s.2.1 s.2.2 46) (s.2.2 + 1) le z (sz z), s.2.2 + 1 + sz z) else (s.1 + k, mpr s.2.1 s.2.2 le z (sz z), s.2.2 + sz z))
  else s
def mgW (tx le sz : Nat → Nat) (cn n : Nat) (fe pg : Nat → Nat) : Nat → mgt3
  | 0 => (0, pg, 0)
  | i + 1 => mgP tx le sz cn n fe (mgW tx le sz cn n fe pg i)
theorem mgv_no {o : Option Nat} {a b : Nat} (h : ¬ (o ≠ none ∧ a + 1 < b)) : mgv o a b = b := by
  unfold mgv
  cases o with
  | none => rfl
  | some z =>
    show (if a + 1 < b then a + 1 else b) = b
    rw [if_neg (fun q => h ⟨by simp, q⟩)]
theorem mgv_yes {o : Option Nat} {a b : Nat} (h : o ≠ none ∧ a + 1 < b) : mgv o a b = a + 1 := by
  unfold mgv
  cases o with
  | none => exact absurd rfl h.1
  | some z => exact if_pos h.2
theorem mgP_eq {tx le sz : Nat → Nat} {cn n p k z wr : Nat} {fe pg : Nat → Nat} (hp : p < n) (hk : mgk tx le sz cn n fe p 7 = k) (hz : mnb tx le sz cn p k = some z) : mgP tx le sz cn n fe (p, pg, wr) = if 0 < p then (p + k, mpr (va_up pg wr 46) (wr + 1) le z (sz z), wr + 1 + sz z) else (p + k, mpr pg wr le z (sz z), wr + sz z) := by
  unfold mgP
  simp only [hk, hz, Option.getD_some, hp, if_true]
theorem mgW_end {tx le sz : Nat → Nat} {cn n i j : Nat} {fe pg p1 : Nat → Nat} {w : Nat} (e : mgW tx le sz cn n fe pg i = (n, p1, w)) (h : i ≤ j) : mgW tx le sz cn n fe pg j = (n, p1, w) := by
  induction j with
  | zero => rw [show 0 = i by omega]; exact e
  | succ j ih =>
    by_cases q : i = j + 1
    · rw [← q]; exact e
    · show mgP tx le sz cn n fe (mgW tx le sz cn n fe pg j) = _
      rw [ih (by omega)]
      exact if_neg (Nat.lt_irrefl n)
theorem mgk_yes {tx le sz : Nat → Nat} {cn n p k : Nat} {fe : Nat → Nat} (h : p + k ≤ n ∧ mnb tx le sz cn p k ≠ none ∧ fe (p + k) + 1 = fe p) (hk : 1 ≤ k) : mgk tx le sz cn n fe p k = k := by
  obtain ⟨j, rfl⟩ : ∃ j, k = j + 1 := ⟨k - 1, by omega⟩
  exact if_pos h
theorem mgk_no {tx le sz : Nat → Nat} {cn n p k : Nat} {fe : Nat → Nat} (h : ¬ (p + k ≤ n ∧ mnb tx le sz cn p k ≠ none ∧ fe (p + k) + 1 = fe p)) (hk : 1 ≤ k) : mgk tx le sz cn n fe p k = mgk tx le sz cn n fe p (k - 1) := by
  obtain ⟨j, rfl⟩ : ∃ j, k = j + 1 := ⟨k - 1, by omega⟩
  exact if_neg h
theorem sj_1 {o : Option Nat} {a b : Nat} (h : o = none) : nI 0 = bI (decide (o ≠ none ∧ a + 1 < b)) := by
  rw [decide_eq_false (fun q => q.1 h)]; rfl
theorem sj_2 {o : Option Nat} {a b : Nat} (h : b ≤ a + 1) : nI 0 = bI (decide (o ≠ none ∧ a + 1 < b)) := by
  rw [decide_eq_false (fun q => absurd q.2 (Nat.not_lt.mpr h))]; rfl
theorem sj_3 {o : Option Nat} {a b z : Nat} (h : o = some z) (h2 : a + 1 < b) : nI 1 = bI (decide (o ≠ none ∧ a + 1 < b)) := by
  rw [decide_eq_true ⟨by rw [h]; simp, h2⟩]; rfl
theorem aj_1 {d n : Nat} {m : Bool} (h : d ≠ n) : nI 0 = bI (decide (d = n ∧ (n = 0 ∨ m = true))) := by
  rw [decide_eq_false (fun q => h q.1)]; rfl
theorem aj_2 {d n : Nat} {m : Bool} (h : d = n) (h2 : n = 0) : nI 1 = bI (decide (d = n ∧ (n = 0 ∨ m = true))) := by
  rw [decide_eq_true ⟨h, Or.inl h2⟩]; rfl
theorem aj_3 {d n : Nat} {m : Bool} (h : 0 < n) (h2 : m = false) : nI 0 = bI (decide (d = n ∧ (n = 0 ∨ m = true))) := by
  rw [decide_eq_false (fun q => q.2.elim (fun z => by omega) (fun z => by rw [h2] at z; cases z))]; rfl
theorem aj_4 {d n : Nat} {m : Bool} (h : d = n) (h2 : m = true) : nI 1 = bI (decide (d = n ∧ (n = 0 ∨ m = true))) := by
  rw [decide_eq_true ⟨h, Or.inr h2⟩]; rfl
