/-! split: both pages -/
def ptk (pg : Nat → Nat) (w : Nat) (c : Nat → Nat) : Nat → Nat → Nat
  | 0 => pg
  | k + 1 => va_up (ptk pg w c k) (w + k) (c k)
theorem ptk_ext {pg : Nat → Nat} {w : Nat} {c d : Nat → Nat} : ∀ {k : Nat}, (∀ i, i < k → c i = d i) → ptk pg w c k = ptk pg w d k
  | 0, _ => rfl
  | k + 1, h => by
    show va_up (ptk pg w c k) (w + k) (c k) = va_up (ptk pg w d k) (w + k) (d k)
    rw [ptk_ext (fun i hi => h i (by omega)), h k (by omega)]
theorem mpr_ptk (pg : Nat → Nat) (wr : Nat) (le : Nat → Nat) (w : Nat) : ∀ k, mpr pg wr le w k = ptk pg wr (fun i => 97 + le (7 * w + i) - 1) k
  | 0 => rfl
  | k + 1 => by
    show va_up (mpr pg wr le w k) (wr + k) (97 + le (7 * w + k) - 1) = va_up (ptk pg wr _ k) (wr + k) _
    rw [mpr_ptk pg wr le w k]
def Ag (w : Nat) (f g : Nat → Nat) : Prop := ∀ i, i < w → f i = g i
theorem Ag.up {w : Nat} {f g : Nat → Nat} (h : Ag w f g) (c : Nat) : Ag (w + 1) (va_up f w c) (va_up g w c) := by
  intro i hi
  by_cases e : i = w
  · subst e
    rw [va_up_self, va_up_self]
  · rw [va_up_ne _ _ e, va_up_ne _ _ e]
    exact h i (by omega)
theorem Ag.pt {w : Nat} {f g : Nat → Nat} (h : Ag w f g) (c : Nat → Nat) : ∀ k, Ag (w + k) (ptk f w c k) (ptk g w c k)
  | 0 => h
  | k + 1 => (Ag.pt h c k).up (c k)
/-- the class writes one word -/
theorem wr_word {tx fe px : Nat → Nat} {p K w s1 : Nat} {pg : Nat → Nat} (hK : 1 ≤ K) (hfe : fe p = p + K) (h : wr tx fe px p = (s1, pg, w)) (h0 : p = 0 ∧ s1 = fe 0 ∨ 0 < p ∧ s1 = p) : ∀ j, 1 ≤ j → j ≤ K → wr tx fe px (p + j) = (p + K, ptk (if 0 < p then va_up pg w 46 else pg) (if 0 < p then w + 1 else w) (fun k => tx (p + k)) j, (if 0 < p then w + 1 else w) + j)
  | 0, h1, _ => by omega
  | j + 1, _, h2 => by
    show wrS tx fe (p + j) (wr tx fe px (p + j)) = _
    by_cases hj : j = 0
    · subst hj
      rw [Nat.add_zero, h]
      rcases h0 with ⟨q1, q2⟩ | ⟨q1, q2⟩
      · subst q1
        rw [q2, hfe, if_neg (Nat.lt_irrefl 0), if_neg (Nat.lt_irrefl 0)]
        show (if 0 = 0 + K then _ else (0 + K, va_up pg w (tx 0), w + 1)) = _
        rw [if_neg (by omega)]
        rfl
      · rw [q2, if_pos q1, if_pos q1]
        show (if p = p then (fe p, va_up (va_up pg w 46) (w + 1) (tx p), w + 1 + 1) else _) = _
        rw [if_pos rfl, hfe]
        rfl
    · rw [wr_word hK hfe h h0 j (by omega) (by omega)]
      show (if p + j = p + K then _ else (p + K, va_up _ _ (tx (p + j)), _ + 1)) = _
      rw [if_neg (by omega)]
      rfl
section PG
variable {le sz : Nat → Nat} {cn : Nat} {L : List (List Nat)}
/-- letters of the row are letters of the text -/
theorem ML.row (h : ML le sz cn L) (hs : srt L) {tx : Nat → Nat} {p K z : Nat} (hz : seg L tx p K = some z) : sz z = K ∧ ∀ i, i < K → 97 + le (7 * z + i) - 1 = tx (p + i) := by
  unfold seg at hz
  by_cases ha : alwF tx p K = true
  · rw [if_pos ha] at hz
    have hz := (idx_iff hs).mp hz
    obtain ⟨r1, r2⟩ := h.2 z _ hz
    rw [lts_len] at r1
    refine ⟨r1, fun i hi => ?_⟩
    rw [r2 i _ (lts_at hi)]
    obtain ⟨q, hq⟩ := alwF_ltr ha hi
    have hlz : lz (tx (p + i)) = q := by unfold lz; rw [hq]; rfl
    rw [hlz]
    unfold ltr at hq
    split at hq
    · cases hq; omega
    · cases hq
  · rw [if_neg ha] at hz
    cases hz
theorem both_pages (hM : ML le sz cn L) (hs : srt L) (hw : ∀ w, w ∈ L → wrd w) {tx : Nat → Nat} {n : Nat} (hn : n ≤ 60) {fw : Nat → Option Nat} {fe fr : Nat → Nat} (ha : ∀ e, e ≤ n → SPW L tx n fw fe fr e) {r0 : Nat} (hr0 : fw 0 = some r0) (px pg : Nat → Nat) : ∀ i, ∃ p pR pC w s1 r, mgW tx le sz cn n fr pg i = (p, pR, w) ∧ wr tx fe px p = (s1, pC, w) ∧ Ag w pC pR ∧ p ≤ n ∧ (p = 0 ∧ s1 = fe 0 ∨ 0 < p ∧ s1 = p) ∧ fw p = some r ∧ (i ≤ p ∨ p = n)
  | 0 => ⟨0, pg, px, 0, fe 0, r0, rfl, rfl, (fun i hi => by omega), Nat.zero_le _, Or.inl ⟨rfl, rfl⟩, hr0, Or.inl (Nat.le_refl _)⟩
  | i + 1 => by
    obtain ⟨p, pR, pC, w, s1, r, e1, e2, e3, e4, e5, e6, e7⟩ := both_pages hM hs hw hn ha hr0 px pg i
    by_cases hp : p < n
    · obtain ⟨K, z, r', c1, c2, c3, c4, c5, c6, c7, c8⟩ := SPW.next hM hs hw hn (fun e _ he => ha e he) hp e6
      obtain ⟨d1, d2⟩ := hM.row hs c5
      have hmz : mnb tx le sz cn p K = some z := by rw [hM.nb hs hw]; exact c5
      have hstep : mgW tx le sz cn n fr pg (i + 1) = (p + K, ptk (if 0 < p then va_up pR w 46 else pR) (if 0 < p then w + 1 else w) (fun k => tx (p + k)) K, (if 0 < p then w + 1 else w) + K) := by
        show mgP tx le sz cn n fr (mgW tx le sz cn n fr pg i) = _
        rw [e1, mgP_eq hp c6 hmz, d1]
        by_cases q : 0 < p
        · rw [if_pos q, if_pos q, if_pos q, mpr_ptk, ptk_ext d2]
        · rw [if_neg q, if_neg q, if_neg q, mpr_ptk, ptk_ext d2]
      refine ⟨p + K, _, _, _, p + K, r', hstep, wr_word c1 c4 e2 e5 K c1 (Nat.le_refl _), ?_, c3, Or.inr ⟨by omega, rfl⟩, c7, ?_⟩
      · by_cases q : 0 < p
        · rw [if_pos q, if_pos q, if_pos q]
          exact (e3.up 46).pt _ K
        · rw [if_neg q, if_neg q, if_neg q]
          exact e3.pt _ K
      · rcases e7 with z | z
        · exact Or.inl (by omega)
        · omega
    · have hpn : p = n := by omega
      refine ⟨p, pR, pC, w, s1, r, ?_, e2, e3, e4, e5, e6, Or.inr hpn⟩
      show mgP tx le sz cn n fr (mgW tx le sz cn n fr pg i) = _
      rw [e1]
      exact if_neg hp
/-- the pages are the same as far as they are written -/
theorem same_page (hM : ML le sz cn L) (hs : srt L) (hw : ∀ w, w ∈ L → wrd w) {tx : Nat → Nat} {n : Nat} (hn : n ≤ 60) {fw : Nat → Option Nat} {fe fr : Nat → Nat} (ha : ∀ e, e ≤ n → SPW L tx n fw fe fr e) {r0 : Nat} (hr0 : fw 0 = some r0) (px pg : Nat → Nat) : (wr tx fe px n).2.2 = (mgW tx le sz cn n fr pg n).2.2 ∧ Ag (wr tx fe px n).2.2 (wr tx fe px n).2.1 (mgW tx le sz cn n fr pg n).2.1 := by
  obtain ⟨p, pR, pC, w, s1, r, e1, e2, e3, e4, e5, e6, e7⟩ := both_pages hM hs hw hn ha hr0 px pg n
  have hpn : p = n := by omega
  subst hpn
  rw [e1, e2]
  exact ⟨rfl, e3⟩
end PG
