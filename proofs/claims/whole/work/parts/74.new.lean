/-! The new object's automaton; what split asks -/
theorem AT.new0 : AT (fun _ => none) (fun _ => false) (fun _ => 0) (va_up (fun _ => 0) 0 1) (fun _ => false) (fun _ => none) [0] ∧ NS (fun _ => none) [0] := by
  have hne : ∀ s, va_up (fun _ => 0) 0 1 s ≠ 0 → s = 0 := by
    intro s hs
    by_cases e : s = 0
    · exact e
    · rw [va_up_ne _ _ e] at hs
      exact absurd rfl hs
  refine ⟨⟨⟨by simp, fun p hp => ?_⟩, fun s => ?_, fun p hp => ?_, fun p hp x q hx hq => (by cases hq), fun s t hs ht _ _ => ?_⟩, fun p => ⟨fun hp => ?_, ?_⟩⟩
  · rw [List.mem_singleton.mp hp]
    omega
  · by_cases e : s = 0
    · subst e
      rw [va_up_self]
      rfl
    · rw [va_up_ne _ _ e, List.countP_cons, List.countP_nil, if_neg (fun z => e (of_decide_eq_true z).symm)]
  · exact ⟨by show 0 < 211; omega, rfl, fun x _ => rfl⟩
  · rw [hne s hs, hne t ht]
  · rw [List.mem_singleton.mp hp]
    exact ⟨[], lets_nil, rfl⟩
  · rintro ⟨u, hu, hp⟩
    rcases snoc_cases u with e | ⟨v, x, e⟩
    · subst e
      rw [nod_nil] at hp
      rw [← Option.some.inj hp]
      exact List.mem_singleton.mpr rfl
    · subst e
      obtain ⟨q, -, hq⟩ := nod_up hp
      cases hq
/-- the empty reference -/
theorem ML.new0 (le sz : Nat → Nat) : ML le sz 0 [] := ⟨rfl, fun w u h => by cases h⟩
section SQ
variable {ch : Nat → Option Nat} {wh : Nat → Bool} {hf hb ln : Nat → Nat} {sw : Nat → Option Nat} {le sz : Nat → Nat} {cn : Nat} {L : List (List Nat)}
theorem hs_fe {tx : Nat → Nat} {b n : Nat} {fw : Nat → Option Nat} {fe : Nat → Nat} (h : ∀ i, fe i ≤ 60) (hn : n ≤ 60) : ∀ j, b + j ≤ n → ∀ i, (hs ch wh tx b fw fe j).2.2 i ≤ 60
  | 0, _ => h
  | j + 1, hj => by
    have ih := hs_fe (tx := tx) (b := b) (fw := fw) h hn j (by omega)
    show ∀ i, (hsS ch wh tx b j (hs ch wh tx b fw fe j)).2.2 i ≤ 60
    generalize hs ch wh tx b fw fe j = s at ih
    unfold hsS
    by_cases q : whO wh (stp ch s.1 (tx (b + j))) = true ∧ nw (s.2.1 (b + j + 1)) (s.2.1 b) = true
    · simp only [q, and_self, if_true]
      exact up_le ih (Nat.le_refl _) (by omega)
    · simp only [q, if_false]
      exact ih
theorem chs_fe {tx : Nat → Nat} {n : Nat} {fw : Nat → Option Nat} {fe : Nat → Nat} (h : ∀ i, fe i ≤ 60) (hn : n ≤ 60) : ∀ k, k ≤ n → ∀ i, (chs ch wh tx n fw fe k).2 i ≤ 60
  | 0, _ => h
  | k + 1, hk => by
    have ih := chs_fe (tx := tx) (fw := fw) h hn k (by omega)
    show ∀ i, (hs ch wh tx (n - (k + 1)) (chs ch wh tx n fw fe k).1 (chs ch wh tx n fw fe k).2 (k + 1)).2.2 i ≤ 60
    exact hs_fe (n := n) ih hn (k + 1) (by omega)
theorem TR.chs_off (h : TR ch wh hf hb ln sw L) {tx : Nat → Nat} {n : Nat} {fw : Nat → Option Nat} {fe : Nat → Nat} : ∀ k, k ≤ n → ∀ i, n < i → (chs ch wh tx n fw fe k).1 i = fw i
  | 0, _, i, hi => va_up_ne _ _ (by omega)
  | k + 1, hk, i, hi => by
    have ih := TR.chs_off h (tx := tx) (fw := fw) (fe := fe) k (by omega) i hi
    show (hs ch wh tx (n - (k + 1)) (chs ch wh tx n fw fe k).1 (chs ch wh tx n fw fe k).2 (k + 1)).2.1 i = _
    rw [((h.hsz tx (n - (k + 1)) (chs ch wh tx n fw fe k).1 (chs ch wh tx n fw fe k).2 (k + 1)).2.1 i (by omega)).1]
    exact ih
theorem split_ok (h : TR ch wh hf hb ln sw L) (hM : ML le sz cn L) (tx : Nat → Nat) {n : Nat} (hn : n ≤ 60) (fw : Nat → Option Nat) (fe fr : Nat → Nat) (hfw : ∀ i z, fw i = some z → z ≤ 60) (hfe : ∀ i, fe i ≤ 60) :
    (∀ i z, (chs ch wh tx n fw fe n).1 i = some z → z ≤ 60) ∧ (∀ i, (chs ch wh tx n fw fe n).2 i ≤ 60) ∧
    (∀ p, p < n → (mgO tx le sz cn n fr n) p < 100 → 1 ≤ mgk tx le sz cn n (mgO tx le sz cn n fr n) p 7) ∧
    (mgO tx le sz cn n fr n) 0 = ((chs ch wh tx n fw fe n).1 0).getD 100 ∧
    (∀ r, (chs ch wh tx n fw fe n).1 0 = some r → r ≤ 60 ∧ (0 < n → 0 < (chs ch wh tx n fw fe n).2 0)) ∧
    (∀ r, (chs ch wh tx n fw fe n).1 0 = some r → ∀ px pg : Nat → Nat, (wr tx (chs ch wh tx n fw fe n).2 px n).2.2 = (mgW tx le sz cn n (mgO tx le sz cn n fr n) pg n).2.2 ∧ Ag (wr tx (chs ch wh tx n fw fe n).2 px n).2.2 (wr tx (chs ch wh tx n fw fe n).2 px n).2.1 (mgW tx le sz cn n (mgO tx le sz cn n fr n) pg n).2.1) := by
  have hb := both_tables h hM tx hn fw fe fr n (Nat.le_refl _)
  have hB : ∀ e, e ≤ n → SPW L tx n (chs ch wh tx n fw fe n).1 (chs ch wh tx n fw fe n).2 (mgO tx le sz cn n fr n) e := fun e he => hb e (by omega) he
  refine ⟨fun i z hz => ?_, chs_fe hfe hn n (Nat.le_refl _), fun p hp hlt => ?_, (hB 0 (Nat.zero_le _)).1, fun r hr => ⟨?_, fun h0 => ?_⟩, fun r hr px pg => same_page hM h.2.1 h.2.2.1 hn hB hr px pg⟩
  · rcases Nat.lt_or_ge n i with q | q
    · rw [h.chs_off n (Nat.le_refl _) i q] at hz
      exact hfw i z hz
    · have := (hB i q).2.1 z hz
      omega
  · have h1 := (hB p (by omega)).1
    cases hf2 : (chs ch wh tx n fw fe n).1 p with
    | none =>
      rw [hf2] at h1
      have h1 : mgO tx le sz cn n fr n p = 100 := h1
      omega
    | some r =>
      obtain ⟨K, z, r', c1, c2, c3, c4, c5, c6, c7, c8⟩ := SPW.next hM h.2.1 h.2.2.1 hn (fun e _ he => hB e he) hp hf2
      rw [c6]
      exact c1
  · have := (hB 0 (Nat.zero_le _)).2.1 r hr
    omega
  · obtain ⟨K, z, r', c1, c2, c3, c4, c5, c6, c7, c8⟩ := SPW.next hM h.2.1 h.2.2.1 hn (fun e _ he => hB e he) h0 hr
    rw [c4]
    omega
theorem ML.szk (hM : ML le sz cn L) (hs : srt L) (hw : ∀ w, w ∈ L → wrd w) (tx : Nat → Nat) : ∀ b k z, mnb tx le sz cn b k = some z → sz z = k := by
  intro b k z hz
  rw [hM.nb hs hw] at hz
  exact (hM.row hs hz).1
theorem ML.le1 (hM : ML le sz cn L) : ∀ w, w < cn → ∀ k, k < sz w → 1 ≤ le (7 * w + k) := by
  intro w hw k hk
  obtain ⟨u, hu⟩ : ∃ u, L[w]? = some u := ⟨_, List.getElem?_eq_getElem (by rw [hM.1]; omega)⟩
  obtain ⟨r1, r2⟩ := hM.2 w u hu
  obtain ⟨x, hx⟩ : ∃ x, u[k]? = some x := ⟨_, List.getElem?_eq_getElem (by omega)⟩
  rw [r2 k x hx]
  omega
end SQ
