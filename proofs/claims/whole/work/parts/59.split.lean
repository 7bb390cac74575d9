/-! split: both tables -/
theorem cz_ext {L : List (List Nat)} {tx : Nat → Nat} {f g : Nat → Option Nat} {b : Nat} : ∀ {j : Nat}, (∀ e, b < e → e ≤ b + j → f e = g e) → cz L tx f b j = cz L tx g b j
  | 0, _ => rfl
  | j + 1, h => by
    have ih := cz_ext (L := L) (tx := tx) (j := j) (fun e h1 h2 => h e h1 (by omega))
    show (if (seg L tx b (j + 1)).isSome = true ∧ nw (f (b + j + 1)) ((cz L tx f b j).map Prod.fst) = true then some ((f (b + j + 1)).getD 0 + 1, j + 1) else cz L tx f b j) = if (seg L tx b (j + 1)).isSome = true ∧ nw (g (b + j + 1)) ((cz L tx g b j).map Prod.fst) = true then some ((g (b + j + 1)).getD 0 + 1, j + 1) else cz L tx g b j
    rw [ih, h (b + j + 1) (by omega) (by omega)]
/-- what the tables say at e -/
def SPW (L : List (List Nat)) (tx : Nat → Nat) (n : Nat) (fw : Nat → Option Nat) (fe fr : Nat → Nat) (e : Nat) : Prop :=
  fr e = (fw e).getD 100 ∧ (∀ r, fw e = some r → r ≤ n - e) ∧ (e < n → fw e = (cz L tx fw e (n - e)).map Prod.fst ∧ ∀ r k, cz L tx fw e (n - e) = some (r, k) → fe e = e + k)
section SPB
variable {ch : Nat → Option Nat} {wh : Nat → Bool} {hf hb ln : Nat → Nat} {sw : Nat → Option Nat} {le sz : Nat → Nat} {cn : Nat} {L : List (List Nat)}
theorem both_tables (h : TR ch wh hf hb ln sw L) (hM : ML le sz cn L) (tx : Nat → Nat) {n : Nat} (hn : n ≤ 60) (fw : Nat → Option Nat) (fe fr : Nat → Nat) : ∀ k, k ≤ n → ∀ e, n - k ≤ e → e ≤ n → SPW L tx n (chs ch wh tx n fw fe k).1 (chs ch wh tx n fw fe k).2 (mgO tx le sz cn n fr k) e
  | 0, _, e, h1, h2 => by
    have he : e = n := by omega
    subst he
    refine ⟨?_, fun r hr => ?_, fun q => absurd q (Nat.lt_irrefl _)⟩
    · show va_up fr e 0 e = (va_up fw e (some 0) e).getD 100
      rw [va_up_self, va_up_self]
      rfl
    · have hr : va_up fw e (some 0) e = some r := hr
      rw [va_up_self] at hr
      cases hr
      omega
  | k + 1, hk, e, h1, h2 => by
    have ih := both_tables h hM tx hn fw fe fr k (by omega)
    show SPW L tx n (hs ch wh tx (n - (k + 1)) (chs ch wh tx n fw fe k).1 (chs ch wh tx n fw fe k).2 (k + 1)).2.1 (hs ch wh tx (n - (k + 1)) (chs ch wh tx n fw fe k).1 (chs ch wh tx n fw fe k).2 (k + 1)).2.2 (mgI tx le sz cn (n - (k + 1)) (mgO tx le sz cn n fr k) (min 7 (k + 1))) e
    generalize chs ch wh tx n fw fe k = C at ih
    generalize mgO tx le sz cn n fr k = M at ih
    obtain ⟨F, E⟩ := C
    obtain ⟨-, g2, g3, g4⟩ := h.hsz tx (n - (k + 1)) F E (k + 1)
    obtain ⟨m1, m2, m3⟩ := hM.gI h.2.1 h.2.2.1 tx (b := n - (k + 1)) (n := n) (fw := F) (fr := M) (fun e q1 q2 => ⟨(ih e (by omega) q2).1, fun r hr => by
      have := (ih e (by omega) q2).2.1 r hr
      omega⟩) (min 7 (k + 1)) (by omega)
    have hcz : ∀ e, n - (k + 1) ≤ e → cz L tx (hs ch wh tx (n - (k + 1)) F E (k + 1)).2.1 e (n - e) = cz L tx F e (n - e) := fun e q => cz_ext (fun z z1 z2 => (g2 z (by omega)).1)
    by_cases q : e = n - (k + 1)
    · subst q
      have hnb : n - (n - (k + 1)) = k + 1 := by omega
      refine ⟨?_, fun r hr => ?_, fun _ => ⟨?_, fun r K hK => ?_⟩⟩
      · rw [m1, g3, ← cz_7 h.2.2.1]
      · rw [g3] at hr
        cases hc : cz L tx F (n - (k + 1)) (k + 1) with
        | none => rw [hc] at hr; cases hr
        | some p =>
          obtain ⟨r1, K⟩ := p
          rw [hc] at hr
          cases hr
          obtain ⟨c1, c2, c3, ⟨r', c4, c5⟩, -⟩ := cz_is hc
          have := (ih (n - (k + 1) + K) (by omega) (by omega)).2.1 r' c5
          show r1 ≤ _
          omega
      · rw [hcz _ (Nat.le_refl _), hnb]
        exact g3
      · rw [hcz _ (Nat.le_refl _), hnb] at hK
        exact g4 r K hK
    · obtain ⟨i1, i2, i3⟩ := ih e (by omega) h2
      obtain ⟨j1, j2⟩ := g2 e q
      refine ⟨?_, fun r hr => ?_, fun z => ⟨?_, fun r K hK => ?_⟩⟩
      · rw [m3 e q, j1]
        exact i1
      · rw [j1] at hr
        exact i2 r hr
      · rw [j1, hcz e (by omega)]
        exact (i3 z).1
      · rw [hcz e (by omega)] at hK
        rw [j2]
        exact (i3 z).2 r K hK
/-- the word that both take at p -/
theorem SPW.next {tx : Nat → Nat} {n p r : Nat} {fw : Nat → Option Nat} {fe fr : Nat → Nat} (hM : ML le sz cn L) (hs : srt L) (hw : ∀ w, w ∈ L → wrd w) (hn : n ≤ 60) (ha : ∀ e, p ≤ e → e ≤ n → SPW L tx n fw fe fr e) (hp : p < n) (hr : fw p = some r) : ∃ K z r', 1 ≤ K ∧ K ≤ 7 ∧ p + K ≤ n ∧ fe p = p + K ∧ seg L tx p K = some z ∧ mgk tx le sz cn n fr p 7 = K ∧ fw (p + K) = some r' ∧ r = r' + 1 := by
  obtain ⟨i1, i2, i3⟩ := ha p (Nat.le_refl _) (by omega)
  obtain ⟨j1, j2⟩ := i3 hp
  have hrn := i2 r hr
  rw [hr] at j1 i1
  cases hc : cz L tx fw p (n - p) with
  | none => rw [hc] at j1; cases j1
  | some x =>
    obtain ⟨r1, K⟩ := x
    rw [hc] at j1
    have er : r1 = r := (Option.some.inj j1).symm
    subst er
    obtain ⟨c1, c2, c3, ⟨r', c4, c5⟩, c6⟩ := cz_is hc
    obtain ⟨z, hz⟩ := Option.isSome_iff_exists.mp c3
    have hK7 : K ≤ 7 := by
      rcases Nat.lt_or_ge 7 K with q | q
      · rw [seg_big hw q] at hz
        cases hz
      · exact q
    have hfK := (ha (p + K) (by omega) (by omega)).1
    rw [c5] at hfK
    have i1 : fr p = r1 := i1
    have hfK : fr (p + K) = r' := hfK
    have hyes : p + K ≤ n ∧ mnb tx le sz cn p K ≠ none ∧ fr (p + K) + 1 = fr p := ⟨by omega, by rw [hM.nb hs hw, hz]; simp, by omega⟩
    have hmk : ∀ m, K ≤ m → m ≤ 7 → mgk tx le sz cn n fr p m = K := by
      intro m
      induction m with
      | zero => intro q1 q2; omega
      | succ m ihm =>
        intro q1 q2
        by_cases e : K = m + 1
        · rw [← e]
          exact mgk_yes hyes c1
        · rw [mgk_no ?_ (by omega)]
          · exact ihm (by omega) (by omega)
          · rintro ⟨y1, y2, y3⟩
            rw [hM.nb hs hw] at y2
            have y4 := (ha (p + (m + 1)) (by omega) y1).1
            cases hf : fw (p + (m + 1)) with
            | none =>
              rw [hf] at y4
              have y4 : fr (p + (m + 1)) = 100 := y4
              omega
            | some r2 =>
              rw [hf] at y4
              have y4 : fr (p + (m + 1)) = r2 := y4
              have := c6 (m + 1) (by omega) (by omega) (Option.isSome_iff_ne_none.mpr y2) r2 hf
              omega
    exact ⟨K, z, r', c1, hK7, by omega, j2 _ _ hc, hz, hmk 7 hK7 (Nat.le_refl _), c5, c4⟩
end SPB
