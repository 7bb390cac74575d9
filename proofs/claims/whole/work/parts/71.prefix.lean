/-! The reference's list of beginnings -/
theorem lx_mid : ∀ (u a b c : List Nat), lx a b = true → lx b c = true → u <+: a → u <+: c → u <+: b
  | [], _, _, _, _, _, _, _ => List.nil_prefix
  | x :: u, [], _, _, _, _, h, _ => by
    have := h.length_le
    simp at this
  | x :: u, _ :: _, _, [], _, _, _, h => by
    have := h.length_le
    simp at this
  | x :: u, _ :: _, [], _ :: _, h, _, _, _ => by cases h
  | x :: u, a1 :: a, b1 :: b, c1 :: c, h1, h2, h3, h4 => by
    rw [List.cons_prefix_cons] at h3 h4 ⊢
    obtain ⟨rfl, h3⟩ := h3
    obtain ⟨rfl, h4⟩ := h4
    rw [lx_cons] at h1 h2
    rcases h1 with h1 | ⟨rfl, h1⟩
    · rcases h2 with h2 | ⟨rfl, h2⟩ <;> omega
    · rcases h2 with h2 | ⟨-, h2⟩
      · omega
      · exact ⟨rfl, lx_mid u a b c h1 h2 h3 h4⟩
/-- words with one beginning lie side by side -/
theorem srt_mid {L : List (List Nat)} (hs : srt L) {u x y z : List Nat} {i j k : Nat} (hi : L[i]? = some x) (hj : L[j]? = some y) (hk : L[k]? = some z) (h1 : i ≤ j) (h2 : j ≤ k) (hx : u <+: x) (hz : u <+: z) : u <+: y := by
  by_cases e1 : i = j
  · subst e1
    rw [hi] at hj
    cases hj
    exact hx
  · by_cases e2 : j = k
    · subst e2
      rw [hk] at hj
      cases hj
      exact hz
    · exact lx_mid u x y z (srt_idx hs hi hj (by omega)) (srt_idx hs hj hk (by omega)) hx hz
def pfL (L : List (List Nat)) (lo dp : Nat → Nat) (i : Nat) : List Nat := ((L[lo i]?).getD []).take (dp i)
/-- the rows are right, none twice, and which beginnings stand there -/
def PX (L : List (List Nat)) (s : pst4) (Q : List Nat → Prop) : Prop :=
  (∀ i, i < s.1 → (pfL L s.2.1 s.2.2.2 i).length = s.2.2.2 i ∧ s.2.1 i ≤ s.2.2.1 i ∧ s.2.2.1 i ≤ L.length ∧ ∀ (j : Nat) (u : List Nat), L[j]? = some u → ((s.2.1 i ≤ j ∧ j < s.2.2.1 i) ↔ pfL L s.2.1 s.2.2.2 i <+: u)) ∧
  (∀ i j, i < s.1 → j < s.1 → pfL L s.2.1 s.2.2.2 i = pfL L s.2.1 s.2.2.2 j → i = j) ∧
  (∀ u, (∃ i, i < s.1 ∧ pfL L s.2.1 s.2.2.2 i = u) ↔ Q u)
theorem PX.cong {L : List (List Nat)} {s : pst4} {Q Q' : List Nat → Prop} (h : PX L s Q) (hq : ∀ u, Q u ↔ Q' u) : PX L s Q' := ⟨h.1, h.2.1, fun u => (h.2.2 u).trans (hq u)⟩
theorem PX.step {L : List (List Nat)} {s : pst4} {Q : List Nat → Prop} (h : PX L s Q) {w n hh : Nat} {x : List Nat} (hw : L[w]? = some x) (hn : n ≤ x.length) (hQ : ¬ Q (x.take n)) (h1 : w ≤ hh) (h2 : hh ≤ L.length) (h3 : ∀ (j : Nat) (u : List Nat), L[j]? = some u → ((w ≤ j ∧ j < hh) ↔ x.take n <+: u)) :
    PX L (s.1 + 1, va_up s.2.1 s.1 w, va_up s.2.2.1 s.1 hh, va_up s.2.2.2 s.1 n) (fun u => Q u ∨ u = x.take n) := by
  obtain ⟨N, lo, hi, dp⟩ := s
  obtain ⟨a1, a2, a3⟩ := h
  have a1 : ∀ i, i < N → (pfL L lo dp i).length = dp i ∧ lo i ≤ hi i ∧ hi i ≤ L.length ∧ ∀ (j : Nat) (u : List Nat), L[j]? = some u → ((lo i ≤ j ∧ j < hi i) ↔ pfL L lo dp i <+: u) := a1
  have a2 : ∀ i j, i < N → j < N → pfL L lo dp i = pfL L lo dp j → i = j := a2
  have a3 : ∀ u, (∃ i, i < N ∧ pfL L lo dp i = u) ↔ Q u := a3
  have e1 : pfL L (va_up lo N w) (va_up dp N n) N = x.take n := by
    unfold pfL
    rw [va_up_self, va_up_self, hw]
    rfl
  have e2 : ∀ i, i < N → pfL L (va_up lo N w) (va_up dp N n) i = pfL L lo dp i := by
    intro i hi2
    unfold pfL
    rw [va_up_ne _ _ (by omega), va_up_ne _ _ (by omega)]
  refine ⟨?_, ?_, ?_⟩
  · show ∀ i, i < N + 1 → (pfL L (va_up lo N w) (va_up dp N n) i).length = va_up dp N n i ∧ va_up lo N w i ≤ va_up hi N hh i ∧ va_up hi N hh i ≤ L.length ∧ ∀ (j : Nat) (u : List Nat), L[j]? = some u → ((va_up lo N w i ≤ j ∧ j < va_up hi N hh i) ↔ pfL L (va_up lo N w) (va_up dp N n) i <+: u)
    intro i hi2
    by_cases e : i = N
    · subst e
      rw [e1, va_up_self, va_up_self, va_up_self]
      exact ⟨by rw [List.length_take]; omega, h1, h2, h3⟩
    · rw [e2 i (by omega), va_up_ne _ _ e, va_up_ne _ _ e, va_up_ne _ _ e]
      exact a1 i (by omega)
  · show ∀ i j, i < N + 1 → j < N + 1 → pfL L (va_up lo N w) (va_up dp N n) i = pfL L (va_up lo N w) (va_up dp N n) j → i = j
    intro i j hi2 hj2 e
    by_cases ei : i = N
    · by_cases ej : j = N
      · omega
      · exfalso
        rw [ei, e1, e2 j (by omega)] at e
        exact hQ ((a3 _).mp ⟨j, by omega, e.symm⟩)
    · by_cases ej : j = N
      · exfalso
        rw [ej, e1, e2 i (by omega)] at e
        exact hQ ((a3 _).mp ⟨i, by omega, e⟩)
      · rw [e2 i (by omega), e2 j (by omega)] at e
        exact a2 i j (by omega) (by omega) e
  · show ∀ u, (∃ i, i < N + 1 ∧ pfL L (va_up lo N w) (va_up dp N n) i = u) ↔ Q u ∨ u = x.take n
    intro u
    constructor
    · rintro ⟨i, hi2, e⟩
      by_cases ei : i = N
      · rw [ei, e1] at e
        exact Or.inr e.symm
      · rw [e2 i (by omega)] at e
        exact Or.inl ((a3 u).mp ⟨i, by omega, e⟩)
    · rintro (e | e)
      · obtain ⟨i, hi2, e3⟩ := (a3 u).mpr e
        exact ⟨i, by omega, by rw [e2 i hi2]; exact e3⟩
      · exact ⟨N, by omega, by rw [e1]; exact e.symm⟩
section MP
variable {le sz : Nat → Nat} {cn : Nat} {L : List (List Nat)}
theorem msh_is {a b n : Nat} {x y : List Nat} (ha : RW le sz a x) (hb : RW le sz b y) : ∀ k, k ≤ n → (msh le sz a b n k = true ↔ n ≤ x.length ∧ n ≤ y.length ∧ x.take k = y.take k)
  | 0, _ => by
    show decide (n ≤ sz a ∧ n ≤ sz b) = true ↔ _
    rw [decide_eq_true_iff, ha.1, hb.1]
    simp
  | k + 1, hk => by
    show (msh le sz a b n k && decide (le (7 * a + k) = le (7 * b + k))) = true ↔ _
    rw [Bool.and_eq_true, msh_is ha hb k (by omega), decide_eq_true_iff]
    constructor
    · rintro ⟨⟨h1, h2, h3⟩, h4⟩
      obtain ⟨c, hc⟩ : ∃ c, x[k]? = some c := ⟨_, List.getElem?_eq_getElem (by omega)⟩
      obtain ⟨d, hd⟩ : ∃ d, y[k]? = some d := ⟨_, List.getElem?_eq_getElem (by omega)⟩
      rw [ha.2 k c hc, hb.2 k d hd] at h4
      refine ⟨h1, h2, ?_⟩
      rw [List.take_add_one, List.take_add_one, hc, hd, h3, show c = d by omega]
    · rintro ⟨h1, h2, h3⟩
      obtain ⟨c, hc⟩ : ∃ c, x[k]? = some c := ⟨_, List.getElem?_eq_getElem (by omega)⟩
      obtain ⟨d, hd⟩ : ∃ d, y[k]? = some d := ⟨_, List.getElem?_eq_getElem (by omega)⟩
      rw [List.take_add_one, List.take_add_one, hc, hd] at h3
      obtain ⟨e1, e2⟩ := List.append_inj' h3 rfl
      have e2 : c = d := by simpa using e2
      exact ⟨⟨h1, h2, e1⟩, by rw [ha.2 k c hc, hb.2 k d hd, e2]⟩
theorem take_pre {n : Nat} {x y : List Nat} (hn : n ≤ x.length) : x.take n <+: y ↔ n ≤ y.length ∧ x.take n = y.take n := by
  have hl : (x.take n).length = n := by rw [List.length_take]; omega
  constructor
  · intro h
    have h1 := h.length_le
    have h2 := List.prefix_iff_eq_take.mp h
    rw [hl] at h1 h2
    exact ⟨h1, h2⟩
  · rintro ⟨h1, h2⟩
    rw [h2]
    exact List.take_prefix _ _
theorem ML.share (h : ML le sz cn L) {a b n : Nat} {x y : List Nat} (ha : L[a]? = some x) (hb : L[b]? = some y) (hn : n ≤ x.length) : msh le sz a b n n = true ↔ x.take n <+: y := by
  rw [msh_is (h.2 a x ha) (h.2 b y hb) n (Nat.le_refl _), take_pre hn]
  exact ⟨fun q => q.2, fun q => ⟨hn, q⟩⟩
theorem mfe_is {w n : Nat} : ∀ (f e : Nat), w < e → e ≤ cn → cn < e + f → (∀ j, w < j → j < e → msh le sz w j n n = true) →
    e ≤ mfe le sz w n cn f e ∧ mfe le sz w n cn f e ≤ cn ∧ (∀ j, w < j → j < mfe le sz w n cn f e → msh le sz w j n n = true) ∧ (mfe le sz w n cn f e < cn → msh le sz w (mfe le sz w n cn f e) n n = false)
  | 0, e, _, h2, h3, _ => by omega
  | f + 1, e, h1, h2, h3, h4 => by
    by_cases q : e < cn ∧ msh le sz w e n n = true
    · rw [mfe_next q]
      obtain ⟨i1, i2, i3, i4⟩ := mfe_is (w := w) (n := n) f (e + 1) (by omega) (by omega) (by omega) (fun j hj1 hj2 => by
        by_cases z : j = e
        · rw [z]; exact q.2
        · exact h4 j hj1 (by omega))
      exact ⟨by omega, i2, i3, i4⟩
    · rw [mfe_end q]
      refine ⟨Nat.le_refl _, h2, h4, fun z => ?_⟩
      cases hz : msh le sz w e n n with
      | false => rfl
      | true => exact absurd ⟨z, hz⟩ q
/-- the words' beginnings so far -/
def qw (L : List (List Nat)) (w : Nat) (u : List Nat) : Prop := u = [] ∨ ∃ (j : Nat) (x : List Nat), j < w ∧ L[j]? = some x ∧ u <+: x
theorem ML.pI (h : ML le sz cn L) (hs : srt L) (hc : cn ≤ 30) {w : Nat} {x : List Nat} (hx : L[w]? = some x) {s : pst4} (hP : PX L s (qw L w)) : ∀ k, k ≤ x.length → PX L (mfI le sz cn w s k) (fun u => qw L w u ∨ (u <+: x ∧ u.length ≤ k))
  | 0, _ => hP.cong (fun u => ⟨Or.inl, fun q => q.elim id (fun z => Or.inl (List.length_eq_zero_iff.mp (Nat.le_zero.mp z.2)))⟩)
  | k + 1, hk => by
    have ih := ML.pI h hs hc hx hP k (by omega)
    show PX L (mfS le sz cn w (k + 1) (mfI le sz cn w s k)) _
    generalize mfI le sz cn w s k = t at ih
    have hwl : w < cn := by rw [← h.1]; exact (List.getElem?_eq_some_iff.mp hx).1
    have hlen : (x.take (k + 1)).length = k + 1 := by rw [List.length_take]; omega
    have hcg : ∀ u, ((qw L w u ∨ (u <+: x ∧ u.length ≤ k)) ∨ u = x.take (k + 1)) ↔ (qw L w u ∨ (u <+: x ∧ u.length ≤ k + 1)) := by
      intro u
      constructor
      · rintro ((q | ⟨q1, q2⟩) | q)
        · exact Or.inl q
        · exact Or.inr ⟨q1, by omega⟩
        · exact Or.inr ⟨by rw [q]; exact List.take_prefix _ _, by rw [q, hlen]; exact Nat.le_refl _⟩
      · rintro (q | ⟨q1, q2⟩)
        · exact Or.inl (Or.inl q)
        · by_cases z : u.length ≤ k
          · exact Or.inl (Or.inr ⟨q1, z⟩)
          · right
            have := List.prefix_iff_eq_take.mp q1
            rw [show u.length = k + 1 by omega] at this
            exact this
    have hqw : qw L w (x.take (k + 1)) ↔ 0 < w ∧ msh le sz (w - 1) w (k + 1) (k + 1) = true := by
      constructor
      · rintro (q | ⟨j, y, hj, hy, q⟩)
        · rw [q] at hlen
          cases hlen
        · refine ⟨by omega, ?_⟩
          obtain ⟨z, hz⟩ : ∃ z, L[w - 1]? = some z := ⟨_, List.getElem?_eq_getElem (by rw [h.1]; omega)⟩
          have hm := srt_mid hs hy hz hx (by omega) (by omega) q (List.take_prefix _ _)
          have h2 := (take_pre hk).mp hm
          rw [h.share hz hx h2.1, ← h2.2]
          exact List.take_prefix _ _
      · rintro ⟨q1, q2⟩
        obtain ⟨z, hz⟩ : ∃ z, L[w - 1]? = some z := ⟨_, List.getElem?_eq_getElem (by rw [h.1]; omega)⟩
        have h3 := (msh_is (h.2 _ z hz) (h.2 w x hx) (k + 1) (Nat.le_refl _)).mp q2
        exact Or.inr ⟨w - 1, z, by omega, hz, by rw [← h3.2.2]; exact List.take_prefix _ _⟩
    by_cases hnew : w = 0 ∨ msh le sz (w - 1) w (k + 1) (k + 1) = false
    · have hno : ¬ qw L w (x.take (k + 1)) := by
        rw [hqw]
        rintro ⟨q1, q2⟩
        rcases hnew with z | z
        · omega
        · rw [z] at q2; cases q2
      rw [show mfS le sz cn w (k + 1) t = (t.1 + 1, va_up t.2.1 t.1 w, va_up t.2.2.1 t.1 (mfe le sz w (k + 1) cn 31 (w + 1)), va_up t.2.2.2 t.1 (k + 1)) from if_pos hnew]
      obtain ⟨i1, i2, i3, i4⟩ := mfe_is (le := le) (sz := sz) (cn := cn) (w := w) (n := k + 1) 31 (w + 1) (by omega) (by omega) (by omega) (fun j hj1 hj2 => by omega)
      refine (ih.step hx hk ?_ ?_ ?_ ?_).cong hcg
      · rintro (q | ⟨-, q⟩)
        · exact hno q
        · omega
      · omega
      · rw [h.1]; exact i2
      · intro j u hj
        have hjl : j < cn := by rw [← h.1]; exact (List.getElem?_eq_some_iff.mp hj).1
        constructor
        · rintro ⟨q1, q2⟩
          by_cases e : j = w
          · subst e
            rw [hx] at hj
            cases hj
            exact List.take_prefix _ _
          · exact (h.share hx hj hk).mp (i3 j (by omega) q2)
        · intro q
          constructor
          · apply Nat.le_of_not_lt
            intro z
            exact hno (Or.inr ⟨j, u, z, hj, q⟩)
          · apply Nat.lt_of_not_le
            intro z
            have hlt : mfe le sz w (k + 1) cn 31 (w + 1) < cn := by omega
            obtain ⟨y, hy⟩ : ∃ y, L[mfe le sz w (k + 1) cn 31 (w + 1)]? = some y := ⟨_, List.getElem?_eq_getElem (by rw [h.1]; omega)⟩
            have hm := srt_mid hs hx hy hj (by omega) z (List.take_prefix _ _) q
            have := (h.share hx hy hk).mpr hm
            rw [i4 hlt] at this
            cases this
    · rw [show mfS le sz cn w (k + 1) t = t from if_neg hnew]
      refine ih.cong (fun u => Iff.trans ?_ (hcg u))
      constructor
      · exact Or.inl
      · rintro (q | q)
        · exact q
        · left
          rw [q, hqw]
          constructor
          · omega
          · cases hz : msh le sz (w - 1) w (k + 1) (k + 1) with
            | true => rfl
            | false => exact absurd (Or.inr hz) hnew
theorem ML.pO (h : ML le sz cn L) (hs : srt L) (hc : cn ≤ 30) (lo hi dp : Nat → Nat) : ∀ w, w ≤ cn → PX L (mfO le sz cn lo hi dp w) (qw L w)
  | 0, _ => by
    have e0 : pfL L (va_up lo 0 0) (va_up dp 0 0) 0 = [] := by
      unfold pfL
      rw [va_up_self dp]
      rfl
    refine ⟨?_, ?_, ?_⟩
    · show ∀ i, i < 1 → (pfL L (va_up lo 0 0) (va_up dp 0 0) i).length = va_up dp 0 0 i ∧ va_up lo 0 0 i ≤ va_up hi 0 cn i ∧ va_up hi 0 cn i ≤ L.length ∧ ∀ (j : Nat) (u : List Nat), L[j]? = some u → ((va_up lo 0 0 i ≤ j ∧ j < va_up hi 0 cn i) ↔ pfL L (va_up lo 0 0) (va_up dp 0 0) i <+: u)
      intro i hi2
      have : i = 0 := by omega
      subst this
      rw [e0, va_up_self, va_up_self, va_up_self]
      refine ⟨rfl, Nat.zero_le _, Nat.le_of_eq h.1.symm, fun j u hj => ⟨fun _ => List.nil_prefix, fun _ => ⟨Nat.zero_le _, ?_⟩⟩⟩
      rw [← h.1]
      exact (List.getElem?_eq_some_iff.mp hj).1
    · show ∀ i j, i < 1 → j < 1 → _ → i = j
      intro i j hi2 hj2 _
      omega
    · show ∀ u, (∃ i, i < 1 ∧ pfL L (va_up lo 0 0) (va_up dp 0 0) i = u) ↔ qw L 0 u
      intro u
      constructor
      · rintro ⟨i, hi2, e⟩
        have : i = 0 := by omega
        subst this
        rw [e0] at e
        exact Or.inl e.symm
      · rintro (e | ⟨j, x, hj, -⟩)
        · exact ⟨0, by omega, by rw [e0]; exact e.symm⟩
        · omega
  | w + 1, hw => by
    have ih := ML.pO h hs hc lo hi dp w (by omega)
    obtain ⟨x, hx⟩ : ∃ x, L[w]? = some x := ⟨_, List.getElem?_eq_getElem (by rw [h.1]; omega)⟩
    show PX L (mfI le sz cn w (mfO le sz cn lo hi dp w) (sz w)) _
    rw [(h.2 w x hx).1]
    refine (h.pI hs hc hx ih x.length (Nat.le_refl _)).cong (fun u => ?_)
    constructor
    · rintro ((q | ⟨j, y, hj, hy, q⟩) | ⟨q, -⟩)
      · exact Or.inl q
      · exact Or.inr ⟨j, y, by omega, hy, q⟩
      · exact Or.inr ⟨w, x, by omega, hx, q⟩
    · rintro (q | ⟨j, y, hj, hy, q⟩)
      · exact Or.inl (Or.inl q)
      · by_cases e : j = w
        · subst e
          rw [hx] at hy
          cases hy
          exact Or.inr ⟨q, q.length_le⟩
        · exact Or.inl (Or.inr ⟨j, y, by omega, hy, q⟩)
end MP
