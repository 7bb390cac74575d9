/-! All reached cells have states; the path of a word leaves and comes -/
def NS (ch : Nat → Option Nat) (S : List Nat) : Prop := ∀ p, p ∈ S ↔ ∃ u, lets u ∧ nod ch u = some p
/-- .. all but the beginnings of w -/
def NO (ch : Nat → Option Nat) (w : List Nat) (S : List Nat) : Prop := ∀ p, p ∈ S ↔ ∃ u, lets u ∧ nod ch u = some p ∧ ¬ u <+: w
section PU
variable {ch : Nat → Option Nat} {wh : Nat → Bool} {hf : Nat → Nat} {L : List (List Nat)} {so mb : Nat → Nat} {ac : Nat → Bool} {tg : Nat → Option Nat} {S : List Nat} {tx : Nat → Nat} {n : Nat} {pa : Nat → Nat}
theorem lts_is_pre {u : List Nat} (h : u <+: lts tx 0 n) : u.length ≤ n ∧ u = lts tx 0 u.length := by
  have h1 := h.length_le
  rw [lts_len] at h1
  have h2 := List.prefix_iff_eq_take.mp h
  have h3 := List.prefix_iff_eq_take.mp (lts_pre (tx := tx) (b := 0) h1)
  rw [lts_len] at h3
  exact ⟨h1, by rw [h3]; exact h2⟩
theorem path_inj (hT : TP ch wh hf L []) (ha : alwF tx 0 n = true) (hn : n ≤ 7) (i j : Nat) (hi : i < trc ch tx n n8) (hj : j < trc ch tx n n8) (e : trp ch tx n pa n8 i = trp ch tx n pa n8 j) : i = j := by
  have p1 := (path_is (ch := ch) (pa := pa) ha hn).2 i hi
  have p2 := (path_is (ch := ch) (pa := pa) ha hn).2 j hj
  rw [e] at p1
  have := hT.2.1 _ _ _ (lts_lets tx 0 i) (lts_lets tx 0 j) p1 p2
  have := congrArg List.length this
  rw [lts_len, lts_len] at this
  exact this
theorem path_up (hT : TP ch wh hf L []) (hS : NS ch S) (ha : alwF tx 0 n = true) (hn : n ≤ 7) (k q x : Nat) (hk : k < trc ch tx n n8) (hq : q ∈ S) (hx : x < 8) (hc : ch (q * 8 + x) = some (trp ch tx n pa n8 k)) : ∃ i, i < k ∧ trp ch tx n pa n8 i = q := by
  obtain ⟨u, hu, hn2⟩ := (hS q).mp hq
  have p1 := (path_is (ch := ch) (pa := pa) ha hn).2 k hk
  have p2 : nod ch (u ++ [x]) = some (trp ch tx n pa n8 k) := by rw [nod_snoc_s hn2]; exact hc
  have e := hT.2.1 _ _ _ (lets_snoc.mpr ⟨hu, hx⟩) (lts_lets tx 0 k) p2 p1
  have hlen := congrArg List.length e
  rw [lts_len, List.length_append, List.length_singleton] at hlen
  obtain ⟨j, rfl⟩ : ∃ j, k = j + 1 := ⟨k - 1, by omega⟩
  rw [lts_succ] at e
  obtain ⟨e1, -⟩ := List.append_inj' e rfl
  have p3 := (path_is (ch := ch) (pa := pa) ha hn).2 j (by omega)
  rw [← e1, hn2] at p3
  exact ⟨j, by omega, (Option.some.inj p3).symm⟩
theorem path_in (hS : NS ch S) (ha : alwF tx 0 n = true) (hn : n ≤ 7) (i : Nat) (hi : i < trc ch tx n n8) : trp ch tx n pa n8 i ∈ S := (hS _).mpr ⟨_, lts_lets tx 0 i, (path_is (ch := ch) (pa := pa) ha hn).2 i hi⟩
/-- the path leaves -/
theorem AT.gone (hA : AT ch wh so mb ac tg S) (hT : TP ch wh hf L []) (hS : NS ch S) (ha : alwF tx 0 n = true) (hn : n ≤ 7) :
    AT ch wh so (rel so (trp ch tx n pa n8) mb (trc ch tx n n8)) ac tg (ers S (trp ch tx n pa n8) (trc ch tx n n8)) ∧ NO ch (lts tx 0 n) (ers S (trp ch tx n pa n8) (trc ch tx n n8)) ∧ ∀ k, k < trc ch tx n n8 → 1 ≤ rel so (trp ch tx n pa n8) mb k (so (trp ch tx n pa n8 k)) := by
  have h1 := path_inj (pa := pa) hT ha hn
  have h2 := path_in (pa := pa) hS ha hn
  have h3 := path_up (pa := pa) hT hS ha hn
  refine ⟨hA.release h1 h2 h3 _ (Nat.le_refl _), fun p => ?_, hA.has h1 h2 h3⟩
  rw [(ers_in hA.1.1 _).2, hS]
  obtain ⟨q1, q2⟩ := path_is (ch := ch) (pa := pa) ha hn
  constructor
  · rintro ⟨⟨u, hu, hp⟩, hno⟩
    refine ⟨u, hu, hp, fun hpre => ?_⟩
    obtain ⟨g1, g2⟩ := lts_is_pre hpre
    rw [g2] at hp
    have hi := (q1 u.length).mpr ⟨g1, by rw [hp]; simp⟩
    have := q2 _ hi
    rw [hp] at this
    exact hno _ hi (Option.some.inj this).symm
  · rintro ⟨u, hu, hp, hno⟩
    refine ⟨⟨u, hu, hp⟩, fun i hi e => hno ?_⟩
    have h4 := q2 i hi
    rw [e] at h4
    rw [hT.2.1 _ _ _ hu (lts_lets tx 0 i) hp h4]
    exact lts_pre ((q1 i).mp hi).1
/-- the path comes -/
theorem AT.back (hA : AT ch wh so mb ac tg S) (wn : Nat → Option Nat) (hT : TP ch wh hf L []) (hS : NO ch (lts tx 0 n) S) (ha : alwF tx 0 n = true) (hn : n ≤ 7) :
    AT ch wh (rcv ch wh (trp ch tx n pa n8) (trc ch tx n n8) (so, mb, ac, tg, wn) (trc ch tx n n8)).1 (rcv ch wh (trp ch tx n pa n8) (trc ch tx n n8) (so, mb, ac, tg, wn) (trc ch tx n n8)).2.1 (rcv ch wh (trp ch tx n pa n8) (trc ch tx n n8) (so, mb, ac, tg, wn) (trc ch tx n n8)).2.2.1 (rcv ch wh (trp ch tx n pa n8) (trc ch tx n n8) (so, mb, ac, tg, wn) (trc ch tx n n8)).2.2.2.1 (fro S (trp ch tx n pa n8) (trc ch tx n n8) (trc ch tx n n8)) ∧ NS ch (fro S (trp ch tx n pa n8) (trc ch tx n n8) (trc ch tx n n8)) := by
  obtain ⟨q1, q2⟩ := path_is (ch := ch) (pa := pa) ha hn
  have hlt : ∀ u p, lets u → nod ch u = some p → p < 211 := by
    intro u p hu hp
    rcases snoc_cases u with rfl | ⟨v, y, rfl⟩
    · cases hp; omega
    · obtain ⟨r, -, hr⟩ := nod_up hp
      exact (hT.1 _ _ hr).2
  refine ⟨hA.receive wn (path_inj (pa := pa) hT ha hn) (fun i hi => ⟨fun hm => ?_, hlt _ _ (lts_lets tx 0 i) (q2 i hi)⟩) (fun i x q hi hx hq => ?_) _ (Nat.le_refl _), fun p => ?_⟩
  · obtain ⟨u, hu, hp, hno⟩ := (hS _).mp hm
    apply hno
    rw [hT.2.1 _ _ _ hu (lts_lets tx 0 i) hp (q2 i hi)]
    exact lts_pre ((q1 i).mp hi).1
  · have hp : nod ch (lts tx 0 i ++ [x]) = some q := by rw [nod_snoc_s (q2 i hi)]; exact hq
    by_cases z : lts tx 0 i ++ [x] <+: lts tx 0 n
    · right
      obtain ⟨g1, g2⟩ := lts_is_pre z
      rw [List.length_append, lts_len, List.length_singleton] at g1 g2
      rw [g2] at hp
      have hj := (q1 (i + 1)).mpr ⟨g1, by rw [hp]; simp⟩
      have := q2 _ hj
      rw [hp] at this
      exact ⟨i + 1, by omega, hj, (Option.some.inj this).symm⟩
    · left
      exact (hS q).mpr ⟨_, lets_snoc.mpr ⟨lts_lets tx 0 i, hx⟩, hp, z⟩
  · rw [fro_in _ (Nat.le_refl _)]
    constructor
    · rintro (e | ⟨i, e1, e2, e3⟩)
      · obtain ⟨u, hu, hp, -⟩ := (hS p).mp e
        exact ⟨u, hu, hp⟩
      · exact ⟨_, lts_lets tx 0 i, by rw [← e3]; exact q2 i e2⟩
    · rintro ⟨u, hu, hp⟩
      by_cases z : u <+: lts tx 0 n
      · obtain ⟨g1, g2⟩ := lts_is_pre z
        rw [g2] at hp
        have hi := (q1 u.length).mpr ⟨g1, by rw [hp]; simp⟩
        have := q2 _ hi
        rw [hp] at this
        exact Or.inr ⟨u.length, by omega, hi, (Option.some.inj this).symm⟩
      · exact Or.inl ((hS p).mpr ⟨u, hu, hp, z⟩)
end PU
