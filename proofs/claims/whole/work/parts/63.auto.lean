/-! The automaton: a path leaves, a path comes -/
def ers (S : List Nat) (pa : Nat → Nat) : Nat → List Nat
  | 0 => S
  | k + 1 => (ers S pa k).erase (pa k)
section AW
variable {ch : Nat → Option Nat} {wh : Nat → Bool} {so mb : Nat → Nat} {ac : Nat → Bool} {tg : Nat → Option Nat} {S : List Nat} {pa : Nat → Nat} {m : Nat}
theorem ers_in (hS : S.Nodup) : ∀ k, (ers S pa k).Nodup ∧ ∀ q, q ∈ ers S pa k ↔ q ∈ S ∧ ∀ i, i < k → pa i ≠ q
  | 0 => ⟨hS, fun q => ⟨fun h => ⟨h, fun i hi => by omega⟩, fun h => h.1⟩⟩
  | k + 1 => by
    obtain ⟨h1, h2⟩ := ers_in hS k
    refine ⟨h1.erase _, fun q => ?_⟩
    show q ∈ (ers S pa k).erase (pa k) ↔ _
    rw [List.Nodup.mem_erase_iff h1, h2]
    constructor
    · rintro ⟨e1, e2, e3⟩
      refine ⟨e2, fun i hi => ?_⟩
      by_cases e : i = k
      · rw [e]; exact fun z => e1 z.symm
      · exact e3 i (by omega)
    · rintro ⟨e1, e2⟩
      exact ⟨fun z => e2 k (by omega) z.symm, e1, fun i hi => e2 i (by omega)⟩
theorem AT.release (h : AT ch wh so mb ac tg S) (h1 : ∀ i j, i < m → j < m → pa i = pa j → i = j) (h2 : ∀ i, i < m → pa i ∈ S) (h3 : ∀ k q x, k < m → q ∈ S → x < 8 → ch (q * 8 + x) = some (pa k) → ∃ i, i < k ∧ pa i = q) : ∀ k, k ≤ m → AT ch wh so (rel so pa mb k) ac tg (ers S pa k)
  | 0, _ => h
  | k + 1, hk => by
    have ih := AT.release h h1 h2 h3 k (by omega)
    have hin := (ers_in (pa := pa) h.1.1 k).2
    refine AT.leave ih ((hin _).mpr ⟨h2 k (by omega), fun i hi e => ?_⟩) (fun q hq _ x hx hc => ?_)
    · have := h1 i k (by omega) (by omega) e
      omega
    · obtain ⟨q1, q2⟩ := (hin q).mp hq
      obtain ⟨i, hi, e⟩ := h3 k q x (by omega) q1 hx hc
      exact q2 i hi e
/-- while the path leaves, each state that loses a cell had one -/
theorem AT.has (h : AT ch wh so mb ac tg S) (h1 : ∀ i j, i < m → j < m → pa i = pa j → i = j) (h2 : ∀ i, i < m → pa i ∈ S) (h3 : ∀ k q x, k < m → q ∈ S → x < 8 → ch (q * 8 + x) = some (pa k) → ∃ i, i < k ∧ pa i = q) : ∀ k, k < m → 1 ≤ rel so pa mb k (so (pa k)) := by
  intro k hk
  have ih := AT.release h h1 h2 h3 k (by omega)
  have := ih.mb1 (((ers_in (pa := pa) h.1.1 k).2 _).mpr ⟨h2 k hk, fun i hi e => by
    have := h1 i k (by omega) hk e
    omega⟩)
  omega
/-- the path's last k cells, in front of S -/
def fro (S : List Nat) (pa : Nat → Nat) (m : Nat) : Nat → List Nat
  | 0 => S
  | k + 1 => pa (m - (k + 1)) :: fro S pa m k
theorem fro_in {q : Nat} : ∀ k, k ≤ m → (q ∈ fro S pa m k ↔ q ∈ S ∨ ∃ i, m - k ≤ i ∧ i < m ∧ pa i = q)
  | 0, _ => ⟨Or.inl, fun h => h.elim id (fun ⟨i, h1, h2, _⟩ => by omega)⟩
  | k + 1, hk => by
    show q ∈ pa (m - (k + 1)) :: fro S pa m k ↔ _
    rw [List.mem_cons, fro_in k (by omega)]
    constructor
    · rintro (e | e | ⟨i, e1, e2, e3⟩)
      · exact Or.inr ⟨m - (k + 1), Nat.le_refl _, by omega, e.symm⟩
      · exact Or.inl e
      · exact Or.inr ⟨i, by omega, e2, e3⟩
    · rintro (e | ⟨i, e1, e2, e3⟩)
      · exact Or.inr (Or.inl e)
      · by_cases z : i = m - (k + 1)
        · exact Or.inl (by rw [← z]; exact e3.symm)
        · exact Or.inr (Or.inr ⟨i, by omega, e2, e3⟩)
theorem AT.receive (h : AT ch wh so mb ac tg S) (wn : Nat → Option Nat) (h1 : ∀ i j, i < m → j < m → pa i = pa j → i = j) (h2 : ∀ i, i < m → pa i ∉ S ∧ pa i < 211) (h3 : ∀ i x q, i < m → x < 8 → ch (pa i * 8 + x) = some q → q ∈ S ∨ ∃ j, i < j ∧ j < m ∧ pa j = q) : ∀ k, k ≤ m → AT ch wh (rcv ch wh pa m (so, mb, ac, tg, wn) k).1 (rcv ch wh pa m (so, mb, ac, tg, wn) k).2.1 (rcv ch wh pa m (so, mb, ac, tg, wn) k).2.2.1 (rcv ch wh pa m (so, mb, ac, tg, wn) k).2.2.2.1 (fro S pa m k)
  | 0, _ => h
  | k + 1, hk => by
    have ih := AT.receive h wn h1 h2 h3 k (by omega)
    show AT ch wh (jnS ch wh (pa (m - (k + 1))) (rcv ch wh pa m (so, mb, ac, tg, wn) k)).1 (jnS ch wh (pa (m - (k + 1))) (rcv ch wh pa m (so, mb, ac, tg, wn) k)).2.1 (jnS ch wh (pa (m - (k + 1))) (rcv ch wh pa m (so, mb, ac, tg, wn) k)).2.2.1 (jnS ch wh (pa (m - (k + 1))) (rcv ch wh pa m (so, mb, ac, tg, wn) k)).2.2.2.1 (pa (m - (k + 1)) :: fro S pa m k)
    generalize rcv ch wh pa m (so, mb, ac, tg, wn) k = s at ih
    obtain ⟨so1, mb1, ac1, tg1, wn1⟩ := s
    have hno : pa (m - (k + 1)) ∉ fro S pa m k := by
      rw [fro_in k (by omega)]
      rintro (e | ⟨i, e1, e2, e3⟩)
      · exact (h2 _ (by omega)).1 e
      · have := h1 i (m - (k + 1)) e2 (by omega) e3
        omega
    have hlt := (h2 (m - (k + 1)) (by omega)).2
    refine AT.join ih wn1 hno hlt ?_ (fun x q hx hq => ?_)
    · have := nd_le 211 (pa (m - (k + 1)) :: fro S pa m k) (List.nodup_cons.mpr ⟨hno, ih.1.1⟩) (fun a ha => by
        rcases List.mem_cons.mp ha with e | e
        · rw [e]; exact hlt
        · exact ih.1.2 a e)
      rw [List.length_cons] at this
      omega
    · rw [fro_in k (by omega)]
      rcases h3 (m - (k + 1)) x q (by omega) hx hq with e | ⟨j, e1, e2, e3⟩
      · exact Or.inl e
      · exact Or.inr ⟨j, by omega, e2, e3⟩
end AW
