/-! Words as lists of letters, in their order -/
def lx : List Nat → List Nat → Bool
  | _, [] => false
  | [], _ :: _ => true
  | a :: u, b :: v => if a < b then true else if b < a then false else lx u v
theorem lx_nil (u : List Nat) : lx u [] = false := by cases u <;> rfl
theorem lx_cons {a b : Nat} {u v : List Nat} : lx (a :: u) (b :: v) = true ↔ a < b ∨ (a = b ∧ lx u v = true) := by
  show (if a < b then true else if b < a then false else lx u v) = true ↔ _
  by_cases h : a < b
  · rw [if_pos h]
    exact ⟨fun _ => Or.inl h, fun _ => rfl⟩
  · rw [if_neg h]
    by_cases h2 : b < a
    · rw [if_pos h2]
      exact ⟨fun q => (by cases q), fun q => q.elim (fun z => absurd z h) (fun z => absurd z.1 (by omega))⟩
    · rw [if_neg h2]
      exact ⟨fun q => Or.inr ⟨by omega, q⟩, fun q => q.elim (fun z => absurd z h) (fun z => z.2)⟩
theorem lx_irr : ∀ u : List Nat, lx u u = false
  | [] => rfl
  | a :: u => by
    cases h : lx (a :: u) (a :: u) with
    | false => rfl
    | true =>
      rw [lx_cons] at h
      rcases h with h | ⟨-, h⟩
      · omega
      · rw [lx_irr u] at h; cases h
theorem lx_tri : ∀ u v : List Nat, lx u v = true ∨ u = v ∨ lx v u = true
  | [], [] => Or.inr (Or.inl rfl)
  | [], _ :: _ => Or.inl rfl
  | _ :: _, [] => Or.inr (Or.inr rfl)
  | a :: u, b :: v => by
    rcases Nat.lt_trichotomy a b with h | h | h
    · exact Or.inl (lx_cons.mpr (Or.inl h))
    · subst h
      rcases lx_tri u v with q | q | q
      · exact Or.inl (lx_cons.mpr (Or.inr ⟨rfl, q⟩))
      · subst q; exact Or.inr (Or.inl rfl)
      · exact Or.inr (Or.inr (lx_cons.mpr (Or.inr ⟨rfl, q⟩)))
    · exact Or.inr (Or.inr (lx_cons.mpr (Or.inl h)))
theorem lx_trans : ∀ {u v w : List Nat}, lx u v = true → lx v w = true → lx u w = true
  | u, v, [], _, h => by rw [lx_nil] at h; cases h
  | [], _, _ :: _, _, _ => rfl
  | a :: u, [], _, h, _ => by cases h
  | a :: u, b :: v, c :: w, h1, h2 => by
    rw [lx_cons] at h1 h2 ⊢
    rcases h1 with h1 | ⟨rfl, h1⟩
    · rcases h2 with h2 | ⟨rfl, -⟩
      · exact Or.inl (by omega)
      · exact Or.inl h1
    · rcases h2 with h2 | ⟨rfl, h2⟩
      · exact Or.inl h2
      · exact Or.inr ⟨rfl, lx_trans h1 h2⟩
theorem lx_asym {u v : List Nat} (h : lx u v = true) : lx v u = false := by
  cases q : lx v u with
  | false => rfl
  | true =>
    have := lx_trans h q
    rw [lx_irr] at this
    cases this
theorem lx_ne {u v : List Nat} (h : lx u v = true) : u ≠ v := by
  rintro rfl
  rw [lx_irr] at h
  cases h
theorem lx_app : ∀ (u v w : List Nat), lx (u ++ v) (u ++ w) = lx v w
  | [], _, _ => rfl
  | a :: u, v, w => by
    show lx (a :: (u ++ v)) (a :: (u ++ w)) = _
    show (if a < a then true else if a < a then false else lx (u ++ v) (u ++ w)) = _
    rw [if_neg (Nat.lt_irrefl a), if_neg (Nat.lt_irrefl a), lx_app u v w]
/-- w stands before u with x behind it: before u, or u itself, or it goes on behind u with a letter before x -/
theorem lx_snoc : ∀ (w u : List Nat) (x : Nat), lx w (u ++ [x]) = true ↔ lx w u = true ∨ w = u ∨ ∃ y v, y < x ∧ w = u ++ y :: v
  | [], [], x => by simp [lx]
  | [], a :: u, x => by simp [lx]
  | b :: w, [], x => by
    show lx (b :: w) [x] = true ↔ _
    rw [lx_cons, lx_nil, lx_nil]
    simp
  | b :: w, a :: u, x => by
    show lx (b :: w) (a :: (u ++ [x])) = true ↔ _
    rw [lx_cons, lx_cons, lx_snoc w u x]
    constructor
    · rintro (h | ⟨rfl, h | h | ⟨y, v, h1, h2⟩⟩)
      · exact Or.inl (Or.inl h)
      · exact Or.inl (Or.inr ⟨rfl, h⟩)
      · exact Or.inr (Or.inl (by rw [h]))
      · exact Or.inr (Or.inr ⟨y, v, h1, by rw [h2]; rfl⟩)
    · rintro ((h | ⟨rfl, h⟩) | h | ⟨y, v, h1, h2⟩)
      · exact Or.inl h
      · exact Or.inr ⟨rfl, Or.inl h⟩
      · cases h; exact Or.inr ⟨rfl, Or.inr (Or.inl rfl)⟩
      · cases h2; exact Or.inr ⟨rfl, Or.inr (Or.inr ⟨y, v, h1, rfl⟩)⟩
/-- in order, none twice -/
def srt (L : List (List Nat)) : Prop := L.Pairwise (fun u v => lx u v = true)
/-- a held word -/
def wrd (u : List Nat) : Prop := 1 ≤ u.length ∧ u.length ≤ 7 ∧ ∀ x ∈ u, x < 8
theorem srt_idx {L : List (List Nat)} (h : srt L) {i j : Nat} {u v : List Nat} (hu : L[i]? = some u) (hv : L[j]? = some v) (hij : i < j) : lx u v = true := by
  obtain ⟨hi, rfl⟩ := List.getElem?_eq_some_iff.mp hu
  obtain ⟨hj, rfl⟩ := List.getElem?_eq_some_iff.mp hv
  exact List.pairwise_iff_getElem.mp h i j hi hj hij
theorem srt_inj {L : List (List Nat)} (h : srt L) {i j : Nat} {u : List Nat} (hu : L[i]? = some u) (hv : L[j]? = some u) : i = j := by
  rcases Nat.lt_trichotomy i j with q | q | q
  · have := srt_idx h hu hv q; rw [lx_irr] at this; cases this
  · exact q
  · have := srt_idx h hv hu q; rw [lx_irr] at this; cases this
/-- how many stand before: a word's number -/
theorem srt_cnt {L : List (List Nat)} (h : srt L) : ∀ {i : Nat} {u : List Nat}, L[i]? = some u → L.countP (fun w => lx w u) = i := by
  induction L with
  | nil => intro i u hu; cases hu
  | cons a l ih =>
    intro i u hu
    have h1 : ∀ b ∈ l, lx a b = true := (List.pairwise_cons.mp h).1
    have h2 : srt l := (List.pairwise_cons.mp h).2
    rw [List.countP_cons]
    cases i with
    | zero =>
      cases hu
      rw [lx_irr]
      have : l.countP (fun w => lx w a) = 0 := by
        rw [List.countP_eq_zero]
        intro b hb
        rw [lx_asym (h1 b hb)]
        decide
      rw [this]
      rfl
    | succ i =>
      have hu' : l[i]? = some u := hu
      rw [ih h2 hu', h1 u (List.mem_of_getElem? hu')]
      rfl
