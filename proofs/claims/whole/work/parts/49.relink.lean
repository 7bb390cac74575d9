/-! relink to its end -/
section RL2
variable {ch : Nat → Option Nat} {wh : Nat → Bool} {hf : Nat → Nat} {L : List (List Nat)}
theorem BF.kids {Q : List (List Nat)} {k bf : Nat} {hb ln : Nat → Nat} {sw : Nat → Option Nat} {od : Nat → Nat} {u : List Nat} (hT : TP ch wh hf L []) (h7 : ∀ w, w ∈ L → w.length ≤ 7) (hL : L.length < 1000) (h : BF ch wh L Q k 0 hb ln sw od) (hu : Q[k]? = some u) (hbf : bf = less L (u ++ [0])) : ∀ x, x ≤ 8 →
    ∃ Q' bf' hb' ln' sw' od', lks ch wh hf (od k) (bf, Q.length, hb, ln, sw, od) x = (bf', Q'.length, hb', ln', sw', od') ∧ BF ch wh L Q' k x hb' ln' sw' od' ∧ Q'[k]? = some u ∧ bf' = less L (u ++ [x]) ∧ od' k = od k
  | 0, _ => ⟨Q, bf, hb, ln, sw, od, rfl, h, hu, hbf, rfl⟩
  | x + 1, hx => by
    obtain ⟨Q', bf', hb', ln', sw', od', e1, e2, e3, e4, e5⟩ := BF.kids hT h7 hL h hu hbf x (by omega)
    obtain ⟨Q2, bf2, hb2, ln2, sw2, od2, f1, f2, f3, f4, f5⟩ := e2.letter hT h7 hL e3 (by omega) e4
    refine ⟨Q2, bf2, hb2, ln2, sw2, od2, ?_, f2, f3, f4, f5.trans e5⟩
    show lkS ch wh hf (od k) x (lks ch wh hf (od k) (bf, Q.length, hb, ln, sw, od) x) = _
    rw [e1, ← e5]
    exact f1
theorem BF.next {Q : List (List Nat)} {k : Nat} {hb ln : Nat → Nat} {sw : Nat → Option Nat} {od : Nat → Nat} (h : BF ch wh L Q k 8 hb ln sw od) : BF ch wh L Q (k + 1) 0 hb ln sw od := by
  obtain ⟨b1, b2, b3, b4, b5, b6, b7⟩ := h
  refine ⟨b1, b2, b3, b4, fun i u y hi hy hk hN => ?_, fun u hu hu0 => ?_, b7⟩
  · refine b5 i u y hi hy ?_ hN
    rcases hk with q | ⟨q1, q2⟩
    · rcases Nat.lt_or_ge i k with z | z
      · exact Or.inl z
      · exact Or.inr ⟨by omega, hy⟩
    · omega
  · obtain ⟨i, v, y, e1, e2, e3⟩ := b6 u hu hu0
    exact ⟨i, v, y, e1, e2, Or.inl (by omega)⟩
theorem BF.past {Q : List (List Nat)} {k : Nat} {hb ln : Nat → Nat} {sw : Nat → Option Nat} {od : Nat → Nat} (h : BF ch wh L Q k 0 hb ln sw od) (hk : ¬ k < Q.length) : BF ch wh L Q (k + 1) 0 hb ln sw od := by
  obtain ⟨b1, b2, b3, b4, b5, b6, b7⟩ := h
  refine ⟨b1, b2, b3, b4, fun i u y hi hy hk hN => ?_, fun u hu hu0 => ?_, b7⟩
  · have hil := (List.getElem?_eq_some_iff.mp hi).1
    exact b5 i u y hi hy (Or.inl (by omega)) hN
  · obtain ⟨i, v, y, e1, e2, e3⟩ := b6 u hu hu0
    exact ⟨i, v, y, e1, e2, Or.inl (by omega)⟩
theorem BF.start {hb ln : Nat → Nat} {sw : Nat → Option Nat} {od : Nat → Nat} (h0 : hb 0 = 0) (hs : sw 0 = none) (hB : ∀ i, hb i < 1000) (ho : od 0 = 0) : BF ch wh L [[]] 0 0 hb ln sw od := by
  have one : ∀ (i : Nat) (u : List Nat), ([[]] : List (List Nat))[i]? = some u → i = 0 ∧ u = [] := by
    intro i u hi
    have h1 : i < 1 := (List.getElem?_eq_some_iff.mp hi).1
    have h2 : i = 0 := by omega
    subst h2
    cases hi
    exact ⟨rfl, rfl⟩
  refine ⟨fun i u hi => ?_, by simp, rfl, fun i j u v _ hi hj => ?_, fun i u y hi hy hk _ => ?_, fun u hu hu0 => ?_, fun u hu p hp => ?_, ?_⟩
  · obtain ⟨e1, e2⟩ := one i u hi
    subst e1; subst e2
    rw [ho]
    exact ⟨lets_nil, rfl⟩
  · rw [(one i u hi).2]; simp
  · omega
  · exact absurd (List.mem_singleton.mp hu) hu0
  · have e := List.mem_singleton.mp hu
    subst e
    cases hp
    exact ⟨by rw [h0, less_nil], fun z => absurd rfl z, hs⟩
  · exact hB
/-- k rows done -/
theorem BF.loop {hb ln : Nat → Nat} {sw : Nat → Option Nat} {od : Nat → Nat} (hT : TP ch wh hf L []) (hn : L.Nodup) (h7 : ∀ w, w ∈ L → w.length ≤ 7) (hL : L.length < 1000) (h0 : hb 0 = 0) (hs : sw 0 = none) (hB : ∀ i, hb i < 1000) : ∀ k, ∃ Q hb' ln' sw' od', rls ch wh hf hb ln sw od k = (Q.length, hb', ln', sw', od') ∧ BF ch wh L Q k 0 hb' ln' sw' od'
  | 0 => ⟨[[]], hb, ln, sw, va_up od 0 0, rfl, BF.start h0 hs hB (va_up_self _ _ _)⟩
  | k + 1 => by
    obtain ⟨Q, hb', ln', sw', od', e1, e2⟩ := BF.loop (od := od) (ln := ln) hT hn h7 hL h0 hs hB k
    by_cases hk : k < Q.length
    · obtain ⟨u, hu⟩ : ∃ u, Q[k]? = some u := ⟨_, List.getElem?_eq_getElem hk⟩
      obtain ⟨hul, hup⟩ := e2.1 k u hu
      have hr := (e2.2.2.2.2.2.2.1 u (List.mem_of_getElem? hu) _ hup).1
      have hw := hT.2.2.2.1 u _ hul hup
      have hbf : hb' (od' k) + (wh (od' k)).toNat = less L (u ++ [0]) := by
        rw [less_0 hn, hr]
        cases hz : wh (od' k) with
        | true => rw [if_pos (hw.mp hz)]; rfl
        | false => rw [if_neg (fun q => by rw [hw.mpr q] at hz; cases hz)]; rfl
      obtain ⟨Q2, bf2, hb2, ln2, sw2, od2, f1, f2, f3, f4, f5⟩ := BF.kids hT h7 hL e2 hu hbf 8 (Nat.le_refl _)
      refine ⟨Q2, hb2, ln2, sw2, od2, ?_, f2.next⟩
      show rlS ch wh hf k (rls ch wh hf hb ln sw od k) = _
      rw [e1]
      show (if k < Q.length then _ else _) = _
      rw [if_pos hk, n8_eq, f1]
    · refine ⟨Q, hb', ln', sw', od', ?_, e2.past hk⟩
      show rlS ch wh hf k (rls ch wh hf hb ln sw od k) = _
      rw [e1]
      exact if_neg hk
/-- after relink the rows are right for all that is reached -/
theorem relinked {hb ln : Nat → Nat} {sw : Nat → Option Nat} {od : Nat → Nat} (hT : TP ch wh hf L []) (hn : L.Nodup) (h7 : ∀ w, w ∈ L → w.length ≤ 7) (hL : L.length < 1000) (h0 : hb 0 = 0) (hs : sw 0 = none) (hB : ∀ i, hb i < 1000) : ∀ u, lets u → right ch wh L (rls ch wh hf hb ln sw od n211).2.1 (rls ch wh hf hb ln sw od n211).2.2.1 (rls ch wh hf hb ln sw od n211).2.2.2.1 u := by
  obtain ⟨Q, hb', ln', sw', od', e1, e2⟩ := BF.loop (od := od) (ln := ln) hT hn h7 hL h0 hs hB n211
  rw [e1]
  show ∀ u, lets u → right ch wh L hb' ln' sw' u
  rw [n211_eq] at e2
  have hQ : Q.length ≤ 211 := by
    rcases Nat.lt_or_ge 211 Q.length with q | q
    · exfalso
      obtain ⟨b1, b2, -⟩ := e2
      have hnd : (Q.map (fun u => (nod ch u).getD 0)).Nodup := by
        have hn2 := b2
        rw [List.nodup_iff_pairwise_ne] at hn2 ⊢
        rw [List.pairwise_map]
        refine List.Pairwise.imp_of_mem ?_ hn2
        intro a b ha hb hab e
        obtain ⟨i, hi⟩ := List.getElem?_of_mem ha
        obtain ⟨j, hj⟩ := List.getElem?_of_mem hb
        rw [(b1 i a hi).2, (b1 j b hj).2] at e
        have e2 : od' i = od' j := e
        have hj2 := (b1 j b hj).2
        rw [← e2] at hj2
        exact hab (hT.2.1 a b _ (b1 i a hi).1 (b1 j b hj).1 (b1 i a hi).2 hj2)
      have := nd_le 211 _ hnd (by
        intro a ha
        obtain ⟨u, hu, rfl⟩ := List.mem_map.mp ha
        obtain ⟨i, hi⟩ := List.getElem?_of_mem hu
        obtain ⟨lu, hp⟩ := b1 i u hi
        rw [hp]
        show od' i < 211
        rcases snoc_cases u with e | ⟨v, y, e⟩
        · subst e
          have hz : 0 = od' i := Option.some.inj hp
          omega
        · subst e
          obtain ⟨r, -, hr⟩ := nod_up hp
          exact (hT.1 _ _ hr).2)
      rw [List.length_map] at this
      omega
    · exact q
  have hall : ∀ (n : Nat) (u : List Nat), u.length = n → lets u → isN ch u = true → u ∈ Q := by
    intro n
    induction n with
    | zero =>
      intro u hu _ _
      rw [List.length_eq_zero_iff.mp hu]
      exact List.mem_of_getElem? e2.2.2.1
    | succ n ih =>
      intro u hu hl hN
      rcases snoc_cases u with rfl | ⟨v, y, rfl⟩
      · cases hu
      · obtain ⟨hl', hy⟩ := lets_snoc.mp hl
        have hv := ih v (by simpa using hu) hl' (isN_pre hN)
        obtain ⟨i, hi⟩ := List.getElem?_of_mem hv
        have hil := (List.getElem?_eq_some_iff.mp hi).1
        exact e2.2.2.2.2.1 i v y hi hy (Or.inl (by omega)) hN
  intro u hu p hp
  exact e2.2.2.2.2.2.2.1 u (hall u.length u rfl hu (isN_of hp)) p hp
theorem relinkB {hb ln : Nat → Nat} {sw : Nat → Option Nat} {od : Nat → Nat} (hT : TP ch wh hf L []) (hn : L.Nodup) (h7 : ∀ w, w ∈ L → w.length ≤ 7) (hL : L.length < 1000) (h0 : hb 0 = 0) (hs : sw 0 = none) (hB : ∀ i, hb i < 1000) : ∀ i, (rls ch wh hf hb ln sw od n211).2.1 i < 1000 := by
  obtain ⟨Q, hb', ln', sw', od', e1, e2⟩ := BF.loop (od := od) (ln := ln) hT hn h7 hL h0 hs hB n211
  rw [e1]
  exact e2.2.2.2.2.2.2.2
end RL2
