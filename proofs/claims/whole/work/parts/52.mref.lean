/-! The reference's rows are the words in order -/
def RW (le sz : Nat → Nat) (w : Nat) (u : List Nat) : Prop := sz w = u.length ∧ ∀ (k x : Nat), u[k]? = some x → le (7 * w + k) = x + 1
def ML (le sz : Nat → Nat) (cn : Nat) (L : List (List Nat)) : Prop := L.length = cn ∧ ∀ (w : Nat) (u : List Nat), L[w]? = some u → RW le sz w u
theorem mlt_ltr (c : Nat) : mlt c = match ltr c with
    | none => 0
    | some q => q + 1 := by
  unfold mlt ltr
  by_cases h : 97 ≤ c ∧ c ≤ 104
  · rw [if_pos h, if_pos ⟨h.1, by omega⟩]
  · rw [if_neg h, if_neg (fun q => h ⟨q.1, by omega⟩)]
theorem mlt_s {c q : Nat} (h : ltr c = some q) : mlt c = q + 1 := by rw [mlt_ltr, h]
theorem mlt_0 {c : Nat} (h : ltr c = none) : mlt c = 0 := by rw [mlt_ltr, h]
theorem miw_alw (tx : Nat → Nat) (b n : Nat) : ∀ k, miw tx b n k = (decide (1 ≤ n ∧ n ≤ 7) && alwF tx b k)
  | 0 => by
    show decide (1 ≤ n ∧ n ≤ 7) = (decide (1 ≤ n ∧ n ≤ 7) && true)
    rw [Bool.and_true]
  | k + 1 => by
    show (miw tx b n k && decide (0 < mlt (tx (b + k)))) = (decide (1 ≤ n ∧ n ≤ 7) && (alwF tx b k && (ltr (tx (b + k))).isSome))
    rw [miw_alw tx b n k, Bool.and_assoc]
    congr 2
    cases h : ltr (tx (b + k)) with
    | none => rw [mlt_0 h]; rfl
    | some q => rw [mlt_s h]; exact decide_eq_true (by omega)
theorem alwF_ltr {tx : Nat → Nat} {b n k : Nat} (h : alwF tx b n = true) (hk : k < n) : ∃ q, ltr (tx (b + k)) = some q := by
  induction n with
  | zero => omega
  | succ n ih =>
    have h2 : (alwF tx b n && (ltr (tx (b + n))).isSome) = true := h
    rw [Bool.and_eq_true] at h2
    by_cases e : k = n
    · rw [e]; exact Option.isSome_iff_exists.mp h2.2
    · exact ih h2.1 (by omega)
theorem lts_at {tx : Nat → Nat} {b n k : Nat} (hk : k < n) : (lts tx b n)[k]? = some (lz (tx (b + k))) := by
  unfold lts
  rw [List.getElem?_map, List.getElem?_range hk]
  rfl
theorem drop_at {u : List Nat} {k x : Nat} (h : u[k]? = some x) : u.drop k = x :: u.drop (k + 1) := by
  have hk := (List.getElem?_eq_some_iff.mp h)
  rw [List.drop_eq_getElem_cons hk.1, hk.2]
theorem lx_nil_l (u : List Nat) : lx [] u = true ↔ u ≠ [] := by
  cases u with
  | nil => rw [lx_nil]; simp
  | cons a u => exact ⟨fun _ => by simp, fun _ => rfl⟩
/-- compare -/
theorem mcm_lx {tx le : Nat → Nat} {b n w : Nat} {sz : Nat → Nat} {u : List Nat} (hr : RW le sz w u) (ha : alwF tx b n = true) : ∀ (f k : Nat), k ≤ n → k ≤ u.length → n < k + f → (mcm tx le b n w (sz w) f k < 0 ↔ lx ((lts tx b n).drop k) (u.drop k) = true) ∧ (mcm tx le b n w (sz w) f k = 0 ↔ (lts tx b n).drop k = u.drop k)
  | 0, k, h1, h2, h3 => by omega
  | f + 1, k, h1, h2, h3 => by
    by_cases h : k < n ∧ k < sz w
    · obtain ⟨q, hq⟩ := alwF_ltr ha h.1
      have hlz : lz (tx (b + k)) = q := by unfold lz; rw [hq]; rfl
      obtain ⟨x, hx⟩ : ∃ x, u[k]? = some x := ⟨_, List.getElem?_eq_getElem (by rw [← hr.1]; exact h.2)⟩
      rw [drop_at (lts_at h.1), drop_at hx, hlz]
      have hle := hr.2 k x hx
      have hm := mlt_s hq
      by_cases e : q = x
      · subst e
        rw [mcm_next h (by rw [hle, hm])]
        have ih := mcm_lx hr ha f (k + 1) (by omega) (by rw [← hr.1]; omega) (by omega)
        rw [ih.1, ih.2]
        constructor
        · rw [lx_cons]
          simp
        · simp
      · rw [mcm_out h (by rw [hle, hm]; omega), hle, hm]
        constructor
        · rw [lx_cons]
          constructor
          · intro z; exact Or.inl (by omega)
          · rintro (z | ⟨z, -⟩)
            · omega
            · exact absurd z e
        · constructor
          · intro z; omega
          · intro z
            have := (List.cons.inj z).1
            exact absurd this e
    · rw [mcm_end h]
      have hs := hr.1
      by_cases hk : k = n
      · subst hk
        have e1 : (lts tx b k).drop k = [] := List.drop_eq_nil_of_le (by rw [lts_len]; exact Nat.le_refl _)
        rw [e1]
        constructor
        · rw [lx_nil_l]
          constructor
          · intro z
            have : k < u.length := by omega
            intro e
            have := List.drop_eq_nil_iff.mp e
            omega
          · intro z
            have : ¬ u.length ≤ k := fun q => z (List.drop_eq_nil_of_le q)
            omega
        · constructor
          · intro z
            exact (List.drop_eq_nil_of_le (by omega)).symm
          · intro z
            have := List.drop_eq_nil_iff.mp z.symm
            omega
      · have e2 : u.drop k = [] := List.drop_eq_nil_of_le (by omega)
        rw [e2, lx_nil]
        constructor
        · constructor
          · intro z; omega
          · intro z; cases z
        · constructor
          · intro z; omega
          · intro z
            have := List.drop_eq_nil_iff.mp z
            rw [lts_len] at this
            omega
theorem mcp_lx {tx le sz : Nat → Nat} {b n w : Nat} {u : List Nat} (hr : RW le sz w u) (ha : alwF tx b n = true) (hn : n ≤ 7) : (mcp tx le sz b n w < 0 ↔ lx (lts tx b n) u = true) ∧ (mcp tx le sz b n w = 0 ↔ lts tx b n = u) := by
  have := mcm_lx hr ha 8 0 (Nat.zero_le _) (Nat.zero_le _) (by omega)
  rw [List.drop_zero, List.drop_zero] at this
  exact this
section MR
variable {le sz : Nat → Nat} {cn : Nat} {L : List (List Nat)}
theorem ML.no (h : ML le sz cn L) {tx : Nat → Nat} {b n : Nat} (ha : alwF tx b n = true) (hn : n ≤ 7) (hm : lts tx b n ∉ L) : ∀ w, w ≤ cn → mno tx le sz b n w = none
  | 0, _ => rfl
  | w + 1, hw => by
    obtain ⟨u, hu⟩ : ∃ u, L[w]? = some u := ⟨_, List.getElem?_eq_getElem (by rw [h.1]; omega)⟩
    have := (mcp_lx (h.2 w u hu) ha hn).2
    show (if mcp tx le sz b n w = 0 then some w else mno tx le sz b n w) = none
    rw [if_neg (fun q => hm (by rw [this.mp q]; exact List.mem_of_getElem? hu))]
    exact ML.no h ha hn hm w (by omega)
theorem ML.yes (h : ML le sz cn L) (hs : srt L) {tx : Nat → Nat} {b n i : Nat} (ha : alwF tx b n = true) (hn : n ≤ 7) (hi : L[i]? = some (lts tx b n)) : ∀ w, w ≤ cn → i < w → mno tx le sz b n w = some i
  | 0, _, h0 => by omega
  | w + 1, hw, h0 => by
    obtain ⟨u, hu⟩ : ∃ u, L[w]? = some u := ⟨_, List.getElem?_eq_getElem (by rw [h.1]; omega)⟩
    have := (mcp_lx (h.2 w u hu) ha hn).2
    show (if mcp tx le sz b n w = 0 then some w else mno tx le sz b n w) = some i
    by_cases e : i = w
    · subst e
      rw [hi] at hu
      cases hu
      rw [if_pos (this.mpr rfl)]
    · rw [if_neg (fun q => e (srt_inj hs hi (by rw [this.mp q]; exact hu)))]
      exact ML.yes h hs ha hn hi w (by omega) (by omega)
theorem ML.nb (h : ML le sz cn L) (hs : srt L) (hw : ∀ w, w ∈ L → wrd w) (tx : Nat → Nat) (b n : Nat) : mnb tx le sz cn b n = seg L tx b n := by
  unfold mnb seg
  rw [miw_alw]
  cases ha : alwF tx b n with
  | false => rw [Bool.and_false]; rfl
  | true =>
    rw [Bool.and_true, if_pos rfl]
    unfold idx
    by_cases hm : lts tx b n ∈ L
    · obtain ⟨i, hi⟩ := List.getElem?_of_mem hm
      have hl := hw _ hm
      have h1 : 1 ≤ n ∧ n ≤ 7 := by
        have e := lts_len tx b n
        rw [← e]
        exact ⟨hl.1, hl.2.1⟩
      rw [if_pos hm, if_pos (decide_eq_true h1), h.yes hs ha h1.2 hi cn (Nat.le_refl _) (by rw [← h.1]; exact (List.getElem?_eq_some_iff.mp hi).1)]
      exact congrArg some (srt_cnt hs hi).symm
    · rw [if_neg hm]
      by_cases h1 : 1 ≤ n ∧ n ≤ 7
      · rw [if_pos (decide_eq_true h1)]
        exact h.no ha h1.2 hm cn (Nat.le_refl _)
      · rw [if_neg (fun q => h1 (of_decide_eq_true q))]
theorem ML.long (h : ML le sz cn L) (hs : srt L) (hw : ∀ w, w ∈ L → wrd w) (tx : Nat → Nat) : ∀ k, mlg tx le sz cn k = lng L tx k
  | 0 => rfl
  | k + 1 => by
    show (match mnb tx le sz cn 0 (k + 1) with | some w => some w | none => mlg tx le sz cn k) = (seg L tx 0 (k + 1)).or (lng L tx k)
    rw [h.nb hs hw, ML.long h hs hw tx k]
    cases seg L tx 0 (k + 1) <;> rfl
/-- begins with -/
theorem mbw_pre {tx : Nat → Nat} {n w : Nat} {u : List Nat} (hr : RW le sz w u) (ha : alwF tx 0 n = true) (hn : n ≤ u.length) : ∀ k, k ≤ n → (mbw tx le w n (sz w) k = true ↔ lts tx 0 k = u.take k)
  | 0, _ => by
    show decide (n ≤ sz w) = true ↔ _
    rw [decide_eq_true_iff, hr.1]
    simp [lts, hn]
  | k + 1, hk => by
    obtain ⟨q, hq⟩ := alwF_ltr ha (show k < n by omega)
    rw [Nat.zero_add] at hq
    have hlz : lz (tx (0 + k)) = q := by rw [Nat.zero_add]; unfold lz; rw [hq]; rfl
    obtain ⟨x, hx⟩ : ∃ x, u[k]? = some x := ⟨_, List.getElem?_eq_getElem (by omega)⟩
    have htk : u.take (k + 1) = u.take k ++ [x] := by
      rw [List.take_succ, hx]
      rfl
    show (mbw tx le w n (sz w) k && decide (le (7 * w + k) = mlt (tx k))) = true ↔ _
    rw [Bool.and_eq_true, mbw_pre hr ha hn k (by omega), decide_eq_true_iff, lts_succ, hlz, htk, hr.2 k x hx, mlt_s hq]
    constructor
    · rintro ⟨e1, e2⟩
      rw [e1, show q = x by omega]
    · intro e
      obtain ⟨e1, e2⟩ := List.append_inj' e rfl
      have : q = x := by simpa using e2
      exact ⟨e1, by omega⟩
theorem mbw_is {tx : Nat → Nat} {n w : Nat} {u : List Nat} (hr : RW le sz w u) : mbw tx le w n (sz w) n = (alwF tx 0 n && (lts tx 0 n).isPrefixOf u) := by
  by_cases hn : n ≤ u.length
  · cases ha : alwF tx 0 n with
    | true =>
      have h1 := mbw_pre hr ha hn n (Nat.le_refl _)
      rw [Bool.true_and]
      have h2 : (lts tx 0 n).isPrefixOf u = true ↔ lts tx 0 n = u.take n := by
        rw [List.isPrefixOf_iff_prefix, List.prefix_iff_eq_take, lts_len]
      cases hz : (lts tx 0 n).isPrefixOf u with
      | true => exact h1.mpr (h2.mp hz)
      | false =>
        cases hy : mbw tx le w n (sz w) n with
        | false => rfl
        | true => rw [h2.mpr (h1.mp hy)] at hz; cases hz
    | false =>
      have hex : ∃ k, k < n ∧ ltr (tx k) = none := by
        clear hn
        induction n with
        | zero => cases ha
        | succ n ih =>
          have h2 : (alwF tx 0 n && (ltr (tx (0 + n))).isSome) = false := ha
          rw [Nat.zero_add, Bool.and_eq_false_iff] at h2
          rcases h2 with z | z
          · obtain ⟨k, hk, e⟩ := ih z
            exact ⟨k, by omega, e⟩
          · exact ⟨n, by omega, Option.not_isSome_iff_eq_none.mp (by rw [z]; decide)⟩
      obtain ⟨k, hk, e⟩ := hex
      obtain ⟨x, hx⟩ : ∃ x, u[k]? = some x := ⟨_, List.getElem?_eq_getElem (by omega)⟩
      refine mbw_false (k := k + 1) ?_ hk
      show (mbw tx le w n (sz w) k && decide (le (7 * w + k) = mlt (tx k))) = false
      rw [hr.2 k x hx, mlt_0 e, decide_eq_false (by omega), Bool.and_false]
  · have h1 : mbw tx le w n (sz w) n = false := mbw_false (k := 0) (decide_eq_false (by rw [hr.1]; exact hn)) (Nat.zero_le _)
    rw [h1]
    have h2 : (lts tx 0 n).isPrefixOf u = false := by
      cases hz : (lts tx 0 n).isPrefixOf u with
      | false => rfl
      | true =>
        have := (List.isPrefixOf_iff_prefix.mp hz).length_le
        rw [lts_len] at this
        omega
    rw [h2, Bool.and_false]
theorem ML.st (h : ML le sz cn L) (tx : Nat → Nat) (n : Nat) : ∀ w, w ≤ cn → mst tx le sz n w = (L.take w).countP (fun u => alwF tx 0 n && (lts tx 0 n).isPrefixOf u)
  | 0, _ => rfl
  | w + 1, hw => by
    obtain ⟨u, hu⟩ : ∃ u, L[w]? = some u := ⟨_, List.getElem?_eq_getElem (by rw [h.1]; omega)⟩
    show (if mbw tx le w n (sz w) n then mst tx le sz n w + 1 else mst tx le sz n w) = _
    rw [List.take_succ, hu, List.countP_append, ML.st h tx n w (by omega), mbw_is (h.2 w u hu)]
    show _ = _ + List.countP _ [u]
    rw [List.countP_cons, List.countP_nil, Nat.zero_add]
    split <;> rfl
theorem ML.starting (h : ML le sz cn L) (tx : Nat → Nat) (n : Nat) : mst tx le sz n cn = sta L tx n := by
  rw [h.st tx n cn (Nat.le_refl _), List.take_of_length_le (Nat.le_of_eq h.1)]
  unfold sta
  cases alwF tx 0 n with
  | true => rfl
  | false =>
    rw [if_neg (by decide), List.countP_eq_zero]
    intro a _
    rw [Bool.false_and]
    decide
end MR
