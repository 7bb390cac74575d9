/-! longest and scan of the reference -/
section MS
variable {le sz : Nat → Nat} {cn : Nat} {L : List (List Nat)}
theorem seg_big (hw : ∀ w, w ∈ L → wrd w) {tx : Nat → Nat} {b n : Nat} (hn : 7 < n) : seg L tx b n = none := by
  unfold seg idx
  have : lts tx b n ∉ L := fun q => by
    have := (hw _ q).2.1
    rw [lts_len] at this
    omega
  rw [if_neg this]
  split <;> rfl
theorem seg_0 (hw : ∀ w, w ∈ L → wrd w) {tx : Nat → Nat} {b : Nat} : seg L tx b 0 = none := by
  unfold seg idx
  have : lts tx b 0 ∉ L := fun q => by
    have := (hw _ q).1
    rw [lts_len] at this
    omega
  rw [if_neg this]
  split <;> rfl
theorem lng_7 (hw : ∀ w, w ∈ L → wrd w) (tx : Nat → Nat) : ∀ k, lng L tx k = lng L tx (min 7 k)
  | 0 => rfl
  | k + 1 => by
    by_cases h : k + 1 ≤ 7
    · rw [Nat.min_eq_right h]
    · have h2 : min 7 (k + 1) = min 7 k := by omega
      rw [h2, ← lng_7 hw tx k]
      show (seg L tx 0 (k + 1)).or (lng L tx k) = _
      rw [seg_big hw (by omega)]
      rfl
theorem ML.longest (h : ML le sz cn L) (hs : srt L) (hw : ∀ w, w ∈ L → wrd w) (tx : Nat → Nat) (k : Nat) : mlg tx le sz cn (min 7 k) = lng L tx k := by
  rw [h.long hs hw, ← lng_7 hw]
/-- the letters that end at e -/
theorem run_len (tx : Nat → Nat) : ∀ e, (run tx e).length ≤ e
  | 0 => Nat.le_refl _
  | e + 1 => by
    have ih := run_len tx e
    show (match ltr (tx e) with | none => [] | some q => run tx e ++ [q]).length ≤ e + 1
    cases ltr (tx e) with
    | none => exact Nat.zero_le _
    | some q => rw [List.length_append, List.length_singleton]; omega
theorem run_alw (tx : Nat → Nat) : ∀ (e n : Nat), n ≤ e → (alwF tx (e - n) n = true ↔ n ≤ (run tx e).length)
  | 0, n, h => by
    have : n = 0 := by omega
    subst this
    exact ⟨fun _ => Nat.le_refl _, fun _ => rfl⟩
  | e + 1, 0, h => ⟨fun _ => Nat.zero_le _, fun _ => rfl⟩
  | e + 1, n + 1, h => by
    have ih := run_alw tx e n (by omega)
    show (alwF tx (e + 1 - (n + 1)) n && (ltr (tx (e + 1 - (n + 1) + n))).isSome) = true ↔ n + 1 ≤ (match ltr (tx e) with | none => [] | some q => run tx e ++ [q]).length
    rw [show e + 1 - (n + 1) = e - n by omega, show e - n + n = e by omega, Bool.and_eq_true, ih]
    cases ltr (tx e) with
    | none => simp
    | some q => rw [List.length_append, List.length_singleton]; simp
theorem run_lts (tx : Nat → Nat) : ∀ (e n : Nat), n ≤ (run tx e).length → lts tx (e - n) n = (run tx e).drop ((run tx e).length - n)
  | 0, n, h => by
    have : n = 0 := by simpa [run] using h
    subst this
    rfl
  | e + 1, 0, h => by
    rw [Nat.sub_zero, Nat.sub_zero, List.drop_eq_nil_of_le (Nat.le_refl _)]
    rfl
  | e + 1, n + 1, h => by
    have hle := run_len tx (e + 1)
    have h2 : n + 1 ≤ (match ltr (tx e) with | none => [] | some q => run tx e ++ [q]).length := h
    show _ = (match ltr (tx e) with | none => [] | some q => run tx e ++ [q]).drop ((match ltr (tx e) with | none => [] | some q => run tx e ++ [q]).length - (n + 1))
    rw [lts_succ, show e + 1 - (n + 1) = e - n by omega]
    have hen : e - n + n = e := by omega
    rw [hen]
    cases hq : ltr (tx e) with
    | none => rw [hq] at h2; simp at h2
    | some q =>
      rw [hq] at h2
      have h3 : n ≤ (run tx e).length := by
        have : n + 1 ≤ (run tx e ++ [q]).length := h2
        rw [List.length_append, List.length_singleton] at this
        omega
      rw [run_lts tx e n h3]
      have hz : lz (tx e) = q := by unfold lz; rw [hq]; rfl
      rw [hz]
      show _ = (run tx e ++ [q]).drop ((run tx e ++ [q]).length - (n + 1))
      rw [List.length_append, List.length_singleton, show (run tx e).length + 1 - (n + 1) = (run tx e).length - n by omega, List.drop_append_of_le_length (by omega)]
/-- the endings of at most m letters that are held, by their length -/
def sgs (L : List (List Nat)) (tx : Nat → Nat) (e : Nat) : Nat → List Nat
  | 0 => []
  | m + 1 => (if m + 1 ≤ e then seg L tx (e - (m + 1)) (m + 1) else none).toList ++ sgs L tx e m
theorem sgs_eds (tx : Nat → Nat) (e : Nat) : ∀ m, sgs L tx e m = (eds (wdL L) ((run tx e).drop ((run tx e).length - m))).map (less L)
  | 0 => by
    rw [Nat.sub_zero, List.drop_eq_nil_of_le (Nat.le_refl _)]
    rfl
  | m + 1 => by
    have hle := run_len tx e
    show (if m + 1 ≤ e then seg L tx (e - (m + 1)) (m + 1) else none).toList ++ sgs L tx e m = _
    rw [sgs_eds tx e m]
    by_cases h : m + 1 ≤ (run tx e).length
    · have hcons : (run tx e).drop ((run tx e).length - (m + 1)) = ((run tx e)[(run tx e).length - (m + 1)]'(by omega)) :: (run tx e).drop ((run tx e).length - m) := by
        rw [List.drop_eq_getElem_cons (by omega), show (run tx e).length - (m + 1) + 1 = (run tx e).length - m by omega]
      have hl := run_lts tx e (m + 1) h
      rw [if_pos (by omega)]
      unfold seg idx
      rw [if_pos ((run_alw tx e (m + 1) (by omega)).mpr h), hl]
      generalize hd : (run tx e).drop ((run tx e).length - (m + 1)) = d at *
      rw [hcons]
      by_cases q : d ∈ L
      · rw [hcons] at q
        rw [if_pos q]
        have e2 : eds (wdL L) (((run tx e)[(run tx e).length - (m + 1)]'(by omega)) :: (run tx e).drop ((run tx e).length - m)) = _ := if_pos (decide_eq_true q)
        rw [e2]
        rfl
      · rw [hcons] at q
        rw [if_neg q]
        have e2 : eds (wdL L) (((run tx e)[(run tx e).length - (m + 1)]'(by omega)) :: (run tx e).drop ((run tx e).length - m)) = _ := if_neg (fun z => q (of_decide_eq_true z))
        rw [e2]
        rfl
    · have h1 : (run tx e).length - (m + 1) = (run tx e).length - m := by omega
      rw [h1]
      have h2 : (if m + 1 ≤ e then seg L tx (e - (m + 1)) (m + 1) else none) = none := by
        by_cases h3 : m + 1 ≤ e
        · rw [if_pos h3]
          unfold seg
          rw [if_neg (fun z => h ((run_alw tx e (m + 1) h3).mp z))]
        · rw [if_neg h3]
      rw [h2]
      rfl
theorem eds_7 (hw : ∀ w, w ∈ L → wrd w) : ∀ s : List Nat, eds (wdL L) s = eds (wdL L) (s.drop (s.length - 7))
  | [] => rfl
  | a :: t => by
    by_cases h : (a :: t).length ≤ 7
    · rw [Nat.sub_eq_zero_of_le h, List.drop_zero]
    · have e : eds (wdL L) (a :: t) = eds (wdL L) t := if_neg (fun z => h (hw _ (of_decide_eq_true z)).2.1)
      rw [e, eds_7 hw t]
      have h2 : (a :: t).length - 7 = (t.length - 7) + 1 := by
        rw [List.length_cons] at h ⊢
        omega
      rw [h2, List.drop_succ_cons]
/-- pushes one behind the other -/
theorem psh_app (b : Nat) : ∀ (l m : List Nat) (s : pss), psh b (l ++ m) s = psh b m (psh b l s)
  | [], _, _ => rfl
  | r :: l, m, s => by
    show psh b (l ++ m) _ = psh b m (psh b l _)
    exact psh_app b l m _
/-- the lengths from 7 down, one by one -/
def sgt (L : List (List Nat)) (tx : Nat → Nat) (e : Nat) : Nat → List Nat
  | 0 => []
  | j + 1 => sgt L tx e j ++ (if 7 - j ≤ e then seg L tx (e - (7 - j)) (7 - j) else none).toList
theorem sgt_sgs (tx : Nat → Nat) (e : Nat) : ∀ j, j ≤ 7 → sgt L tx e j ++ sgs L tx e (7 - j) = sgs L tx e 7
  | 0, _ => rfl
  | j + 1, h => by
    rw [← sgt_sgs tx e j (by omega)]
    show (sgt L tx e j ++ _) ++ _ = _
    rw [List.append_assoc]
    congr 1
    obtain ⟨m, hm⟩ : ∃ m, 7 - j = m + 1 := ⟨6 - j, by omega⟩
    rw [hm, show 7 - (j + 1) = m by omega]
    rfl
theorem ML.sI (h : ML le sz cn L) (hs : srt L) (hw : ∀ w, w ∈ L → wrd w) (tx : Nat → Nat) (e : Nat) (s : pss) : ∀ j, msI tx le sz cn e s j = psh e (sgt L tx e j) s
  | 0 => rfl
  | j + 1 => by
    have ih := ML.sI h hs hw tx e s j
    show (match msK tx le sz cn e j with
      | some w => (va_up (msI tx le sz cn e s j).1 (msI tx le sz cn e s j).2.2 w, va_up (msI tx le sz cn e s j).2.1 (msI tx le sz cn e s j).2.2 e, (msI tx le sz cn e s j).2.2 + 1)
      | none => msI tx le sz cn e s j) = psh e (sgt L tx e j ++ (if 7 - j ≤ e then seg L tx (e - (7 - j)) (7 - j) else none).toList) s
    rw [psh_app, ih]
    unfold msK
    rw [h.nb hs hw]
    cases (if 7 - j ≤ e then seg L tx (e - (7 - j)) (7 - j) else none) <;> rfl
theorem ML.scan (h : ML le sz cn L) (hs : srt L) (hw : ∀ w, w ∈ L → wrd w) (tx gu gv : Nat → Nat) (fk : Nat) : ∀ k, mso tx le sz cn gu gv k = scf L tx (gu, gv, fk) k
  | 0 => rfl
  | k + 1 => by
    show msI tx le sz cn (k + 1) (mso tx le sz cn gu gv k) 7 = psh (k + 1) ((eds (wdL L) (run tx (k + 1))).map (less L)) (scf L tx (gu, gv, fk) k)
    rw [h.sI hs hw, ML.scan h hs hw tx gu gv fk k]
    have h1 := sgt_sgs (L := L) tx (k + 1) 7 (Nat.le_refl _)
    rw [show sgs L tx (k + 1) (7 - 7) = [] from rfl, List.append_nil] at h1
    rw [h1, sgs_eds, ← eds_7 hw]
end MS
