/-! A word more, a word less -/
def ins (u : List Nat) (L : List (List Nat)) : List (List Nat) := L.take (less L u) ++ u :: L.drop (less L u)
theorem srt_before {L : List (List Nat)} (h : srt L) {i : Nat} {w u : List Nat} (hi : L[i]? = some w) : i < less L u ↔ lx w u = true := by
  have hl : less L w = i := srt_cnt h hi
  constructor
  · intro hlt
    rcases lx_tri w u with q | q | q
    · exact q
    · subst q; omega
    · have : less L u ≤ less L w := less_mono (fun v _ hv => lx_trans hv q)
      omega
  · intro q
    have := less_lt (List.mem_of_getElem? hi) q
    omega
theorem less_le (L : List (List Nat)) (u : List Nat) : less L u ≤ L.length := List.countP_le_length
theorem ins_perm (u : List Nat) (L : List (List Nat)) : (u :: L).Perm (ins u L) := by
  have h := (List.perm_middle (a := u) (l₁ := L.take (less L u)) (l₂ := L.drop (less L u))).symm
  rw [List.take_append_drop] at h
  exact h
theorem ins_len (u : List Nat) (L : List (List Nat)) : (ins u L).length = L.length + 1 := by
  rw [← (ins_perm u L).length_eq]
  rfl
theorem ins_lo {u : List Nat} {L : List (List Nat)} {i : Nat} (h : i < less L u) : (ins u L)[i]? = L[i]? := by
  have := less_le L u
  unfold ins
  rw [List.getElem?_append_left (by rw [List.length_take]; omega), List.getElem?_take_of_lt h]
theorem ins_at (u : List Nat) (L : List (List Nat)) : (ins u L)[less L u]? = some u := by
  have := less_le L u
  unfold ins
  have e : (L.take (less L u)).length = less L u := by rw [List.length_take]; omega
  rw [List.getElem?_append_right (by omega), e, Nat.sub_self]
  rfl
theorem ins_hi {u : List Nat} {L : List (List Nat)} {i : Nat} (h : less L u ≤ i) : (ins u L)[i + 1]? = L[i]? := by
  have := less_le L u
  unfold ins
  have e : (L.take (less L u)).length = less L u := by rw [List.length_take]; omega
  rw [List.getElem?_append_right (by omega), e, show i + 1 - less L u = (i - less L u) + 1 by omega, List.getElem?_cons_succ, List.getElem?_drop, show less L u + (i - less L u) = i by omega]
theorem ins_mem {u w : List Nat} {L : List (List Nat)} : w ∈ ins u L ↔ w = u ∨ w ∈ L := by
  rw [← (ins_perm u L).mem_iff, List.mem_cons]
theorem ins_srt {u : List Nat} {L : List (List Nat)} (h : srt L) (hu : u ∉ L) : srt (ins u L) := by
  have h1 : ∀ w, w ∈ L.take (less L u) → lx w u = true := by
    intro w hw
    obtain ⟨i, hi⟩ := List.getElem?_of_mem hw
    have hil := (List.getElem?_eq_some_iff.mp hi).1
    rw [List.length_take] at hil
    rw [List.getElem?_take_of_lt (by omega)] at hi
    exact (srt_before h hi).mp (by omega)
  have h2 : ∀ w, w ∈ L.drop (less L u) → lx u w = true := by
    intro w hw
    obtain ⟨i, hi⟩ := List.getElem?_of_mem hw
    rw [List.getElem?_drop] at hi
    rcases lx_tri w u with q | q | q
    · have := (srt_before h hi).mpr q
      omega
    · subst q
      exact absurd (List.mem_of_getElem? hi) hu
    · exact q
  show List.Pairwise _ (L.take (less L u) ++ u :: L.drop (less L u))
  rw [List.pairwise_append]
  refine ⟨List.Pairwise.sublist (List.take_sublist _ _) h, List.pairwise_cons.mpr ⟨h2, List.Pairwise.sublist (List.drop_sublist _ _) h⟩, ?_⟩
  intro a ha b hb
  rcases List.mem_cons.mp hb with q | q
  · rw [q]; exact h1 a ha
  · exact lx_trans (h1 a ha) (h2 b q)
/-- rows laid over -/
theorem mvl_at {le : Nat → Nat} {t f : Nat} (h : t ≠ f) : ∀ k, k ≤ 7 → ∀ i, mvl le t f k i = if 7 * t ≤ i ∧ i < 7 * t + k then le (7 * f + (i - 7 * t)) else le i
  | 0, _, i => (if_neg (by omega)).symm
  | k + 1, hk, i => by
    have ih := mvl_at (le := le) h k (by omega)
    show va_up (mvl le t f k) (7 * t + k) (mvl le t f k (7 * f + k)) i = _
    by_cases e : i = 7 * t + k
    · subst e
      rw [va_up_self, ih, if_neg (by omega), if_pos (by omega), show 7 * t + k - 7 * t = k by omega]
    · rw [va_up_ne _ _ e, ih]
      by_cases q : 7 * t ≤ i ∧ i < 7 * t + k
      · rw [if_pos q, if_pos (by omega)]
      · rw [if_neg q, if_neg (by omega)]
theorem mfl_at {le : Nat → Nat} {a : Nat} {tx : Nat → Nat} : ∀ k i, mfl le a tx k i = if 7 * a ≤ i ∧ i < 7 * a + k then mlt (tx (i - 7 * a)) else le i
  | 0, i => (if_neg (by omega)).symm
  | k + 1, i => by
    have ih := mfl_at (le := le) (a := a) (tx := tx) k
    show va_up (mfl le a tx k) (7 * a + k) (mlt (tx k)) i = _
    by_cases e : i = 7 * a + k
    · subst e
      rw [va_up_self, if_pos (by omega), show 7 * a + k - 7 * a = k by omega]
    · rw [va_up_ne _ _ e, ih]
      by_cases q : 7 * a ≤ i ∧ i < 7 * a + k
      · rw [if_pos q, if_pos (by omega)]
      · rw [if_neg q, if_neg (by omega)]
theorem RW.ext {le sz le' sz' : Nat → Nat} {w w' : Nat} {u : List Nat} (h : RW le sz w u) (h7 : u.length ≤ 7) (h1 : sz' w' = sz w) (h2 : ∀ k, k < 7 → le' (7 * w' + k) = le (7 * w + k)) : RW le' sz' w' u := by
  refine ⟨h1.trans h.1, fun k x hx => ?_⟩
  have := (List.getElem?_eq_some_iff.mp hx).1
  rw [h2 k (by omega)]
  exact h.2 k x hx
/-- room for a word -/
theorem mis_room {L : List (List Nat)} {tx : Nat → Nat} {n : Nat} (hs : srt L) (h7 : ∀ w, w ∈ L → w.length ≤ 7) (ha : alwF tx 0 n = true) (hn : n ≤ 7) (hm : lts tx 0 n ∉ L) : ∀ (a : Nat) (le sz : Nat → Nat), a ≤ L.length → less L (lts tx 0 n) ≤ a → (∀ (i : Nat) (w : List Nat), i < a → L[i]? = some w → RW le sz i w) → (∀ (i : Nat) (w : List Nat), a ≤ i → L[i]? = some w → RW le sz (i + 1) w) →
    (mis tx n a le sz).1 = less L (lts tx 0 n) ∧ (∀ (i : Nat) (w : List Nat), i < less L (lts tx 0 n) → L[i]? = some w → RW (mis tx n a le sz).2.1 (mis tx n a le sz).2.2 i w) ∧ (∀ (i : Nat) (w : List Nat), less L (lts tx 0 n) ≤ i → L[i]? = some w → RW (mis tx n a le sz).2.1 (mis tx n a le sz).2.2 (i + 1) w)
  | 0, le, sz, _, h1, h2, h3 => by
    have h0 : less L (lts tx 0 n) = 0 := by omega
    rw [h0]
    exact ⟨rfl, h2, h3⟩
  | a + 1, le, sz, hl, h1, h2, h3 => by
    obtain ⟨u, hu⟩ : ∃ u, L[a]? = some u := ⟨_, List.getElem?_eq_getElem (by omega)⟩
    have hra := h2 a u (by omega) hu
    have hc := mcp_lx hra ha hn
    have hb := srt_before hs (u := lts tx 0 n) hu
    show (if mcp tx le sz 0 n a < 0 then mis tx n a (mvl le (a + 1) a 7) (va_up sz (a + 1) (sz a)) else (a + 1, le, sz)).1 = _ ∧ (∀ (i : Nat) (w : List Nat), _ → _ → RW (if mcp tx le sz 0 n a < 0 then mis tx n a (mvl le (a + 1) a 7) (va_up sz (a + 1) (sz a)) else (a + 1, le, sz)).2.1 (if mcp tx le sz 0 n a < 0 then mis tx n a (mvl le (a + 1) a 7) (va_up sz (a + 1) (sz a)) else (a + 1, le, sz)).2.2 i w) ∧ (∀ (i : Nat) (w : List Nat), _ → _ → RW (if mcp tx le sz 0 n a < 0 then mis tx n a (mvl le (a + 1) a 7) (va_up sz (a + 1) (sz a)) else (a + 1, le, sz)).2.1 (if mcp tx le sz 0 n a < 0 then mis tx n a (mvl le (a + 1) a 7) (va_up sz (a + 1) (sz a)) else (a + 1, le, sz)).2.2 (i + 1) w)
    by_cases q : mcp tx le sz 0 n a < 0
    · rw [if_pos q]
      have hlt := hc.1.mp q
      have hna : ¬ a < less L (lts tx 0 n) := fun z => by
        have z2 := hb.mp z
        rw [lx_asym hlt] at z2
        cases z2
      refine mis_room hs h7 ha hn hm a _ _ (by omega) (by omega) (fun i w hi hw => ?_) (fun i w hi hw => ?_)
      · refine (h2 i w (by omega) hw).ext (h7 w (List.mem_of_getElem? hw)) (va_up_ne _ _ (by omega)) (fun k hk => ?_)
        rw [mvl_at (by omega) 7 (Nat.le_refl _), if_neg (by omega)]
      · by_cases e : i = a
        · subst e
          refine (h2 i w (by omega) hw).ext (h7 w (List.mem_of_getElem? hw)) (va_up_self _ _ _) (fun k hk => ?_)
          rw [mvl_at (by omega) 7 (Nat.le_refl _), if_pos (by omega)]
          congr 1
          omega
        · refine (h3 i w (by omega) hw).ext (h7 w (List.mem_of_getElem? hw)) (va_up_ne _ _ (by omega)) (fun k hk => ?_)
          rw [mvl_at (by omega) 7 (Nat.le_refl _), if_neg (by omega)]
    · rw [if_neg q]
      have hge : a < less L (lts tx 0 n) ∨ lts tx 0 n = u := by
        rcases lx_tri u (lts tx 0 n) with z | z | z
        · exact Or.inl (hb.mpr z)
        · exact Or.inr z.symm
        · exact absurd (hc.1.mpr z) q
      rcases hge with z | z
      · have e : a + 1 = less L (lts tx 0 n) := by omega
        rw [← e]
        exact ⟨rfl, h2, h3⟩
      · exact absurd (by rw [z]; exact List.mem_of_getElem? hu) hm
theorem ML.ins {le sz : Nat → Nat} {cn : Nat} {L : List (List Nat)} (h : ML le sz cn L) (hs : srt L) (h7 : ∀ w, w ∈ L → w.length ≤ 7) {tx : Nat → Nat} {n : Nat} (ha : alwF tx 0 n = true) (hn : n ≤ 7) (hm : lts tx 0 n ∉ L) : ML (mfl (mis tx n cn le sz).2.1 (mis tx n cn le sz).1 tx n) (va_up (mis tx n cn le sz).2.2 (mis tx n cn le sz).1 n) (cn + 1) (ins (lts tx 0 n) L) := by
  have hlc : less L (lts tx 0 n) ≤ cn := by rw [← h.1]; exact less_le _ _
  obtain ⟨e1, e2, e3⟩ := mis_room hs h7 ha hn hm cn le sz (Nat.le_of_eq h.1.symm) hlc (fun i w _ hw => h.2 i w hw) (fun i w hi hw => by
    have := (List.getElem?_eq_some_iff.mp hw).1
    rw [h.1] at this
    omega)
  refine ⟨by rw [ins_len, h.1], fun i w hi => ?_⟩
  rw [e1]
  rcases Nat.lt_trichotomy i (less L (lts tx 0 n)) with q | q | q
  · rw [ins_lo q] at hi
    refine (e2 i w q hi).ext (h7 w (List.mem_of_getElem? hi)) (va_up_ne _ _ (by omega)) (fun k hk => ?_)
    rw [mfl_at, if_neg (by omega)]
  · subst q
    rw [ins_at] at hi
    cases hi
    refine ⟨by rw [va_up_self, lts_len], fun k x hx => ?_⟩
    have hk := (List.getElem?_eq_some_iff.mp hx).1
    rw [lts_len] at hk
    rw [lts_at hk] at hx
    obtain ⟨y, hy⟩ := alwF_ltr ha hk
    rw [mfl_at, if_pos (by omega), Nat.add_sub_cancel_left]
    rw [Nat.zero_add] at hx hy
    rw [mlt_s hy, ← Option.some.inj hx]
    unfold lz
    rw [hy]
    rfl
  · obtain ⟨j, rfl⟩ : ∃ j, i = j + 1 := ⟨i - 1, by omega⟩
    rw [ins_hi (by omega)] at hi
    refine (e3 j w (by omega) hi).ext (h7 w (List.mem_of_getElem? hi)) (va_up_ne _ _ (by omega)) (fun k hk => ?_)
    rw [mfl_at, if_neg (by omega)]
/-- a word less -/
theorem srt_erase {L : List (List Nat)} (h : srt L) {i : Nat} {u : List Nat} (hi : L[i]? = some u) : L.erase u = L.eraseIdx i := by
  induction L generalizing i with
  | nil => cases hi
  | cons a l ih =>
    cases i with
    | zero =>
      cases hi
      rw [List.erase_cons_head]
      rfl
    | succ i =>
      have hi2 : l[i]? = some u := hi
      have hlt : lx a u = true := (List.pairwise_cons.mp h).1 u (List.mem_of_getElem? hi2)
      rw [List.erase_cons_tail (by simpa using lx_ne hlt), ih (List.pairwise_cons.mp h).2 hi2]
      rfl
theorem mrm_rows {L : List (List Nat)} {le sz : Nat → Nat} {z : Nat} (h7 : ∀ w, w ∈ L → w.length ≤ 7) (h : ∀ (i : Nat) (w : List Nat), L[i]? = some w → RW le sz i w) : ∀ j, z + j < L.length → (∀ (i : Nat) (w : List Nat), i < z → L[i]? = some w → RW (mrm z le sz j).1 (mrm z le sz j).2 i w) ∧ (∀ (i : Nat) (w : List Nat), z ≤ i → i < z + j → L[i + 1]? = some w → RW (mrm z le sz j).1 (mrm z le sz j).2 i w) ∧ (∀ (i : Nat) (w : List Nat), z + j < i → L[i]? = some w → RW (mrm z le sz j).1 (mrm z le sz j).2 i w)
  | 0, _ => ⟨fun i w _ hw => h i w hw, fun i w h1 h2 _ => absurd h2 (by omega), fun i w _ hw => h i w hw⟩
  | j + 1, hj => by
    obtain ⟨h1, h2, h3⟩ := mrm_rows (z := z) h7 h j (by omega)
    show (∀ (i : Nat) (w : List Nat), i < z → L[i]? = some w → RW (mvl (mrm z le sz j).1 (z + j) (z + j + 1) 7) (va_up (mrm z le sz j).2 (z + j) ((mrm z le sz j).2 (z + j + 1))) i w) ∧ (∀ (i : Nat) (w : List Nat), z ≤ i → i < z + (j + 1) → L[i + 1]? = some w → RW (mvl (mrm z le sz j).1 (z + j) (z + j + 1) 7) (va_up (mrm z le sz j).2 (z + j) ((mrm z le sz j).2 (z + j + 1))) i w) ∧ (∀ (i : Nat) (w : List Nat), z + (j + 1) < i → L[i]? = some w → RW (mvl (mrm z le sz j).1 (z + j) (z + j + 1) 7) (va_up (mrm z le sz j).2 (z + j) ((mrm z le sz j).2 (z + j + 1))) i w)
    generalize mrm z le sz j = s at h1 h2 h3
    refine ⟨fun i w hi hw => ?_, fun i w hi hi2 hw => ?_, fun i w hi hw => ?_⟩
    · refine (h1 i w hi hw).ext (h7 w (List.mem_of_getElem? hw)) (va_up_ne _ _ (by omega)) (fun k hk => ?_)
      rw [mvl_at (by omega) 7 (Nat.le_refl _), if_neg (by omega)]
    · by_cases e : i = z + j
      · subst e
        refine (h3 (z + j + 1) w (by omega) hw).ext (h7 w (List.mem_of_getElem? hw)) (va_up_self _ _ _) (fun k hk => ?_)
        rw [mvl_at (by omega) 7 (Nat.le_refl _), if_pos (by omega)]
        rw [show 7 * (z + j) + k - 7 * (z + j) = k by omega]
      · refine (h2 i w hi (by omega) hw).ext (h7 w (List.mem_of_getElem? hw)) (va_up_ne _ _ (by omega)) (fun k hk => ?_)
        rw [mvl_at (by omega) 7 (Nat.le_refl _), if_neg (by omega)]
    · refine (h3 i w (by omega) hw).ext (h7 w (List.mem_of_getElem? hw)) (va_up_ne _ _ (by omega)) (fun k hk => ?_)
      rw [mvl_at (by omega) 7 (Nat.le_refl _), if_neg (by omega)]
theorem ML.del {le sz : Nat → Nat} {cn : Nat} {L : List (List Nat)} (h : ML le sz cn L) (hs : srt L) (h7 : ∀ w, w ∈ L → w.length ≤ 7) {u : List Nat} {z : Nat} (hz : L[z]? = some u) : ML (mrm z le sz (cn - z - 1)).1 (mrm z le sz (cn - z - 1)).2 (cn - 1) (L.erase u) := by
  have hzl := (List.getElem?_eq_some_iff.mp hz).1
  have hc := h.1
  obtain ⟨h1, h2, h3⟩ := mrm_rows (z := z) h7 h.2 (cn - z - 1) (by omega)
  rw [srt_erase hs hz]
  refine ⟨by rw [List.length_eraseIdx_of_lt hzl, hc], fun i w hi => ?_⟩
  rw [List.getElem?_eraseIdx] at hi
  by_cases q : i < z
  · rw [if_pos q] at hi
    exact h1 i w q hi
  · rw [if_neg q] at hi
    have := (List.getElem?_eq_some_iff.mp hi).1
    exact h2 i w (by omega) (by omega) hi
theorem srt_erase_srt {L : List (List Nat)} (h : srt L) (u : List Nat) : srt (L.erase u) := List.Pairwise.sublist List.erase_sublist h
