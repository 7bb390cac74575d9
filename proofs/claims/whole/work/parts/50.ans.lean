/-! The tree's answers over the words -/
def idx (L : List (List Nat)) (u : List Nat) : Option Nat := if u ∈ L then some (less L u) else none
def seg (L : List (List Nat)) (tx : Nat → Nat) (b n : Nat) : Option Nat := if alwF tx b n then idx L (lts tx b n) else none
theorem idx_iff {L : List (List Nat)} (h : srt L) {u : List Nat} {i : Nat} : idx L u = some i ↔ L[i]? = some u := by
  unfold idx
  constructor
  · intro e
    by_cases hm : u ∈ L
    · rw [if_pos hm] at e
      obtain ⟨j, hj⟩ := List.getElem?_of_mem hm
      have h2 : less L u = j := srt_cnt h hj
      rw [← Option.some.inj e, h2]
      exact hj
    · rw [if_neg hm] at e
      cases e
  · intro e
    rw [if_pos (List.mem_of_getElem? e)]
    exact congrArg some (srt_cnt h e)
theorem less_mono {L : List (List Nat)} {a b : List Nat} (h : ∀ w, w ∈ L → lx w a = true → lx w b = true) : less L a ≤ less L b := List.countP_mono_left h
theorem less_lt {L : List (List Nat)} {u b : List Nat} (hu : u ∈ L) (h : lx u b = true) : less L u < less L b := by
  have h1 : L.countP (fun w => lx w u || decide (w = u)) ≤ less L b := by
    refine List.countP_mono_left (fun w _ hq => ?_)
    have hq : (lx w u || decide (w = u)) = true := hq
    rw [Bool.or_eq_true] at hq
    rcases hq with q | q
    · exact lx_trans q h
    · rw [of_decide_eq_true q]; exact h
  rw [countP_or] at h1
  · have h2 : 0 < L.countP (fun w => decide (w = u)) := List.countP_pos_iff.mpr ⟨u, hu, by simp⟩
    unfold less at h1 ⊢
    omega
  · rintro w _ ⟨q1, q2⟩
    have q2 : w = u := of_decide_eq_true q2
    subst q2
    rw [lx_irr] at q1
    cases q1
theorem lx_cat (v r : List Nat) (y : Nat) : lx v (v ++ y :: r) = true := by
  have := lx_app v [] (y :: r)
  rw [List.append_nil] at this
  rw [this]
  rfl
theorem lx_dif (v r s : List Nat) {x y : Nat} (h : x < y) : lx (v ++ x :: r) (v ++ y :: s) = true := by
  rw [lx_app]
  exact lx_cons.mpr (Or.inl h)
/-- the letter behind v is the one for which u lies between -/
theorem between {L : List (List Nat)} {v r : List Nat} {x : Nat} (hu : v ++ r ∈ L) : (less L (v ++ [x]) ≤ less L (v ++ r) ∧ less L (v ++ r) < less L (v ++ [x + 1])) ↔ r.head? = some x := by
  cases r with
  | nil =>
    constructor
    · rintro ⟨h1, -⟩
      have h2 : less L (v ++ []) < less L (v ++ [x]) := less_lt hu (by rw [List.append_nil]; exact lx_cat v [] x)
      omega
    · intro h; cases h
  | cons y r =>
    rcases Nat.lt_trichotomy y x with q | q | q
    · constructor
      · rintro ⟨h1, -⟩
        have h2 : less L (v ++ y :: r) < less L (v ++ [x]) := less_lt hu (lx_dif v r [] q)
        omega
      · intro h; cases h; omega
    · subst q
      constructor
      · intro _; rfl
      · intro _
        constructor
        · refine less_mono (fun w _ hw => ?_)
          cases r with
          | nil => exact hw
          | cons z r =>
            have : lx (v ++ [y]) (v ++ y :: z :: r) = true := by
              have h2 := lx_cat (v ++ [y]) r z
              rw [List.append_assoc (v) [y]] at h2
              exact h2
            exact lx_trans hw this
        · exact less_lt hu (lx_dif v r [] (by omega))
    · constructor
      · rintro ⟨-, h1⟩
        have h2 : less L (v ++ [x + 1]) ≤ less L (v ++ y :: r) := by
          refine less_mono (fun w _ hw => ?_)
          rcases Nat.lt_or_ge (x + 1) y with z | z
          · exact lx_trans hw (lx_dif v [] r z)
          · have z2 : y = x + 1 := by omega
            subst z2
            cases r with
            | nil => exact hw
            | cons z r =>
              have : lx (v ++ [x + 1]) (v ++ (x + 1) :: z :: r) = true := by
                have h2 := lx_cat (v ++ [x + 1]) r z
                rw [List.append_assoc (v) [x + 1]] at h2
                exact h2
              exact lx_trans hw this
        omega
      · intro h; cases h; omega
/-- a tree that holds the words L, laid right -/
def TR (ch : Nat → Option Nat) (wh : Nat → Bool) (hf hb ln : Nat → Nat) (sw : Nat → Option Nat) (L : List (List Nat)) : Prop :=
  TP ch wh hf L [] ∧ srt L ∧ (∀ w, w ∈ L → wrd w) ∧ ∀ u, lets u → right ch wh L hb ln sw u
section TRS
variable {ch : Nat → Option Nat} {wh : Nat → Bool} {hf hb ln : Nat → Nat} {sw : Nat → Option Nat} {L : List (List Nat)}
theorem TR.in_ {u : List Nat} (h : TR ch wh hf hb ln sw L) (hu : u ∈ L) : ∃ p, nod ch u = some p := by
  have := (h.1.2.2.1 u (h.2.2.1 u hu).2.2).mpr (Or.inr (Or.inl ⟨u, hu, List.prefix_rfl⟩))
  cases hn : nod ch u with
  | none => exact absurd hn this
  | some p => exact ⟨p, rfl⟩
theorem TR.segs (h : TR ch wh hf hb ln sw L) (tx : Nat → Nat) (b n : Nat) : (if whO wh (fwk ch (fun i => tx (b + i)) n) then fwk ch (fun i => tx (b + i)) n else none).map hb = seg L tx b n := by
  rw [fwk_nod]
  unfold seg idx
  cases ha : alwF tx b n with
  | false => rfl
  | true =>
    simp only [if_true]
    cases hn : nod ch (lts tx b n) with
    | none =>
      have : lts tx b n ∉ L := fun q => by
        obtain ⟨p, hp⟩ := h.in_ q
        rw [hp] at hn
        cases hn
      rw [if_neg this]
      rfl
    | some p =>
      have hw := h.1.2.2.2.1 _ p (lts_lets tx b n) hn
      have hb := (h.2.2.2 _ (lts_lets tx b n) p hn).1
      show (if wh p then some p else none).map _ = _
      by_cases q : lts tx b n ∈ L
      · rw [if_pos (hw.mpr q), if_pos q, ← hb]
        rfl
      · rw [if_neg (fun z => q (hw.mp z)), if_neg q]
        rfl
theorem zadd (tx : Nat → Nat) : (fun i => tx (0 + i)) = tx := by
  funext i
  rw [Nat.zero_add]
theorem TR.rank (h : TR ch wh hf hb ln sw L) (tx : Nat → Nat) (n : Nat) : (if whO wh (fwk ch tx n) then fwk ch tx n else none).map hb = seg L tx 0 n := by
  have := h.segs tx 0 n
  rw [zadd] at this
  exact this
theorem fwk_nod0 (tx : Nat → Nat) (n : Nat) : fwk ch tx n = if alwF tx 0 n then nod ch (lts tx 0 n) else none := by
  have := fwk_nod ch tx 0 n
  rw [zadd] at this
  exact this
/-- how many words begin so -/
def sta (L : List (List Nat)) (tx : Nat → Nat) (n : Nat) : Nat := if alwF tx 0 n then L.countP (fun w => (lts tx 0 n).isPrefixOf w) else 0
theorem TR.starting (h : TR ch wh hf hb ln sw L) (tx : Nat → Nat) (n : Nat) : ((fwk ch tx n).map hf).getD 0 = sta L tx n := by
  rw [fwk_nod0]
  unfold sta
  cases ha : alwF tx 0 n with
  | false => rfl
  | true =>
    simp only [if_true]
    cases hn : nod ch (lts tx 0 n) with
    | none =>
      symm
      exact cP0 (fun q => (h.1.2.2.1 _ (lts_lets tx 0 n)).mpr (Or.inr (Or.inl q)) hn)
    | some p =>
      have := h.1.2.2.2.2.1 _ p (lts_lets tx 0 n) hn
      rw [List.countP_nil, Nat.add_zero] at this
      exact this
/-- the longest word that the text begins with -/
def lng (L : List (List Nat)) (tx : Nat → Nat) : Nat → Option Nat
  | 0 => none
  | k + 1 => (seg L tx 0 (k + 1)).or (lng L tx k)
theorem lgs_2 (tx : Nat → Nat) : ∀ k, (lgs ch wh hb tx k).2 = fwk ch tx k
  | 0 => rfl
  | k + 1 => by
    show stp ch (lgs ch wh hb tx k).2 (tx k) = stp ch (fwk ch tx k) (tx k)
    rw [lgs_2 tx k]
theorem TR.longest (h : TR ch wh hf hb ln sw L) (tx : Nat → Nat) : ∀ k, (lgs ch wh hb tx k).1 = lng L tx k
  | 0 => rfl
  | k + 1 => by
    show (if whO wh (stp ch (lgs ch wh hb tx k).2 (tx k)) then (stp ch (lgs ch wh hb tx k).2 (tx k)).map hb else (lgs ch wh hb tx k).1) = (seg L tx 0 (k + 1)).or (lng L tx k)
    rw [← TR.longest h tx k, ← h.rank tx (k + 1), lgs_2]
    show _ = ((if whO wh (stp ch (fwk ch tx k) (tx k)) then stp ch (fwk ch tx k) (tx k) else none).map hb).or _
    by_cases q : whO wh (stp ch (fwk ch tx k) (tx k)) = true
    · rw [if_pos q, if_pos q]
      obtain ⟨z, hz⟩ := whO_t q
      rw [hz]
      rfl
    · rw [if_neg q, if_neg q]
      rfl
theorem ltt_yes {i p y : Nat} (hy : y < 8) (h1 : ∀ x, x < 8 → x ≠ y → ltOk ch hf hb i p x = false) (h2 : ltOk ch hf hb i p y = true) : ltt ch hf hb i p = some y := by
  have : ∀ f x, x + f = 8 → x ≤ y → ltw ch hf hb i p f x = some y := by
    intro f
    induction f with
    | zero => intro x h3 h4; omega
    | succ f ih =>
      intro x h3 h4
      by_cases e : x = y
      · subst e; exact ltw_yes h2
      · rw [ltw_no (h1 x (by omega) e)]
        exact ih (x + 1) (by omega) (by omega)
  exact this 8 0 rfl (Nat.zero_le _)
theorem ltt_not {i p : Nat} (h1 : ∀ x, x < 8 → ltOk ch hf hb i p x = false) : ltt ch hf hb i p = none := by
  have : ∀ f x, x + f = 8 → ltw ch hf hb i p f x = none := by
    intro f
    induction f with
    | zero => intro x h3; rfl
    | succ f ih =>
      intro x h3
      rw [ltw_no (h1 x (by omega))]
      exact ih (x + 1) (by omega)
  exact this 8 0 rfl
/-- towards the word v ++ r, at v -/
theorem TR.towards {i p : Nat} {v r : List Nat} (h : TR ch wh hf hb ln sw L) (hi : L[i]? = some (v ++ r)) (hp : nod ch v = some p) : ltt ch hf hb i p = r.head? := by
  have hm := List.mem_of_getElem? hi
  have hlet : lets (v ++ r) := (h.2.2.1 _ hm).2.2
  have hvl : lets v := lets_pre (List.prefix_append v r) hlet
  have hli : less L (v ++ r) = i := srt_cnt h.2.1 hi
  have hok : ∀ x, x < 8 → (ltOk ch hf hb i p x = true ↔ r.head? = some x) := by
    intro x hx
    have hcl : lets (v ++ [x]) := lets_snoc.mpr ⟨hvl, hx⟩
    rw [← between hm, hli]
    cases hq : ch (p * 8 + x) with
    | none =>
      rw [ltOk_n hq]
      have hn : nod ch (v ++ [x]) = none := by rw [nod_snoc_s hp]; exact hq
      have h0 : L.countP (fun w => (v ++ [x]).isPrefixOf w) = 0 := cP0 (fun q => (h.1.2.2.1 _ hcl).mpr (Or.inr (Or.inl q)) hn)
      rw [less_succ, h0]
      constructor
      · intro q; cases q
      · intro q; omega
    | some q =>
      have hn : nod ch (v ++ [x]) = some q := by rw [nod_snoc_s hp]; exact hq
      have h1 := (h.2.2.2 _ hcl q hn).1
      have h2 := h.1.2.2.2.2.1 _ q hcl hn
      rw [List.countP_nil, Nat.add_zero] at h2
      rw [ltOk_s hq, h1, h2, less_succ, Bool.and_eq_true, decide_eq_true_iff, decide_eq_true_iff]
  cases r with
  | nil =>
    refine ltt_not (fun x hx => ?_)
    cases hz : ltOk ch hf hb i p x with
    | false => rfl
    | true => have := (hok x hx).mp hz; cases this
  | cons y r =>
    have hy : y < 8 := hlet y (by simp)
    refine ltt_yes hy (fun x hx hne => ?_) ((hok y hy).mpr rfl)
    cases hz : ltOk ch hf hb i p x with
    | false => rfl
    | true =>
      have := (hok x hx).mp hz
      exact absurd (Option.some.inj this).symm hne
/-- what spell has laid after k letters -/
def txu (u : List Nat) (tx : Nat → Nat) (k : Nat) : Nat → Nat := fun j => if j < k then 97 + (u[j]?).getD 0 else tx j
theorem TR.spell {i : Nat} {u : List Nat} (h : TR ch wh hf hb ln sw L) (hi : L[i]? = some u) (tx : Nat → Nat) : ∀ k, k ≤ u.length → ∃ p, nod ch (u.take k) = some p ∧ spl ch hf hb i tx k = (p, u[k]?, txu u tx k, k)
  | 0, _ => by
    refine ⟨0, rfl, ?_⟩
    show (0, ltt ch hf hb i 0, tx, 0) = _
    rw [h.towards (v := []) (r := u) hi rfl]
    have : txu u tx 0 = tx := by
      funext j
      exact if_neg (by omega)
    rw [this, List.head?_eq_getElem?]
  | k + 1, hk => by
    obtain ⟨p, hp, e⟩ := TR.spell h hi tx k (by omega)
    obtain ⟨x, hx⟩ : ∃ x, u[k]? = some x := ⟨_, List.getElem?_eq_getElem (by omega)⟩
    have htk : u.take (k + 1) = u.take k ++ [x] := by
      rw [List.take_succ, hx]
      rfl
    have hm := List.mem_of_getElem? hi
    have hlet : lets u := (h.2.2.1 _ hm).2.2
    have hpre : u.take (k + 1) <+: u := List.take_prefix _ _
    have hnn := (h.1.2.2.1 _ (lets_pre hpre hlet)).mpr (Or.inr (Or.inl ⟨u, hm, hpre⟩))
    obtain ⟨q, hq⟩ : ∃ q, nod ch (u.take (k + 1)) = some q := by
      cases hz : nod ch (u.take (k + 1)) with
      | none => exact absurd hz hnn
      | some q => exact ⟨q, rfl⟩
    refine ⟨q, hq, ?_⟩
    have hc : ch (p * 8 + x) = some q := by
      rw [← nod_snoc_s hp, ← htk]
      exact hq
    show spS ch hf hb i (spl ch hf hb i tx k) = _
    rw [e, hx]
    show ((ch (p * 8 + x)).getD 0, ltt ch hf hb i ((ch (p * 8 + x)).getD 0), va_up (txu u tx k) k (97 + x), k + 1) = _
    rw [hc]
    show (q, ltt ch hf hb i q, va_up (txu u tx k) k (97 + x), k + 1) = _
    rw [h.towards (v := u.take (k + 1)) (r := u.drop (k + 1)) (by rw [List.take_append_drop]; exact hi) hq]
    have h1 : (u.drop (k + 1)).head? = u[k + 1]? := by
      rw [List.head?_eq_getElem?, List.getElem?_drop]
    have h2 : va_up (txu u tx k) k (97 + x) = txu u tx (k + 1) := by
      funext j
      by_cases hj : j = k
      · subst hj
        rw [va_up_self]
        show _ = if j < j + 1 then 97 + (u[j]?).getD 0 else tx j
        rw [if_pos (by omega), hx]
        rfl
      · rw [va_up_ne _ _ hj]
        show (if j < k then _ else _) = if j < k + 1 then _ else _
        by_cases hk2 : j < k
        · rw [if_pos hk2, if_pos (by omega)]
        · rw [if_neg hk2, if_neg (by omega)]
    rw [h1, h2]
theorem TR.spelt {i : Nat} {u : List Nat} (h : TR ch wh hf hb ln sw L) (hi : L[i]? = some u) (tx : Nat → Nat) : ∃ p, spl ch hf hb i tx n7 = (p, none, txu u tx u.length, u.length) := by
  obtain ⟨p, -, e⟩ := h.spell hi tx u.length (Nat.le_refl _)
  rw [List.getElem?_eq_none (Nat.le_refl _)] at e
  have h7 := (h.2.2.1 u (List.mem_of_getElem? hi)).2.1
  exact ⟨p, spl_end e (by rw [n7_eq]; exact h7)⟩
end TRS
