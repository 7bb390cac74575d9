/-! In how many ways a text is cut into words: from the end and from the start -/
def sm (f : Nat → Nat) : Nat → Nat
  | 0 => 0
  | k + 1 => sm f k + f (k + 1)
theorem sm_ext {f g : Nat → Nat} : ∀ {n : Nat}, (∀ i, 1 ≤ i → i ≤ n → f i = g i) → sm f n = sm g n
  | 0, _ => rfl
  | n + 1, h => by
    show sm f n + f (n + 1) = sm g n + g (n + 1)
    rw [sm_ext (fun i h1 h2 => h i h1 (by omega)), h (n + 1) (by omega) (Nat.le_refl _)]
theorem sm_0 : ∀ (n : Nat), sm (fun _ => 0) n = 0
  | 0 => rfl
  | n + 1 => by
    show sm (fun _ => 0) n + 0 = 0
    rw [sm_0 n]
theorem sm_add (f g : Nat → Nat) : ∀ n, sm (fun i => f i + g i) n = sm f n + sm g n
  | 0 => rfl
  | n + 1 => by
    show sm (fun i => f i + g i) n + (f (n + 1) + g (n + 1)) = sm f n + f (n + 1) + (sm g n + g (n + 1))
    rw [sm_add f g n]
    omega
theorem sm_mul (c : Nat) (f : Nat → Nat) : ∀ n, sm (fun i => c * f i) n = c * sm f n
  | 0 => rfl
  | n + 1 => by
    show sm (fun i => c * f i) n + c * f (n + 1) = c * (sm f n + f (n + 1))
    rw [sm_mul c f n, Nat.mul_add]
theorem sm_swap (g : Nat → Nat → Nat) (m : Nat) : ∀ n, sm (fun i => sm (fun j => g i j) m) n = sm (fun j => sm (fun i => g i j) n) m
  | 0 => (sm_0 m).symm
  | n + 1 => by
    show sm (fun i => sm (fun j => g i j) m) n + sm (fun j => g (n + 1) j) m = sm (fun j => sm (fun i => g i j) n + g (n + 1) j) m
    rw [sm_swap g m n, sm_add]
theorem sm_pad (f : Nat → Nat) {k : Nat} : ∀ {n : Nat}, k ≤ n → sm f k = sm (fun i => if i ≤ k then f i else 0) n
  | 0, h => by
    have : k = 0 := by omega
    subst this
    rfl
  | n + 1, h => by
    show _ = sm (fun i => if i ≤ k then f i else 0) n + (if n + 1 ≤ k then f (n + 1) else 0)
    by_cases e : k = n + 1
    · subst e
      rw [if_pos (Nat.le_refl _)]
      show sm f n + f (n + 1) = _
      congr 1
      exact sm_ext (fun i h1 h2 => (if_pos (by omega)).symm)
    · rw [if_neg (by omega), Nat.add_zero]
      exact sm_pad f (by omega)
/-- the ways from b to e, by the first word; d is how many letters -/
def wtb (s : Nat → Nat → Nat) (e : Nat) : Nat → Nat → Nat
  | 0 => fun _ => 1
  | d + 1 => fun i => if i = d + 1 then sm (fun j => s (e - (d + 1)) j * wtb s e d (d + 1 - j)) (d + 1) else wtb s e d i
def wys (s : Nat → Nat → Nat) (e d : Nat) : Nat := wtb s e d d
theorem wtb_le (s : Nat → Nat → Nat) (e : Nat) {i : Nat} : ∀ {d : Nat}, i ≤ d → wtb s e d i = wys s e i
  | 0, h => by
    have : i = 0 := by omega
    subst this
    rfl
  | d + 1, h => by
    by_cases q : i = d + 1
    · subst q; rfl
    · show (if i = d + 1 then _ else wtb s e d i) = _
      rw [if_neg q]
      exact wtb_le s e (by omega)
theorem wys_0 (s : Nat → Nat → Nat) (e : Nat) : wys s e 0 = 1 := rfl
theorem wys_s (s : Nat → Nat → Nat) (e d : Nat) : wys s e (d + 1) = sm (fun j => s (e - (d + 1)) j * wys s e (d + 1 - j)) (d + 1) := by
  show (if d + 1 = d + 1 then sm (fun j => s (e - (d + 1)) j * wtb s e d (d + 1 - j)) (d + 1) else _) = _
  rw [if_pos rfl]
  refine sm_ext (fun i h1 h2 => ?_)
  rw [wtb_le s e (by omega)]
/-- .. and by the last word -/
theorem wys_last (s : Nat → Nat → Nat) : ∀ (d e : Nat), d + 1 ≤ e → wys s e (d + 1) = sm (fun m => s (e - m) m * wys s (e - m) (d + 1 - m)) (d + 1) := by
  intro d
  induction d using Nat.strongRecOn with
  | ind d ih =>
    intro e he
    rw [wys_s]
    show sm (fun j => s (e - (d + 1)) j * wys s e (d + 1 - j)) d + s (e - (d + 1)) (d + 1) * wys s e (d + 1 - (d + 1)) = sm (fun m => s (e - m) m * wys s (e - m) (d + 1 - m)) d + s (e - (d + 1)) (d + 1) * wys s (e - (d + 1)) (d + 1 - (d + 1))
    rw [Nat.sub_self, wys_0, wys_0]
    congr 1
    have h1 : sm (fun j => s (e - (d + 1)) j * wys s e (d + 1 - j)) d = sm (fun j => sm (fun m => if m ≤ d + 1 - j then s (e - (d + 1)) j * (s (e - m) m * wys s (e - m) (d + 1 - j - m)) else 0) d) d := by
      refine sm_ext (fun j hj1 hj2 => ?_)
      obtain ⟨d', hd'⟩ : ∃ d', d + 1 - j = d' + 1 := ⟨d - j, by omega⟩
      rw [hd', ih d' (by omega) e (by omega), ← sm_mul, sm_pad _ (show d' + 1 ≤ d by omega)]
    have h2 : sm (fun m => s (e - m) m * wys s (e - m) (d + 1 - m)) d = sm (fun m => sm (fun j => if j ≤ d + 1 - m then s (e - m) m * (s (e - (d + 1)) j * wys s (e - m) (d + 1 - m - j)) else 0) d) d := by
      refine sm_ext (fun m hm1 hm2 => ?_)
      obtain ⟨d', hd'⟩ : ∃ d', d + 1 - m = d' + 1 := ⟨d - m, by omega⟩
      rw [hd', wys_s, ← sm_mul, sm_pad _ (show d' + 1 ≤ d by omega), show e - m - (d' + 1) = e - (d + 1) by omega]
    rw [h1, h2, sm_swap]
    refine sm_ext (fun m hm1 hm2 => sm_ext (fun j hj1 hj2 => ?_))
    by_cases q : m ≤ d + 1 - j
    · rw [if_pos q, if_pos (by omega), show d + 1 - j - m = d + 1 - m - j by omega, Nat.mul_left_comm]
    · rw [if_neg q, if_neg (by omega)]
/-- words of the text as weights -/
def wgt (L : List (List Nat)) (tx : Nat → Nat) (b k : Nat) : Nat := if (seg L tx b k).isSome then 1 else 0
theorem wgt_n {L : List (List Nat)} {tx : Nat → Nat} {b k : Nat} (h : seg L tx b k = none) : wgt L tx b k = 0 := by unfold wgt; rw [h]; rfl
theorem wgt_s {L : List (List Nat)} {tx : Nat → Nat} {b k r : Nat} (h : seg L tx b k = some r) : wgt L tx b k = 1 := by unfold wgt; rw [h]; rfl
theorem i64add (a b : Nat) : Int64.ofNat (a + b) = Int64.ofNat a + Int64.ofNat b := Int64.ofNat_add a b
section WC
variable {ch : Nat → Option Nat} {wh : Nat → Bool} {hf hb ln : Nat → Nat} {sw : Nat → Option Nat} {L : List (List Nat)}
theorem TR.whs (h : TR ch wh hf hb ln sw L) (tx : Nat → Nat) (b n : Nat) : whO wh (fwk ch (fun i => tx (b + i)) n) = (seg L tx b n).isSome := by
  rw [← h.segs tx b n]
  cases hz : whO wh (fwk ch (fun i => tx (b + i)) n) with
  | false => rfl
  | true =>
    obtain ⟨z, e⟩ := whO_t hz
    rw [if_pos rfl, e]
    rfl
theorem cf_1 (tx : Nat → Nat) (b : Nat) (wy : Nat → Int64) : ∀ j, (cf ch wh tx b wy j).1 = fwk ch (fun i => tx (b + i)) j
  | 0 => rfl
  | j + 1 => by
    show stp ch (cf ch wh tx b wy j).1 (tx (b + j)) = stp ch (fwk ch (fun i => tx (b + i)) j) (tx (b + j))
    rw [cf_1 tx b wy j]
theorem TR.cf2 (h : TR ch wh hf hb ln sw L) (tx : Nat → Nat) {b n : Nat} {wy : Nat → Int64} (hw : ∀ e, b < e → e ≤ n → wy e = Int64.ofNat (wys (wgt L tx) n (n - e))) : ∀ j, b + j ≤ n → (cf ch wh tx b wy j).2 b = Int64.ofNat (sm (fun k => wgt L tx b k * wys (wgt L tx) n (n - (b + k))) j) ∧ ∀ e, e ≠ b → (cf ch wh tx b wy j).2 e = wy e
  | 0, _ => ⟨va_up_self _ _ _, fun e he => va_up_ne _ _ he⟩
  | j + 1, hj => by
    obtain ⟨h1, h2⟩ := TR.cf2 h tx hw j (by omega)
    have e1 : stp ch (cf ch wh tx b wy j).1 (tx (b + j)) = fwk ch (fun i => tx (b + i)) (j + 1) := by
      rw [cf_1]
      rfl
    show (if whO wh (stp ch (cf ch wh tx b wy j).1 (tx (b + j))) then va_up (cf ch wh tx b wy j).2 b ((cf ch wh tx b wy j).2 b + (cf ch wh tx b wy j).2 (b + j + 1)) else (cf ch wh tx b wy j).2) b = Int64.ofNat (sm (fun k => wgt L tx b k * wys (wgt L tx) n (n - (b + k))) j + wgt L tx b (j + 1) * wys (wgt L tx) n (n - (b + (j + 1)))) ∧ ∀ e, e ≠ b → (if whO wh (stp ch (cf ch wh tx b wy j).1 (tx (b + j))) then va_up (cf ch wh tx b wy j).2 b ((cf ch wh tx b wy j).2 b + (cf ch wh tx b wy j).2 (b + j + 1)) else (cf ch wh tx b wy j).2) e = wy e
    rw [e1, h.whs]
    unfold wgt at *
    cases hz : (seg L tx b (j + 1)).isSome with
    | true =>
      simp only [if_true, Nat.one_mul]
      refine ⟨?_, fun e he => ?_⟩
      · rw [va_up_self, h1, h2 (b + j + 1) (by omega), hw (b + j + 1) (by omega) (by omega), i64add]
        rfl
      · rw [va_up_ne _ _ he]
        exact h2 e he
    | false =>
      refine ⟨?_, h2⟩
      rw [if_neg (by decide), if_neg (by decide), Nat.zero_mul, Nat.add_zero]
      exact h1
theorem TR.ways (h : TR ch wh hf hb ln sw L) (tx : Nat → Nat) (n : Nat) (wy : Nat → Int64) : ∀ k, k ≤ n → ∀ e, n - k ≤ e → e ≤ n → cnt ch wh tx n wy k e = Int64.ofNat (wys (wgt L tx) n (n - e))
  | 0, _, e, h1, h2 => by
    have : e = n := by omega
    subst this
    rw [Nat.sub_self, wys_0]
    exact va_up_self _ _ _
  | k + 1, hk, e, h1, h2 => by
    have ih := TR.ways h tx n wy k (by omega)
    obtain ⟨c1, c2⟩ := h.cf2 tx (b := n - (k + 1)) (n := n) (wy := cnt ch wh tx n wy k) (fun e he1 he2 => ih e (by omega) he2) (k + 1) (by omega)
    show (cf ch wh tx (n - (k + 1)) (cnt ch wh tx n wy k) (k + 1)).2 e = _
    by_cases q : e = n - (k + 1)
    · subst q
      rw [c1, show n - (n - (k + 1)) = k + 1 by omega, wys_s]
      congr 1
      refine sm_ext (fun i hi1 hi2 => ?_)
      rw [show n - (n - (k + 1) + i) = k + 1 - i by omega]
    · rw [c2 e q]
      exact ih e (by omega) h2
end WC
section WM
variable {le sz : Nat → Nat} {cn : Nat} {L : List (List Nat)}
theorem ML.sW (h : ML le sz cn L) (hs : srt L) (hw : ∀ w, w ∈ L → wrd w) (tx : Nat → Nat) {e : Nat} {wy : Nat → Int64} (hy : ∀ z, z < e → wy z = Int64.ofNat (wys (wgt L tx) z z)) : ∀ j, j ≤ e → msW tx le sz cn e wy j e = Int64.ofNat (sm (fun m => wgt L tx (e - m) m * wys (wgt L tx) (e - m) (e - m)) j) ∧ ∀ z, z ≠ e → msW tx le sz cn e wy j z = wy z
  | 0, _ => ⟨va_up_self _ _ _, fun z hz => va_up_ne _ _ hz⟩
  | j + 1, hj => by
    obtain ⟨h1, h2⟩ := ML.sW h hs hw tx hy j (by omega)
    show va_up (msW tx le sz cn e wy j) e (oselL (mnb tx le sz cn (e - (j + 1)) (j + 1)) (msW tx le sz cn e wy j e + msW tx le sz cn e wy j (e - (j + 1))) (msW tx le sz cn e wy j e)) e = Int64.ofNat (sm (fun m => wgt L tx (e - m) m * wys (wgt L tx) (e - m) (e - m)) j + wgt L tx (e - (j + 1)) (j + 1) * wys (wgt L tx) (e - (j + 1)) (e - (j + 1))) ∧ ∀ z, z ≠ e → va_up (msW tx le sz cn e wy j) e _ z = wy z
    refine ⟨?_, fun z hz => ?_⟩
    · rw [va_up_self, h.nb hs hw, h1, h2 (e - (j + 1)) (by omega), hy (e - (j + 1)) (by omega)]
      cases hz : seg L tx (e - (j + 1)) (j + 1) with
      | none =>
        rw [wgt_n hz, Nat.zero_mul, Nat.add_zero]
        rfl
      | some r =>
        rw [wgt_s hz, Nat.one_mul, i64add]
        rfl
    · rw [va_up_ne _ _ hz]
      exact h2 z hz
theorem wgt_big (hw : ∀ w, w ∈ L → wrd w) {tx : Nat → Nat} {b k : Nat} (hk : 7 < k) : wgt L tx b k = 0 := by
  unfold wgt
  rw [seg_big hw hk]
  rfl
theorem sm_7 {f : Nat → Nat} (hf : ∀ i, 7 < i → f i = 0) : ∀ n, sm f n = sm f (min 7 n)
  | 0 => rfl
  | n + 1 => by
    by_cases h : n + 1 ≤ 7
    · rw [Nat.min_eq_right h]
    · rw [show min 7 (n + 1) = min 7 n by omega, ← sm_7 hf n]
      show sm f n + f (n + 1) = _
      rw [hf (n + 1) (by omega), Nat.add_zero]
theorem ML.ways (h : ML le sz cn L) (hs : srt L) (hw : ∀ w, w ∈ L → wrd w) (tx : Nat → Nat) (wy : Nat → Int64) : ∀ i, ∀ z, z ≤ i → msp tx le sz cn wy i z = Int64.ofNat (wys (wgt L tx) z z)
  | 0, z, hz => by
    have : z = 0 := by omega
    subst this
    rw [wys_0]
    exact va_up_self _ _ _
  | i + 1, z, hz => by
    have ih := ML.ways h hs hw tx wy i
    obtain ⟨c1, c2⟩ := h.sW hs hw tx (e := i + 1) (wy := msp tx le sz cn wy i) (fun z hz => ih z (by omega)) (min 7 (i + 1)) (by omega)
    show msW tx le sz cn (i + 1) (msp tx le sz cn wy i) (min 7 (i + 1)) z = _
    by_cases q : z = i + 1
    · subst q
      rw [c1, wys_last _ i (i + 1) (Nat.le_refl _), ← sm_7 (fun m hm => by rw [wgt_big hw hm, Nat.zero_mul])]
    · rw [c2 z q]
      exact ih z (by omega)
end WM
