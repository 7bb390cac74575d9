/-! The tree while words come and go -/
def TB (ch : Nat → Option Nat) (hf hb ln : Nat → Nat) (sw : Nat → Option Nat) (od : Nat → Nat) : Prop :=
  rg sw ∧ (∀ i, ln i < 211) ∧ (∀ i, od i < 211) ∧ (∀ i, hb i < 1000) ∧ ∀ i, 211 ≤ i → hf i = 0
section TK
variable {ch : Nat → Option Nat} {wh : Nat → Bool} {hf hb ln : Nat → Nat} {sw : Nat → Option Nat} {od : Nat → Nat} {L : List (List Nat)}
theorem lks_sw (hrg : rg ch) (hl : ∀ i, ln i < 211) (hs : rg sw) {p bf kn : Nat} : ∀ x, (∀ i, (lks ch wh hf p (bf, kn, hb, ln, sw, od) x).2.2.2.1 i < 211) ∧ rg (lks ch wh hf p (bf, kn, hb, ln, sw, od) x).2.2.2.2.1
  | 0 => ⟨hl, hs⟩
  | x + 1 => by
    have ih := lks_sw (p := p) (bf := bf) (kn := kn) hrg hl hs x
    show (∀ i, (lkS ch wh hf p x (lks ch wh hf p (bf, kn, hb, ln, sw, od) x)).2.2.2.1 i < 211) ∧ rg (lkS ch wh hf p x (lks ch wh hf p (bf, kn, hb, ln, sw, od) x)).2.2.2.2.1
    generalize lks ch wh hf p (bf, kn, hb, ln, sw, od) x = s at ih
    obtain ⟨b1, c1, hb1, ln1, sw1, od1⟩ := s
    obtain ⟨i1, i2⟩ := ih
    by_cases hc : c1 < 211
    · cases hq : ch (p * 8 + x) with
      | none => rw [lkS_none hq]; exact ⟨i1, i2⟩
      | some q =>
        rw [lkS_some hc hq rfl]
        have hs1 : (if p = 0 then 0 else fol ch ln1 (ln1 p) x) < 211 := by
          split
          · omega
          · exact fol_lt hrg
        refine ⟨up_lt i1 hs1, ?_⟩
        show rg (va_up sw1 q _)
        generalize (if p = 0 then 0 else fol ch ln1 (ln1 p) x) = z at hs1
        cases hz : wh z with
        | true => exact rg_up i2 hs1
        | false =>
          intro i j hj
          by_cases e : i = q
          · subst e
            rw [va_up_self] at hj
            exact i2 z j hj
          · rw [va_up_ne _ _ e] at hj
            exact i2 i j hj
    · rw [lkS_full hc]; exact ⟨i1, i2⟩
theorem rls_ok (hrg : rg ch) (hl : ∀ i, ln i < 211) (ho : ∀ i, od i < 211) (hs : rg sw) : ∀ k, (rls ch wh hf hb ln sw od k).1 ≤ 211 ∧ (∀ i, (rls ch wh hf hb ln sw od k).2.2.1 i < 211) ∧ rg (rls ch wh hf hb ln sw od k).2.2.2.1 ∧ ∀ i, (rls ch wh hf hb ln sw od k).2.2.2.2 i < 211
  | 0 => ⟨by show 1 ≤ 211; omega, hl, hs, up_lt ho (by omega)⟩
  | k + 1 => by
    have ih := rls_ok hrg hl ho hs k
    show (rlS ch wh hf k (rls ch wh hf hb ln sw od k)).1 ≤ 211 ∧ (∀ i, (rlS ch wh hf k (rls ch wh hf hb ln sw od k)).2.2.1 i < 211) ∧ rg (rlS ch wh hf k (rls ch wh hf hb ln sw od k)).2.2.2.1 ∧ ∀ i, (rlS ch wh hf k (rls ch wh hf hb ln sw od k)).2.2.2.2 i < 211
    generalize rls ch wh hf hb ln sw od k = s at ih
    obtain ⟨kn, hb1, ln1, sw1, od1⟩ := s
    obtain ⟨i0, i1, i2, i3⟩ := ih
    by_cases hk : k < kn
    · have e : rlS ch wh hf k (kn, hb1, ln1, sw1, od1) = (lks ch wh hf (od1 k) (hb1 (od1 k) + (wh (od1 k)).toNat, kn, hb1, ln1, sw1, od1) n8).2 := if_pos hk
      rw [e]
      obtain ⟨j1, j2, j3⟩ := lks_ok (wh := wh) (hf := hf) (hb := hb1) (sw := sw1) (p := od1 k) (bf := hb1 (od1 k) + (wh (od1 k)).toNat) hrg i1 i3 i0 n8
      exact ⟨j1, j2, (lks_sw hrg i1 i2 n8).2, j3⟩
    · have e : rlS ch wh hf k (kn, hb1, ln1, sw1, od1) = (kn, hb1, ln1, sw1, od1) := if_neg hk
      rw [e]
      exact ⟨i0, i1, i2, i3⟩
theorem TR.hb0 (h : TR ch wh hf hb ln sw L) : hb 0 = 0 := by
  rw [(h.2.2.2 [] lets_nil 0 rfl).1, less_nil]
theorem TR.sw0 (h : TR ch wh hf hb ln sw L) : sw 0 = none := (h.2.2.2 [] lets_nil 0 rfl).2.2
theorem TR.hfb (h : TR ch wh hf hb ln sw L) (hB : TB ch hf hb ln sw od) (hL : L.length ≤ 30) : ∀ i, hf i ≤ 30 := by
  intro i
  by_cases hi : i < 211
  · by_cases hex : ∃ u, lets u ∧ nod ch u = some i
    · obtain ⟨u, hu, hn⟩ := hex
      have := h.1.2.2.2.2.1 u i hu hn
      rw [List.countP_nil, Nat.add_zero] at this
      rw [this]
      exact Nat.le_trans List.countP_le_length hL
    · by_cases h0 : i = 0
      · subst h0
        exact absurd ⟨[], lets_nil, rfl⟩ hex
      · rw [(h.1.2.2.2.2.2 i (by omega) hi (fun u hu hn => hex ⟨u, hu, hn⟩)).1]
        omega
  · rw [hB.2.2.2.2 i (by omega)]
    omega
theorem TR.hf0 (h : TR ch wh hf hb ln sw L) : hf 0 = L.length := by
  have := h.1.2.2.2.2.1 [] 0 lets_nil rfl
  rw [List.countP_nil, Nat.add_zero] at this
  rw [this, List.countP_eq_length]
  intro a _
  exact List.isPrefixOf_iff_prefix.mpr (List.nil_prefix)
theorem grw_hi {tx : Nat → Nat} (hr : rg ch) (h0 : ∀ i, 211 ≤ i → hf i = 0) : ∀ k, rg (grw tx ch hf k).2.1 ∧ ∀ i, 211 ≤ i → (grw tx ch hf k).2.2 i = 0
  | 0 => ⟨hr, fun i hi => by
      show va_up hf 0 (hf 0 + 1) i = 0
      rw [va_up_ne _ _ (by omega)]
      exact h0 i hi⟩
  | k + 1 => by
    have ih := grw_hi (tx := tx) hr h0 k
    show rg (grS (tx k) (grw tx ch hf k)).2.1 ∧ ∀ i, 211 ≤ i → (grS (tx k) (grw tx ch hf k)).2.2 i = 0
    generalize grw tx ch hf k = s at ih
    obtain ⟨i1, i2⟩ := ih
    unfold grS
    cases hq : s.2.1 (s.1 * 8 + lz (tx k)) with
    | some q =>
      have := i1 _ _ hq
      refine ⟨i1, fun i hi => ?_⟩
      show va_up s.2.2 q _ i = 0
      rw [va_up_ne _ _ (by omega)]
      exact i2 i hi
    | none =>
      have := fcell_le s.2.2
      refine ⟨rg_up i1 (by omega), fun i hi => ?_⟩
      show va_up s.2.2 (fcell s.2.2) _ i = 0
      rw [va_up_ne _ _ (by omega)]
      exact i2 i hi
theorem ctw_hi {tx : Nat → Nat} (hr : rg ch) (h0 : ∀ i, 211 ≤ i → hf i = 0) : ∀ k, rg (ctw tx ch hf k).2.1 ∧ ∀ i, 211 ≤ i → (ctw tx ch hf k).2.2 i = 0
  | 0 => ⟨hr, fun i hi => by
      show va_up hf 0 (hf 0 - 1) i = 0
      rw [va_up_ne _ _ (by omega)]
      exact h0 i hi⟩
  | k + 1 => by
    have ih := ctw_hi (tx := tx) hr h0 k
    show rg (ctS (tx k) (ctw tx ch hf k)).2.1 ∧ ∀ i, 211 ≤ i → (ctS (tx k) (ctw tx ch hf k)).2.2 i = 0
    generalize ctw tx ch hf k = s at ih
    obtain ⟨i1, i2⟩ := ih
    have hq : (s.2.1 (s.1 * 8 + lz (tx k))).getD 0 < 211 := by
      cases hz : s.2.1 (s.1 * 8 + lz (tx k)) with
      | none => show 0 < 211; omega
      | some q => exact i1 _ _ hz
    constructor
    · show rg (if _ then va_up s.2.1 _ none else s.2.1)
      split
      · exact rg_upN i1
      · exact i1
    · intro i hi
      show va_up s.2.2 ((s.2.1 (s.1 * 8 + lz (tx k))).getD 0) _ i = 0
      rw [va_up_ne _ _ (by omega)]
      exact i2 i hi
theorem sum7 : ∀ (L : List (List Nat)), (∀ w, w ∈ L → w.length ≤ 7) → (L.map List.length).sum ≤ 7 * L.length
  | [], _ => Nat.le_refl _
  | a :: l, h => by
    have h1 := sum7 l (fun w hw => h w (List.mem_cons_of_mem _ hw))
    have h2 := h a List.mem_cons_self
    rw [List.map_cons, List.sum_cons, List.length_cons]
    omega
/-- a word comes -/
theorem TR.add (h : TR ch wh hf hb ln sw L) (hB : TB ch hf hb ln sw od) {tx : Nat → Nat} {n : Nat} (h1 : 1 ≤ n) (h7 : n ≤ 7) (hm : lts tx 0 n ∉ L) (hL : L.length < 30) :
    TR (grw tx ch hf n).2.1 (va_up wh (grw tx ch hf n).1 true) (grw tx ch hf n).2.2 (rls (grw tx ch hf n).2.1 (va_up wh (grw tx ch hf n).1 true) (grw tx ch hf n).2.2 hb ln sw od n211).2.1 (rls (grw tx ch hf n).2.1 (va_up wh (grw tx ch hf n).1 true) (grw tx ch hf n).2.2 hb ln sw od n211).2.2.1 (rls (grw tx ch hf n).2.1 (va_up wh (grw tx ch hf n).1 true) (grw tx ch hf n).2.2 hb ln sw od n211).2.2.2.1 (ins (lts tx 0 n) L) ∧
    TB (grw tx ch hf n).2.1 (grw tx ch hf n).2.2 (rls (grw tx ch hf n).2.1 (va_up wh (grw tx ch hf n).1 true) (grw tx ch hf n).2.2 hb ln sw od n211).2.1 (rls (grw tx ch hf n).2.1 (va_up wh (grw tx ch hf n).1 true) (grw tx ch hf n).2.2 hb ln sw od n211).2.2.1 (rls (grw tx ch hf n).2.1 (va_up wh (grw tx ch hf n).1 true) (grw tx ch hf n).2.2 hb ln sw od n211).2.2.2.1 (rls (grw tx ch hf n).2.1 (va_up wh (grw tx ch hf n).1 true) (grw tx ch hf n).2.2 hb ln sw od n211).2.2.2.2 := by
  have hw7 : ∀ w, w ∈ L → w.length ≤ 7 := fun w hw => (h.2.2.1 w hw).2.1
  have hsum := sum7 L hw7
  have hT := (TP.grown (tx := tx) (n := n) h.1 (by omega)).perm (ins_perm (lts tx 0 n) L)
  have hs := ins_srt h.2.1 hm
  have hww : ∀ w, w ∈ ins (lts tx 0 n) L → wrd w := by
    intro w hw
    rcases ins_mem.mp hw with e | e
    · rw [e]
      exact ⟨by rw [lts_len]; exact h1, by rw [lts_len]; exact h7, lts_lets tx 0 n⟩
    · exact h.2.2.1 w e
  have hlen : (ins (lts tx 0 n) L).length < 1000 := by rw [ins_len]; omega
  obtain ⟨g1, g2⟩ := grw_hi (tx := tx) h.1.rg hB.2.2.2.2 n
  obtain ⟨k1, k2, k3, k4⟩ := rls_ok (wh := va_up wh (grw tx ch hf n).1 true) (hf := (grw tx ch hf n).2.2) (hb := hb) g1 hB.2.1 hB.2.2.1 hB.1 n211
  exact ⟨⟨hT, hs, hww, relinked hT (srt_nodup hs) (fun w hw => (hww w hw).2.1) hlen h.hb0 h.sw0 hB.2.2.2.1⟩, k3, k2, k4, relinkB hT (srt_nodup hs) (fun w hw => (hww w hw).2.1) hlen h.hb0 h.sw0 hB.2.2.2.1, g2⟩
/-- a word goes -/
theorem TR.del (h : TR ch wh hf hb ln sw L) (hB : TB ch hf hb ln sw od) {tx : Nat → Nat} {n : Nat} (hm : lts tx 0 n ∈ L) (hL : L.length ≤ 30) :
    TR (ctw tx ch hf n).2.1 (va_up wh (ctw tx ch hf n).1 false) (ctw tx ch hf n).2.2 (rls (ctw tx ch hf n).2.1 (va_up wh (ctw tx ch hf n).1 false) (ctw tx ch hf n).2.2 hb ln sw od n211).2.1 (rls (ctw tx ch hf n).2.1 (va_up wh (ctw tx ch hf n).1 false) (ctw tx ch hf n).2.2 hb ln sw od n211).2.2.1 (rls (ctw tx ch hf n).2.1 (va_up wh (ctw tx ch hf n).1 false) (ctw tx ch hf n).2.2 hb ln sw od n211).2.2.2.1 (L.erase (lts tx 0 n)) ∧
    TB (ctw tx ch hf n).2.1 (ctw tx ch hf n).2.2 (rls (ctw tx ch hf n).2.1 (va_up wh (ctw tx ch hf n).1 false) (ctw tx ch hf n).2.2 hb ln sw od n211).2.1 (rls (ctw tx ch hf n).2.1 (va_up wh (ctw tx ch hf n).1 false) (ctw tx ch hf n).2.2 hb ln sw od n211).2.2.1 (rls (ctw tx ch hf n).2.1 (va_up wh (ctw tx ch hf n).1 false) (ctw tx ch hf n).2.2 hb ln sw od n211).2.2.2.1 (rls (ctw tx ch hf n).2.1 (va_up wh (ctw tx ch hf n).1 false) (ctw tx ch hf n).2.2 hb ln sw od n211).2.2.2.2 := by
  have hT := h.1.cutd hm (lts_lets tx 0 n) (srt_nodup h.2.1) (CP.way h.1 hm n (Nat.le_refl _))
  have hs := srt_erase_srt h.2.1 (lts tx 0 n)
  have hww : ∀ w, w ∈ L.erase (lts tx 0 n) → wrd w := fun w hw => h.2.2.1 w (List.mem_of_mem_erase hw)
  have hlen : (L.erase (lts tx 0 n)).length < 1000 := by
    have := List.length_erase_le (a := lts tx 0 n) (l := L)
    omega
  obtain ⟨g1, g2⟩ := ctw_hi (tx := tx) h.1.rg hB.2.2.2.2 n
  obtain ⟨k1, k2, k3, k4⟩ := rls_ok (wh := va_up wh (ctw tx ch hf n).1 false) (hf := (ctw tx ch hf n).2.2) (hb := hb) g1 hB.2.1 hB.2.2.1 hB.1 n211
  exact ⟨⟨hT, hs, hww, relinked hT (srt_nodup hs) (fun w hw => (hww w hw).2.1) hlen h.hb0 h.sw0 hB.2.2.2.1⟩, k3, k2, k4, relinkB hT (srt_nodup hs) (fun w hw => (hww w hw).2.1) hlen h.hb0 h.sw0 hB.2.2.2.1, g2⟩
/-- the new tree -/
theorem TR.new0 : TR (fun _ => none) (fun _ => false) (fun _ => 0) (fun _ => 0) (fun _ => 0) (fun _ => none) [] ∧ TB (fun _ => none) (fun _ => 0) (fun _ => 0) (fun _ => 0) (fun _ => none) (fun _ => 0) := by
  refine ⟨⟨TP.none0, List.Pairwise.nil, (fun w hw => by cases hw), ?_⟩, (fun i j hj => by cases hj), (fun i => by show 0 < 211; omega), (fun i => by show 0 < 211; omega), (fun i => by show 0 < 1000; omega), fun i _ => rfl⟩
  intro u hu p hp
  rcases snoc_cases u with e | ⟨v, x, e⟩
  · subst e
    exact ⟨rfl, fun z => absurd rfl z, rfl⟩
  · subst e
    obtain ⟨q, -, hq⟩ := nod_up hp
    cases hq
end TK
