/-! relink: rows in the order in which they are found -/
section RL
variable {ch : Nat → Option Nat} {wh : Nat → Bool} {hf : Nat → Nat} {L : List (List Nat)}
def wd (ch : Nat → Option Nat) (wh : Nat → Bool) (u : List Nat) : Bool := whO wh (nod ch u)
theorem wd_N {u : List Nat} (h : wd ch wh u = true) : isN ch u = true := by
  obtain ⟨z, hz⟩ := whO_t h
  exact isN_of hz
/-- what relink lays for the row u at the cell p -/
def right (ch : Nat → Option Nat) (wh : Nat → Bool) (L : List (List Nat)) (hb ln : Nat → Nat) (sw : Nat → Option Nat) (u : List Nat) : Prop := ∀ p, nod ch u = some p → hb p = less L u ∧ (u ≠ [] → nod ch (lsf ch u) = some (ln p)) ∧ sw p = (swf (wd ch wh) u).bind (nod ch)
/-- the rows found so far: Q; of the first k of them all children; of the next one the children with a letter before x -/
def BF (ch : Nat → Option Nat) (wh : Nat → Bool) (L : List (List Nat)) (Q : List (List Nat)) (k x : Nat) (hb ln : Nat → Nat) (sw : Nat → Option Nat) (od : Nat → Nat) : Prop :=
  (∀ i u, Q[i]? = some u → lets u ∧ nod ch u = some (od i)) ∧
  Q.Nodup ∧ Q[0]? = some [] ∧
  (∀ (i j : Nat) (u v : List Nat), i ≤ j → Q[i]? = some u → Q[j]? = some v → u.length ≤ v.length) ∧
  (∀ i u y, Q[i]? = some u → y < 8 → (i < k ∨ (i = k ∧ y < x)) → isN ch (u ++ [y]) = true → u ++ [y] ∈ Q) ∧
  (∀ u, u ∈ Q → u ≠ [] → ∃ i v y, Q[i]? = some v ∧ u = v ++ [y] ∧ (i < k ∨ (i = k ∧ y < x))) ∧
  (∀ u, u ∈ Q → right ch wh L hb ln sw u) ∧ ∀ i, hb i < 1000
/-- all rows that are no longer than the one at hand have been found -/
theorem BF.all {Q : List (List Nat)} {k x : Nat} {hb ln : Nat → Nat} {sw : Nat → Option Nat} {od : Nat → Nat} {u : List Nat} (h : BF ch wh L Q k x hb ln sw od) (hu : Q[k]? = some u) : ∀ (n : Nat) (w : List Nat), w.length = n → n ≤ u.length → lets w → isN ch w = true → w ∈ Q := by
  obtain ⟨b1, b2, b3, b4, b5, b6, b7⟩ := h
  intro n
  induction n with
  | zero =>
    intro w hw _ _ _
    have : w = [] := List.length_eq_zero_iff.mp hw
    rw [this]
    exact List.mem_of_getElem? b3
  | succ n ih =>
    intro w hw hn hl hN
    rcases snoc_cases w with rfl | ⟨v, y, rfl⟩
    · cases hw
    · have hlen : v.length = n := by simpa using hw
      obtain ⟨hl', hy⟩ := lets_snoc.mp hl
      have hv := ih v hlen (by omega) hl' (isN_pre hN)
      obtain ⟨i, hi⟩ := List.getElem?_of_mem hv
      have hik : i < k := by
        rcases Nat.lt_or_ge i k with q | q
        · exact q
        · have := b4 k i u v q hu hi
          omega
      exact b5 i v y hi hy (Or.inl hik) hN
/-- there is a cell for one row more -/
theorem BF.room {Q : List (List Nat)} {k x : Nat} {hb ln : Nat → Nat} {sw : Nat → Option Nat} {od : Nat → Nat} {c : List Nat} {q : Nat} (hT : TP ch wh hf L []) (h : BF ch wh L Q k x hb ln sw od) (hc : lets c) (hq : nod ch c = some q) (hno : c ∉ Q) : Q.length < 211 := by
  obtain ⟨b1, b2, b3, b4, b5, b6, b7⟩ := h
  have hlt : ∀ u p, lets u → nod ch u = some p → p < 211 := by
    intro u p hu hp
    rcases snoc_cases u with rfl | ⟨v, y, rfl⟩
    · cases hp; omega
    · obtain ⟨r, -, hr⟩ := nod_up hp
      exact (hT.1 _ _ hr).2
  have hl : ∀ u, u ∈ c :: Q → lets u ∧ ∃ p, nod ch u = some p := by
    intro u hu
    rcases List.mem_cons.mp hu with e | e
    · rw [e]; exact ⟨hc, q, hq⟩
    · obtain ⟨i, hi⟩ := List.getElem?_of_mem e
      exact ⟨(b1 i u hi).1, _, (b1 i u hi).2⟩
  have hnd : ((c :: Q).map (fun u => (nod ch u).getD 0)).Nodup := by
    have hn2 : (c :: Q).Nodup := List.nodup_cons.mpr ⟨hno, b2⟩
    rw [List.nodup_iff_pairwise_ne] at hn2 ⊢
    rw [List.pairwise_map]
    refine List.Pairwise.imp_of_mem ?_ hn2
    intro a b ha hb hab e
    obtain ⟨la, p, hp⟩ := hl a ha
    obtain ⟨lb, p', hp'⟩ := hl b hb
    rw [hp, hp'] at e
    have e2 : p = p' := e
    subst e2
    exact hab (hT.2.1 a b p la lb hp hp')
  have := nd_le 211 _ hnd (by
    intro a ha
    obtain ⟨u, hu, rfl⟩ := List.mem_map.mp ha
    obtain ⟨lu, p, hp⟩ := hl u hu
    rw [hp]
    exact hlt u p lu hp)
  rw [List.length_map, List.length_cons] at this
  omega
/-- one letter of linkChildren -/
theorem BF.letter {Q : List (List Nat)} {k x bf : Nat} {hb ln : Nat → Nat} {sw : Nat → Option Nat} {od : Nat → Nat} {u : List Nat} (hT : TP ch wh hf L []) (h7 : ∀ w, w ∈ L → w.length ≤ 7) (hL : L.length < 1000) (h : BF ch wh L Q k x hb ln sw od) (hu : Q[k]? = some u) (hx : x < 8) (hbf : bf = less L (u ++ [x])) :
    ∃ Q' bf' hb' ln' sw' od', lkS ch wh hf (od k) x (bf, Q.length, hb, ln, sw, od) = (bf', Q'.length, hb', ln', sw', od') ∧ BF ch wh L Q' k (x + 1) hb' ln' sw' od' ∧ Q'[k]? = some u ∧ bf' = less L (u ++ [x + 1]) ∧ od' k = od k := by
  have h0 := h
  obtain ⟨b1, b2, b3, b4, b5, b6, b7, b8⟩ := h
  obtain ⟨hul, hup⟩ := b1 k u hu
  have hkl : k < Q.length := (List.getElem?_eq_some_iff.mp hu).1
  have hcl : lets (u ++ [x]) := lets_snoc.mpr ⟨hul, hx⟩
  have hchild : nod ch (u ++ [x]) = ch (od k * 8 + x) := nod_snoc_s hup
  cases hz : ch (od k * 8 + x) with
  | none =>
    have hnN : ¬ isN ch (u ++ [x]) = true := by
      unfold isN
      rw [hchild, hz]
      decide
    have hcnt : L.countP (fun w => (u ++ [x]).isPrefixOf w) = 0 := cP0 (fun q => (hT.2.2.1 _ hcl).mpr (Or.inr (Or.inl q)) (by rw [hchild]; exact hz))
    refine ⟨Q, bf, hb, ln, sw, od, lkS_none hz, ⟨b1, b2, b3, b4, fun i v y hi hy hk hN => ?_, fun v hv hv0 => ?_, b7, b8⟩, hu, by rw [less_succ, hcnt, hbf]; rfl, rfl⟩
    · rcases hk with q | ⟨q1, q2⟩
      · exact b5 i v y hi hy (Or.inl q) hN
      · by_cases e : y = x
        · subst e; subst q1
          rw [hu] at hi
          cases hi
          exact absurd hN hnN
        · exact b5 i v y hi hy (Or.inr ⟨q1, by omega⟩) hN
    · obtain ⟨i, w, y, e1, e2, e3⟩ := b6 v hv hv0
      exact ⟨i, w, y, e1, e2, e3.elim Or.inl (fun q => Or.inr ⟨q.1, by omega⟩)⟩
  | some q =>
    have hq : nod ch (u ++ [x]) = some q := by rw [hchild]; exact hz
    have hno : u ++ [x] ∉ Q := by
      intro hm
      obtain ⟨i, v, y, e1, e2, e3⟩ := b6 _ hm (by simp)
      obtain ⟨a1, a2⟩ := List.append_inj' e2 rfl
      have a3 : x = y := by simpa using a2
      subst a3
      rw [← a1] at e1
      have hik : i = k := by
        have hil : i < Q.length := (List.getElem?_eq_some_iff.mp e1).1
        exact (List.getElem?_inj hil b2).mp (e1.trans hu.symm)
      omega
    have hroom := h0.room hT hcl hq hno
    have hcntq := hT.2.2.2.2.1 _ q hcl hq
    rw [List.countP_nil, Nat.add_zero] at hcntq
    obtain ⟨s, hs⟩ : ∃ s, (if od k = 0 then 0 else fol ch ln (ln (od k)) x) = s := ⟨_, rfl⟩
    -- the link's cell
    have hlink : nod ch (lsf ch (u ++ [x])) = some s := by
      cases u with
      | nil =>
        have e0 : od k = 0 := (Option.some.inj hup).symm
        rw [← hs, if_pos e0]
        rfl
      | cons a t =>
        have e0 : od k ≠ 0 := fun e => by
          have := hT.root hul (by rw [← e]; exact hup)
          cases this
        rw [← hs, if_neg e0]
        show nod ch (lsf ch (a :: t ++ [x])) = _
        rw [lsf_snoc, gS_lsf ch x a t]
        have hlen := lsf_len ch (a :: t) (by simp)
        have hup7 : (a :: t).length ≤ 7 := by
          rcases (hT.2.2.1 _ hul).mp (by rw [hup]; simp) with e | ⟨w, hw, e⟩ | ⟨w, hw, -⟩
          · cases e
          · exact Nat.le_trans e.length_le (h7 w hw)
          · cases hw
        refine fol_gS hT.1 (lsf_lets hul) ((b7 _ (List.mem_of_getElem? hu) _ hup).2.1 (by simp)) (by omega) ?_
        intro w p hw hw0 hwl hp
        have hwQ := h0.all hu w.length w rfl (by omega) hw (isN_of hp)
        exact (b7 w hwQ p hp).2.1 hw0
    have hqne : ∀ v p, v ∈ Q → nod ch v = some p → p ≠ q := by
      intro v p hv hp e
      subst e
      obtain ⟨i, hi⟩ := List.getElem?_of_mem hv
      have := hT.2.1 v _ p (b1 i v hi).1 hcl hp hq
      rw [this] at hv
      exact hno hv
    have hlsfQ : lsf ch (u ++ [x]) ∈ Q := by
      have hlen := lsf_len ch (u ++ [x]) (by simp)
      rw [List.length_append, List.length_singleton] at hlen
      exact h0.all hu _ _ rfl (by omega) (lsf_lets hcl) (lsf_N ch _)
    refine ⟨Q ++ [u ++ [x]], bf + hf q, va_up hb q bf, va_up ln q s, va_up sw q (if wh s then some s else sw s), va_up od Q.length q, ?_, ⟨?_, ?_, ?_, ?_, ?_, ?_, ?_, ?_⟩, ?_, ?_, ?_⟩
    · rw [lkS_some hroom hz hs, List.length_append, List.length_singleton]
    · intro i v hi
      by_cases e : i < Q.length
      · rw [List.getElem?_append_left e] at hi
        rw [va_up_ne _ _ (by omega)]
        exact b1 i v hi
      · rw [List.getElem?_append_right (by omega)] at hi
        have e2 : i - Q.length < 1 := (List.getElem?_eq_some_iff.mp hi).1
        rw [show i - Q.length = 0 by omega] at hi
        cases hi
        rw [show i = Q.length by omega, va_up_self]
        exact ⟨hcl, hq⟩
    · rw [List.nodup_append]
      refine ⟨b2, by simp, ?_⟩
      intro a ha b hb' e
      rw [List.mem_singleton] at hb'
      rw [e, hb'] at ha
      exact hno ha
    · rw [List.getElem?_append_left (by omega)]
      exact b3
    · have hmax : ∀ (i : Nat) (v : List Nat), Q[i]? = some v → v.length ≤ u.length + 1 := by
        intro i v hi
        by_cases hv0 : v = []
        · rw [hv0]; simp
        · obtain ⟨j, w, y, e1, e2, e3⟩ := b6 v (List.mem_of_getElem? hi) hv0
          have hjk : j ≤ k := by omega
          have := b4 j k w u hjk e1 hu
          rw [e2, List.length_append, List.length_singleton]
          omega
      intro i j v w hij hi hj
      by_cases ej : j < Q.length
      · rw [List.getElem?_append_left (by omega)] at hi
        rw [List.getElem?_append_left ej] at hj
        exact b4 i j v w hij hi hj
      · rw [List.getElem?_append_right (by omega)] at hj
        have e2 : j - Q.length < 1 := (List.getElem?_eq_some_iff.mp hj).1
        rw [show j - Q.length = 0 by omega] at hj
        cases hj
        rw [List.length_append, List.length_singleton]
        by_cases ei : i < Q.length
        · rw [List.getElem?_append_left ei] at hi
          exact hmax i v hi
        · rw [List.getElem?_append_right (by omega)] at hi
          have e3 : i - Q.length < 1 := (List.getElem?_eq_some_iff.mp hi).1
          rw [show i - Q.length = 0 by omega] at hi
          cases hi
          rw [List.length_append, List.length_singleton]
          exact Nat.le_refl _
    · intro i v y hi hy hk hN
      have hil : i < Q.length := by omega
      rw [List.getElem?_append_left hil] at hi
      rcases hk with z | ⟨z1, z2⟩
      · exact List.mem_append_left _ (b5 i v y hi hy (Or.inl z) hN)
      · by_cases e : y = x
        · subst e; subst z1
          rw [hu] at hi
          cases hi
          exact List.mem_append_right _ (List.mem_singleton.mpr rfl)
        · exact List.mem_append_left _ (b5 i v y hi hy (Or.inr ⟨z1, by omega⟩) hN)
    · intro v hv hv0
      rcases List.mem_append.mp hv with e | e
      · obtain ⟨i, w, y, e1, e2, e3⟩ := b6 v e hv0
        exact ⟨i, w, y, by rw [List.getElem?_append_left ((List.getElem?_eq_some_iff.mp e1).1)]; exact e1, e2, e3.elim Or.inl (fun z => Or.inr ⟨z.1, by omega⟩)⟩
      · rw [List.mem_singleton] at e
        exact ⟨k, u, x, by rw [List.getElem?_append_left hkl]; exact hu, e, Or.inr ⟨rfl, by omega⟩⟩
    · intro v hv p hp
      rcases List.mem_append.mp hv with e | e
      · have hpq := hqne v p e hp
        rw [va_up_ne _ _ hpq, va_up_ne _ _ hpq, va_up_ne _ _ hpq]
        exact b7 v e p hp
      · rw [List.mem_singleton] at e
        subst e
        have e2 : p = q := Option.some.inj (hp.symm.trans hq)
        subst e2
        rw [va_up_self, va_up_self, va_up_self]
        refine ⟨hbf, fun _ => hlink, ?_⟩
        rw [swf_lsf (fun w hw => wd_N hw) (u ++ [x]) (by simp)]
        have hwds : wd ch wh (lsf ch (u ++ [x])) = wh s := by unfold wd; rw [hlink]; rfl
        rw [hwds]
        cases hws : wh s with
        | true => show some s = (some (lsf ch (u ++ [x]))).bind (nod ch); exact hlink.symm
        | false => exact (b7 _ hlsfQ s hlink).2.2
    · intro i
      by_cases e : i = q
      · subst e
        rw [va_up_self, hbf]
        exact Nat.lt_of_le_of_lt List.countP_le_length hL
      · rw [va_up_ne _ _ e]
        exact b8 i
    · rw [List.getElem?_append_left hkl]
      exact hu
    · rw [less_succ, hbf, hcntq]
    · rw [va_up_ne _ _ (by omega)]
end RL
