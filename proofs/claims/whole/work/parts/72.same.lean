/-! Alike in the reference: the same may follow -/
theorem srt_uniq : ∀ {A B : List (List Nat)}, srt A → srt B → (∀ r, r ∈ A ↔ r ∈ B) → A = B
  | [], B, _, _, h => by
    symm
    rw [List.eq_nil_iff_forall_not_mem]
    intro r hr
    have := (h r).mpr hr
    cases this
  | a :: A, [], _, _, h => by
    have := (h a).mp List.mem_cons_self
    cases this
  | a :: A, b :: B, hA, hB, h => by
    have hA' := List.pairwise_cons.mp hA
    have hB' := List.pairwise_cons.mp hB
    have e : a = b := by
      rcases List.mem_cons.mp ((h a).mp List.mem_cons_self) with q | q
      · exact q
      · rcases List.mem_cons.mp ((h b).mpr List.mem_cons_self) with z | z
        · exact z.symm
        · have h1 := hB'.1 a q
          have h2 := hA'.1 b z
          rw [lx_asym h1] at h2
          cases h2
    subst e
    congr 1
    refine srt_uniq hA'.2 hB'.2 (fun r => ⟨fun q => ?_, fun q => ?_⟩)
    · rcases List.mem_cons.mp ((h r).mp (List.mem_cons_of_mem _ q)) with z | z
      · have h1 := hA'.1 r q
        rw [z, lx_irr] at h1
        cases h1
      · exact z
    · rcases List.mem_cons.mp ((h r).mpr (List.mem_cons_of_mem _ q)) with z | z
      · have h1 := hB'.1 r q
        rw [z, lx_irr] at h1
        cases h1
      · exact z
/-- what follows a beginning -/
def sgl (L : List (List Nat)) (lo hi d : Nat) : List (List Nat) := ((L.drop lo).take (hi - lo)).map (List.drop d)
theorem sgl_at {L : List (List Nat)} {lo hi d i : Nat} (h : i < hi - lo) : (sgl L lo hi d)[i]? = (L[lo + i]?).map (List.drop d) := by
  unfold sgl
  rw [List.getElem?_map, List.getElem?_take_of_lt h, List.getElem?_drop]
theorem sgl_len {L : List (List Nat)} {lo hi d : Nat} (h : hi ≤ L.length) : (sgl L lo hi d).length = hi - lo := by
  unfold sgl
  rw [List.length_map, List.length_take, List.length_drop]
  omega
section MA
variable {le sz : Nat → Nat} {cn : Nat} {L : List (List Nat)}
theorem PX.mem {s : pst4} {Q : List Nat → Prop} (h : PX L s Q) {i : Nat} (hi : i < s.1) (r : List Nat) : r ∈ sgl L (s.2.1 i) (s.2.2.1 i) (s.2.2.2 i) ↔ pfL L s.2.1 s.2.2.2 i ++ r ∈ L := by
  obtain ⟨a1, a2, a3, a4⟩ := h.1 i hi
  constructor
  · intro hr
    obtain ⟨k, hk⟩ := List.getElem?_of_mem hr
    have hkl := (List.getElem?_eq_some_iff.mp hk).1
    rw [sgl_len a3] at hkl
    rw [sgl_at hkl] at hk
    obtain ⟨x, hx⟩ : ∃ x, L[s.2.1 i + k]? = some x := ⟨_, List.getElem?_eq_getElem (by omega)⟩
    rw [hx] at hk
    have hk : x.drop (s.2.2.2 i) = r := Option.some.inj hk
    obtain ⟨t, ht⟩ := (a4 _ x hx).mp ⟨by omega, by omega⟩
    rw [← ht, ← a1, List.drop_left] at hk
    rw [← hk, ht]
    exact List.mem_of_getElem? hx
  · intro hr
    obtain ⟨j, hj⟩ := List.getElem?_of_mem hr
    obtain ⟨b1, b2⟩ := (a4 j _ hj).mpr (List.prefix_append _ _)
    have : (sgl L (s.2.1 i) (s.2.2.1 i) (s.2.2.2 i))[j - s.2.1 i]? = some r := by
      rw [sgl_at (by omega), show s.2.1 i + (j - s.2.1 i) = j by omega, hj]
      show some (List.drop _ _) = _
      rw [← a1, List.drop_left]
    exact List.mem_of_getElem? this
theorem PX.srt_ {s : pst4} {Q : List Nat → Prop} (h : PX L s Q) (hs : srt L) {i : Nat} (hi : i < s.1) : srt (sgl L (s.2.1 i) (s.2.2.1 i) (s.2.2.2 i)) := by
  obtain ⟨a1, a2, a3, a4⟩ := h.1 i hi
  refine List.pairwise_iff_getElem.mpr (fun x y hx hy hxy => ?_)
  have hlen := sgl_len (L := L) (lo := s.2.1 i) (d := s.2.2.2 i) a3
  have ex : (sgl L (s.2.1 i) (s.2.2.1 i) (s.2.2.2 i))[x]? = some _ := List.getElem?_eq_getElem hx
  have ey : (sgl L (s.2.1 i) (s.2.2.1 i) (s.2.2.2 i))[y]? = some _ := List.getElem?_eq_getElem hy
  rw [sgl_at (by omega)] at ex ey
  obtain ⟨u, hu⟩ : ∃ u, L[s.2.1 i + x]? = some u := ⟨_, List.getElem?_eq_getElem (by omega)⟩
  obtain ⟨v, hv⟩ : ∃ v, L[s.2.1 i + y]? = some v := ⟨_, List.getElem?_eq_getElem (by omega)⟩
  rw [hu] at ex
  rw [hv] at ey
  rw [← Option.some.inj ex, ← Option.some.inj ey]
  have h1 := srt_idx hs hu hv (by omega)
  obtain ⟨t1, e1⟩ := (a4 _ u hu).mp ⟨by omega, by omega⟩
  obtain ⟨t2, e2⟩ := (a4 _ v hv).mp ⟨by omega, by omega⟩
  rw [← e1, ← e2, lx_app] at h1
  rw [← e1, ← e2, ← a1, List.drop_left, List.drop_left]
  exact h1
theorem PX.alike {s : pst4} {Q : List Nat → Prop} (h : PX L s Q) (hs : srt L) {i j : Nat} (hi : i < s.1) (hj : j < s.1) : sgl L (s.2.1 i) (s.2.2.1 i) (s.2.2.2 i) = sgl L (s.2.1 j) (s.2.2.1 j) (s.2.2.2 j) ↔ ∀ r, (pfL L s.2.1 s.2.2.2 i ++ r ∈ L ↔ pfL L s.2.1 s.2.2.2 j ++ r ∈ L) := by
  constructor
  · intro e r
    rw [← h.mem hi, ← h.mem hj, e]
  · intro e
    refine srt_uniq (h.srt_ hs hi) (h.srt_ hs hj) (fun r => ?_)
    rw [h.mem hi, h.mem hj]
    exact e r
theorem maI_is {a b da db : Nat} {x y : List Nat} (ha : RW le sz a x) (hb : RW le sz b y) (hda : da ≤ x.length) (hdb : db ≤ y.length) : ∀ k, k ≤ x.length - da → (maI le sz a b da db k = true ↔ x.length - da = y.length - db ∧ (x.drop da).take k = (y.drop db).take k)
  | 0, _ => by
    show decide (sz a - da = sz b - db) = true ↔ _
    rw [decide_eq_true_iff, ha.1, hb.1]
    simp
  | k + 1, hk => by
    show (maI le sz a b da db k && decide (le (7 * a + da + k) = le (7 * b + db + k))) = true ↔ _
    rw [Bool.and_eq_true, maI_is ha hb hda hdb k (by omega), decide_eq_true_iff, Nat.add_assoc, Nat.add_assoc]
    constructor
    · rintro ⟨⟨h1, h3⟩, h4⟩
      obtain ⟨c, hc⟩ : ∃ c, x[da + k]? = some c := ⟨_, List.getElem?_eq_getElem (by omega)⟩
      obtain ⟨d, hd⟩ : ∃ d, y[db + k]? = some d := ⟨_, List.getElem?_eq_getElem (by omega)⟩
      rw [ha.2 _ c hc, hb.2 _ d hd] at h4
      refine ⟨h1, ?_⟩
      rw [List.take_add_one, List.take_add_one, List.getElem?_drop, List.getElem?_drop, hc, hd, h3, show c = d by omega]
    · rintro ⟨h1, h3⟩
      obtain ⟨c, hc⟩ : ∃ c, x[da + k]? = some c := ⟨_, List.getElem?_eq_getElem (by omega)⟩
      obtain ⟨d, hd⟩ : ∃ d, y[db + k]? = some d := ⟨_, List.getElem?_eq_getElem (by omega)⟩
      rw [List.take_add_one, List.take_add_one, List.getElem?_drop, List.getElem?_drop, hc, hd] at h3
      obtain ⟨e1, e2⟩ := List.append_inj' h3 rfl
      have e2 : c = d := by simpa using e2
      exact ⟨⟨h1, e1⟩, by rw [ha.2 _ c hc, hb.2 _ d hd, e2]⟩
theorem maI_all {a b da db : Nat} {x y : List Nat} (ha : RW le sz a x) (hb : RW le sz b y) (hda : da ≤ x.length) (hdb : db ≤ y.length) : maI le sz a b da db (sz a - da) = true ↔ x.drop da = y.drop db := by
  rw [ha.1, maI_is ha hb hda hdb _ (Nat.le_refl _)]
  have e1 : (x.drop da).length = x.length - da := List.length_drop
  have e2 : (y.drop db).length = y.length - db := List.length_drop
  constructor
  · rintro ⟨h1, h2⟩
    rw [List.take_of_length_le (by omega), List.take_of_length_le (by omega)] at h2
    exact h2
  · intro h
    have h3 := congrArg List.length h
    rw [e1, e2] at h3
    exact ⟨h3, by rw [h]⟩
theorem maO_all {lo hi dp : Nat → Nat} {p q : Nat} : ∀ k, maO le sz lo hi dp p q k = true ↔ (hi p - lo p = hi q - lo q ∧ ∀ i, i < k → maI le sz (lo p + i) (lo q + i) (dp p) (dp q) (sz (lo p + i) - dp p) = true)
  | 0 => by
    show decide (hi p - lo p = hi q - lo q) = true ↔ _
    rw [decide_eq_true_iff]
    exact ⟨fun h => ⟨h, fun i hi2 => by omega⟩, fun h => h.1⟩
  | k + 1 => by
    show (maO le sz lo hi dp p q k && maI le sz (lo p + k) (lo q + k) (dp p) (dp q) (sz (lo p + k) - dp p)) = true ↔ _
    rw [Bool.and_eq_true, maO_all k]
    constructor
    · rintro ⟨⟨h1, h2⟩, h3⟩
      refine ⟨h1, fun i hi2 => ?_⟩
      by_cases e : i = k
      · rw [e]; exact h3
      · exact h2 i (by omega)
    · rintro ⟨h1, h2⟩
      exact ⟨⟨h1, fun i hi2 => h2 i (by omega)⟩, h2 k (by omega)⟩
theorem PX.pre_len {s : pst4} {Q : List Nat → Prop} (hP : PX L s Q) {i j : Nat} (hi : i < s.1) {u : List Nat} (hu : L[j]? = some u) (h1 : s.2.1 i ≤ j) (h2 : j < s.2.2.1 i) : s.2.2.2 i ≤ u.length := by
  obtain ⟨a1, a2, a3, a4⟩ := hP.1 i hi
  rw [← a1]
  exact ((a4 j u hu).mp ⟨h1, h2⟩).length_le
theorem ML.mal_is (h : ML le sz cn L) {s : pst4} {Q : List Nat → Prop} (hP : PX L s Q) (hs : srt L) {i j : Nat} (hi : i < s.1) (hj : j < s.1) : mal le sz s.2.1 s.2.2.1 s.2.2.2 i j = true ↔ ∀ r, (pfL L s.2.1 s.2.2.2 i ++ r ∈ L ↔ pfL L s.2.1 s.2.2.2 j ++ r ∈ L) := by
  rw [← hP.alike hs hi hj]
  unfold mal
  rw [maO_all]
  obtain ⟨a1, a2, a3, a4⟩ := hP.1 i hi
  obtain ⟨b1, b2, b3, b4⟩ := hP.1 j hj
  have hl1 := sgl_len (L := L) (lo := s.2.1 i) (d := s.2.2.2 i) a3
  have hl2 := sgl_len (L := L) (lo := s.2.1 j) (d := s.2.2.2 j) b3
  constructor
  · rintro ⟨h1, h2⟩
    refine List.ext_getElem? (fun k => ?_)
    by_cases hk : k < s.2.2.1 i - s.2.1 i
    · rw [sgl_at hk, sgl_at (by omega)]
      obtain ⟨x, hx⟩ : ∃ x, L[s.2.1 i + k]? = some x := ⟨_, List.getElem?_eq_getElem (by omega)⟩
      obtain ⟨y, hy⟩ : ∃ y, L[s.2.1 j + k]? = some y := ⟨_, List.getElem?_eq_getElem (by omega)⟩
      rw [hx, hy]
      exact congrArg some ((maI_all (h.2 _ x hx) (h.2 _ y hy) (hP.pre_len hi hx (by omega) (by omega)) (hP.pre_len hj hy (by omega) (by omega))).mp (h2 k hk))
    · rw [List.getElem?_eq_none (by omega), List.getElem?_eq_none (by omega)]
  · intro e
    have h1 : s.2.2.1 i - s.2.1 i = s.2.2.1 j - s.2.1 j := by rw [← hl1, ← hl2, e]
    refine ⟨h1, fun k hk => ?_⟩
    obtain ⟨x, hx⟩ : ∃ x, L[s.2.1 i + k]? = some x := ⟨_, List.getElem?_eq_getElem (by omega)⟩
    obtain ⟨y, hy⟩ : ∃ y, L[s.2.1 j + k]? = some y := ⟨_, List.getElem?_eq_getElem (by omega)⟩
    refine (maI_all (h.2 _ x hx) (h.2 _ y hy) (hP.pre_len hi hx (by omega) (by omega)) (hP.pre_len hj hy (by omega) (by omega))).mpr ?_
    have e2 := congrArg (fun l => l[k]?) e
    have e2 : (sgl L (s.2.1 i) (s.2.2.1 i) (s.2.2.2 i))[k]? = (sgl L (s.2.1 j) (s.2.2.1 j) (s.2.2.2 j))[k]? := e2
    rw [sgl_at hk, sgl_at (by omega), hx, hy] at e2
    exact Option.some.inj e2
theorem mif_all {lo hi dp : Nat → Nat} {p : Nat} : ∀ k, mif le sz lo hi dp p k = true ↔ ∀ q, q < k → mal le sz lo hi dp p q = false
  | 0 => ⟨fun _ q hq => by omega, fun _ => rfl⟩
  | k + 1 => by
    show (mif le sz lo hi dp p k && !mal le sz lo hi dp p k) = true ↔ _
    rw [Bool.and_eq_true, mif_all k, Bool.not_eq_true']
    constructor
    · rintro ⟨h1, h2⟩ q hq
      by_cases e : q = k
      · rw [e]; exact h2
      · exact h1 q (by omega)
    · intro h
      exact ⟨fun q hq => h q (by omega), h k (by omega)⟩
/-- a list of beginnings as the methods want it -/
theorem ML.vprs (h : ML le sz cn L) (hc : cn ≤ 30) {s : pst4} {Q : List Nat → Prop} (hP : PX L s Q) {i : Nat} (hi : i < s.1) : vpr sz s.2.1 s.2.2.1 s.2.2.2 i := by
  obtain ⟨a1, a2, a3, a4⟩ := hP.1 i hi
  have hl := h.1
  refine ⟨a2, by omega, fun w h1 h2 => ?_⟩
  obtain ⟨x, hx⟩ : ∃ x, L[w]? = some x := ⟨_, List.getElem?_eq_getElem (by omega)⟩
  rw [(h.2 w x hx).1]
  exact hP.pre_len hi hx h1 h2
end MA
