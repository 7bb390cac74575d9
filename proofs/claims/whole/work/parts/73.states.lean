/-! States, edges, alike: class and reference -/
theorem cnz_ext {a b : Nat → Nat} : ∀ m, (∀ x, x < m → (a x = 0 ↔ b x = 0)) → cnz a m = cnz b m
  | 0, _ => rfl
  | m + 1, h => by
    have ih := cnz_ext m (fun x hx => h x (by omega))
    have e := h m (by omega)
    show (if a m = 0 then cnz a m else cnz a m + 1) = (if b m = 0 then cnz b m else cnz b m + 1)
    rw [ih]
    by_cases q : a m = 0
    · rw [if_pos q, if_pos (e.mp q)]
    · rw [if_neg q, if_neg (fun z => q (e.mpr z))]
theorem cef_cnz (tg : Nat → Option Nat) (s : Nat) : ∀ m, cef tg s m = cnz (fun x => if tg (s * 8 + x) = none then 0 else 1) m
  | 0 => rfl
  | m + 1 => by
    have ih := cef_cnz tg s m
    show (match tg (s * 8 + m) with | none => cef tg s m | some _ => cef tg s m + 1) = (if (if tg (s * 8 + m) = none then 0 else 1) = 0 then _ else _)
    rw [← ih]
    cases hz : tg (s * 8 + m) with
    | none => rfl
    | some q => rfl
/-- counted with 0 left out -/
theorem cnz_cg1 (h : Nat → Nat) (k : Nat) : ∀ m, cnz (fun s => cg h (k + 1) (s + 1)) m = cnz (fun s => cg h k (s + 1)) m + if 0 < h k ∧ h k < m + 1 ∧ cg h k (h k) = 0 then 1 else 0
  | 0 => by
    rw [if_neg (by omega)]
    rfl
  | m + 1 => by
    have ih := cnz_cg1 h k m
    show (if cg h (k + 1) (m + 1) = 0 then cnz (fun s => cg h (k + 1) (s + 1)) m else cnz (fun s => cg h (k + 1) (s + 1)) m + 1) = (if cg h k (m + 1) = 0 then cnz (fun s => cg h k (s + 1)) m else cnz (fun s => cg h k (s + 1)) m + 1) + _
    rw [ih, cg_s]
    by_cases e : h k = m + 1
    · have y1 : ¬ (0 < h k ∧ h k < m + 1 ∧ cg h k (h k) = 0) := fun q => by omega
      rw [if_pos e, if_neg y1, if_neg (by omega)]
      by_cases z : cg h k (m + 1) = 0
      · have y2 : 0 < h k ∧ h k < m + 1 + 1 ∧ cg h k (h k) = 0 := ⟨by omega, by omega, by rw [e]; exact z⟩
        rw [if_pos z, if_pos y2]
      · have y2 : ¬ (0 < h k ∧ h k < m + 1 + 1 ∧ cg h k (h k) = 0) := fun q => z (by rw [← e]; exact q.2.2)
        rw [if_neg z, if_neg y2]
    · rw [if_neg e, Nat.add_zero]
      by_cases y : 0 < h k ∧ h k < m + 1 ∧ cg h k (h k) = 0
      · have y2 : 0 < h k ∧ h k < m + 1 + 1 ∧ cg h k (h k) = 0 := ⟨y.1, by omega, y.2.2⟩
        rw [if_pos y, if_pos y2]
        split <;> omega
      · have y2 : ¬ (0 < h k ∧ h k < m + 1 + 1 ∧ cg h k (h k) = 0) := fun q => y ⟨q.1, by omega, q.2.2⟩
        rw [if_neg y, if_neg y2]
        split <;> omega
/-- runs in a row that doesn't fall are its different values -/
theorem mxs_is {le sz : Nat → Nat} {b d K : Nat} (hm : ∀ i j, i ≤ j → j < K → mnx le sz d (b + i) ≤ mnx le sz d (b + j)) (h8 : ∀ i, i < K → mnx le sz d (b + i) ≤ 8) : ∀ k, k ≤ K → (mxs le sz b d k).1 = cnz (fun s => cg (fun i => mnx le sz d (b + i)) k (s + 1)) 8 ∧ (mxs le sz b d k).2 = if k = 0 then 0 else mnx le sz d (b + (k - 1))
  | 0, _ => ⟨(cnz_0 8).symm, rfl⟩
  | k + 1, hk => by
    obtain ⟨i1, i2⟩ := mxs_is hm h8 k (by omega)
    rw [cnz_cg1]
    show (mnS2 (mnx le sz d (b + k)) (mxs le sz b d k)).1 = _ ∧ (mnS2 (mnx le sz d (b + k)) (mxs le sz b d k)).2 = _
    unfold mnS2
    rw [← i1, i2]
    have hk8 := h8 k (by omega)
    have hlast : k ≠ 0 → mnx le sz d (b + (k - 1)) ≤ mnx le sz d (b + k) := fun _ => hm (k - 1) k (by omega) (by omega)
    have hcg : cg (fun i => mnx le sz d (b + i)) k (mnx le sz d (b + k)) = 0 ↔ (k = 0 ∨ mnx le sz d (b + (k - 1)) ≠ mnx le sz d (b + k)) := by
      rw [cg_0]
      constructor
      · intro h
        by_cases e : k = 0
        · exact Or.inl e
        · exact Or.inr (h (k - 1) (by omega))
      · rintro (e | e) i hi
        · omega
        · intro z
          have h1 := hm i (k - 1) (by omega) (by omega)
          have h2 := hlast (by omega)
          have z : mnx le sz d (b + i) = mnx le sz d (b + k) := z
          omega
    constructor
    · show (if 0 < mnx le sz d (b + k) ∧ mnx le sz d (b + k) ≠ (if k = 0 then 0 else mnx le sz d (b + (k - 1))) then _ else _) = _
      by_cases q : 0 < mnx le sz d (b + k) ∧ mnx le sz d (b + k) < 8 + 1 ∧ cg (fun i => mnx le sz d (b + i)) k (mnx le sz d (b + k)) = 0
      · have q2 : 0 < mnx le sz d (b + k) ∧ mnx le sz d (b + k) ≠ (if k = 0 then 0 else mnx le sz d (b + (k - 1))) := by
          refine ⟨q.1, ?_⟩
          rcases hcg.mp q.2.2 with z | z
          · rw [if_pos z]; omega
          · split
            · omega
            · exact fun y => z y.symm
        rw [if_pos q2, if_pos q]
      · have q2 : ¬ (0 < mnx le sz d (b + k) ∧ mnx le sz d (b + k) ≠ (if k = 0 then 0 else mnx le sz d (b + (k - 1)))) := by
          rintro ⟨z1, z2⟩
          refine q ⟨z1, by omega, hcg.mpr ?_⟩
          by_cases e : k = 0
          · exact Or.inl e
          · rw [if_neg e] at z2
            exact Or.inr (fun y => z2 y.symm)
        rw [if_neg q2, if_neg q, Nat.add_zero]
    · show (if 0 < mnx le sz d (b + k) then mnx le sz d (b + k) else (if k = 0 then 0 else mnx le sz d (b + (k - 1)))) = if k + 1 = 0 then 0 else mnx le sz d (b + (k + 1 - 1))
      rw [if_neg (by omega : ¬ k + 1 = 0), show k + 1 - 1 = k by omega]
      by_cases z : 0 < mnx le sz d (b + k)
      · rw [if_pos z]
      · rw [if_neg z]
        by_cases e : k = 0
        · rw [if_pos e]; omega
        · rw [if_neg e]
          have := hlast e
          omega
section ME
variable {le sz : Nat → Nat} {cn : Nat} {L : List (List Nat)} {ch : Nat → Option Nat} {wh : Nat → Bool} {hf : Nat → Nat} {so mb : Nat → Nat} {ac : Nat → Bool} {tg : Nat → Option Nat} {S : List Nat} {s : pst4}
theorem qw_all {u : List Nat} (hc : L.length = cn) : qw L cn u ↔ (u = [] ∨ ∃ w, w ∈ L ∧ u <+: w) := by
  constructor
  · rintro (e | ⟨j, x, -, hx, e⟩)
    · exact Or.inl e
    · exact Or.inr ⟨x, List.mem_of_getElem? hx, e⟩
  · rintro (e | ⟨w, hw, e⟩)
    · exact Or.inl e
    · obtain ⟨j, hj⟩ := List.getElem?_of_mem hw
      exact Or.inr ⟨j, w, by rw [← hc]; exact (List.getElem?_eq_some_iff.mp hj).1, hj, e⟩
/-- the cell of a row -/
def pnd (ch : Nat → Option Nat) (L : List (List Nat)) (s : pst4) (i : Nat) : Nat := (nod ch (pfL L s.2.1 s.2.2.2 i)).getD 0
theorem PX.lets_ (hP : PX L s (qw L cn)) (hc : L.length = cn) (hL : ∀ w, w ∈ L → wrd w) {i : Nat} (hi : i < s.1) : lets (pfL L s.2.1 s.2.2.2 i) := by
  rcases (qw_all hc).mp ((hP.2.2 _).mp ⟨i, hi, rfl⟩) with e | ⟨w, hw, e⟩
  · rw [e]; exact lets_nil
  · exact lets_pre e (hL w hw).2.2
theorem PX.nod_ (hP : PX L s (qw L cn)) (hc : L.length = cn) (hT : TP ch wh hf L []) (hL : ∀ w, w ∈ L → wrd w) {i : Nat} (hi : i < s.1) : nod ch (pfL L s.2.1 s.2.2.2 i) = some (pnd ch L s i) := by
  have hl := hP.lets_ hc hL hi
  have := (hT.2.2.1 _ hl).mpr (by
    rcases (qw_all hc).mp ((hP.2.2 _).mp ⟨i, hi, rfl⟩) with e | e
    · exact Or.inl e
    · exact Or.inr (Or.inl e))
  unfold pnd
  cases hz : nod ch (pfL L s.2.1 s.2.2.2 i) with
  | none => exact absurd hz this
  | some p => rfl
/-- the reached cells are the rows' cells -/
theorem PX.perm_ (hP : PX L s (qw L cn)) (hc : L.length = cn) (hT : TP ch wh hf L []) (hL : ∀ w, w ∈ L → wrd w) (hA : AT ch wh so mb ac tg S) (hS : NS ch S) : S.Perm ((List.range s.1).map (pnd ch L s)) := by
  have hinj : ∀ i j, i < s.1 → j < s.1 → pnd ch L s i = pnd ch L s j → i = j := by
    intro i j hi hj e
    have h1 := hP.nod_ hc hT hL hi
    have h2 := hP.nod_ hc hT hL hj
    rw [← e] at h2
    exact hP.2.1 i j hi hj (hT.2.1 _ _ _ (hP.lets_ hc hL hi) (hP.lets_ hc hL hj) h1 h2)
  have hnd : ((List.range s.1).map (pnd ch L s)).Nodup := by
    rw [List.nodup_iff_pairwise_ne, List.pairwise_map]
    refine List.Pairwise.imp_of_mem (fun {a b} ha hb hne => ?_) (List.nodup_iff_pairwise_ne.mp List.nodup_range)
    intro e
    exact hne (hinj a b (List.mem_range.mp ha) (List.mem_range.mp hb) e)
  refine (List.perm_ext_iff_of_nodup hA.1.1 hnd).mpr (fun p => ?_)
  rw [hS, List.mem_map]
  constructor
  · rintro ⟨u, hu, hp⟩
    obtain ⟨i, hi, e⟩ := (hP.2.2 u).mpr ((qw_all hc).mpr (by
      rcases (hT.2.2.1 u hu).mp (by rw [hp]; simp) with e | e | ⟨w, hw, -⟩
      · exact Or.inl e
      · exact Or.inr e
      · cases hw))
    refine ⟨i, List.mem_range.mpr hi, ?_⟩
    have := hP.nod_ hc hT hL hi
    rw [e, hp] at this
    exact (Option.some.inj this).symm
  · rintro ⟨i, hi, e⟩
    have hi := List.mem_range.mp hi
    refine ⟨_, hP.lets_ hc hL hi, ?_⟩
    rw [hP.nod_ hc hT hL hi, e]
theorem PX.n211 (hP : PX L s (qw L cn)) (hc : L.length = cn) (hT : TP ch wh hf L []) (hL : ∀ w, w ∈ L → wrd w) (hA : AT ch wh so mb ac tg S) (hS : NS ch S) : s.1 ≤ 211 := by
  have h1 := (hP.perm_ hc hT hL hA hS).length_eq
  rw [List.length_map, List.length_range] at h1
  have h2 := nd_le 211 S hA.1.1 hA.1.2
  omega
theorem PX.mb_ (hP : PX L s (qw L cn)) (hc : L.length = cn) (hT : TP ch wh hf L []) (hL : ∀ w, w ∈ L → wrd w) (hA : AT ch wh so mb ac tg S) (hS : NS ch S) : mb = cg (fun i => so (pnd ch L s i)) s.1 := by
  funext z
  rw [hA.2.1 z, (hP.perm_ hc hT hL hA hS).countP_eq, List.countP_map]
  rfl
theorem PX.same_ (hP : PX L s (qw L cn)) (hM : ML le sz cn L) (hs : srt L) (hT : TP ch wh hf L []) (hL : ∀ w, w ∈ L → wrd w) (hA : AT ch wh so mb ac tg S) (hS : NS ch S) {i j : Nat} (hi : i < s.1) (hj : j < s.1) : mal le sz s.2.1 s.2.2.1 s.2.2.2 i j = true ↔ so (pnd ch L s i) = so (pnd ch L s j) := by
  rw [hM.mal_is hP hs hi hj, hA.alike hS hT hL (hP.lets_ hM.1 hL hi) (hP.lets_ hM.1 hL hj) (hP.nod_ hM.1 hT hL hi) (hP.nod_ hM.1 hT hL hj)]
theorem PX.first_ (hP : PX L s (qw L cn)) (hM : ML le sz cn L) (hs : srt L) (hT : TP ch wh hf L []) (hL : ∀ w, w ∈ L → wrd w) (hA : AT ch wh so mb ac tg S) (hS : NS ch S) {k : Nat} (hk : k < s.1) : (so (pnd ch L s k) < 211 ∧ cg (fun i => so (pnd ch L s i)) k (so (pnd ch L s k)) = 0) ↔ mif le sz s.2.1 s.2.2.1 s.2.2.2 k k = true := by
  have h211 : so (pnd ch L s k) < 211 := (hA.2.2.1 _ ((hS _).mpr ⟨_, hP.lets_ hM.1 hL hk, hP.nod_ hM.1 hT hL hk⟩)).1
  rw [cg_0, mif_all]
  constructor
  · rintro ⟨-, h⟩ q hq
    cases hz : mal le sz s.2.1 s.2.2.1 s.2.2.2 k q with
    | false => rfl
    | true => exact absurd ((hP.same_ hM hs hT hL hA hS hk (by omega)).mp hz).symm (h q hq)
  · intro h
    refine ⟨h211, fun i hi e => ?_⟩
    have := (hP.same_ hM hs hT hL hA hS hk (show i < s.1 by omega)).mpr e.symm
    rw [h i hi] at this
    cases this
theorem PX.states_ (hP : PX L s (qw L cn)) (hM : ML le sz cn L) (hs : srt L) (hT : TP ch wh hf L []) (hL : ∀ w, w ∈ L → wrd w) (hA : AT ch wh so mb ac tg S) (hS : NS ch S) : ∀ k, k ≤ s.1 → cnz (cg (fun i => so (pnd ch L s i)) k) 211 = mss le sz s.2.1 s.2.2.1 s.2.2.2 k
  | 0, _ => cnz_0 211
  | k + 1, hk => by
    have ih := PX.states_ hP hM hs hT hL hA hS k (by omega)
    have hF := hP.first_ hM hs hT hL hA hS (show k < s.1 by omega)
    rw [cnz_cg, ih]
    show mss le sz s.2.1 s.2.2.1 s.2.2.2 k + _ = if mif le sz s.2.1 s.2.2.1 s.2.2.2 k k = true then mss le sz s.2.1 s.2.2.1 s.2.2.2 k + 1 else mss le sz s.2.1 s.2.2.1 s.2.2.2 k
    by_cases q : mif le sz s.2.1 s.2.2.1 s.2.2.2 k k = true
    · rw [if_pos q, if_pos (hF.mpr q)]
    · rw [if_neg q, if_neg (fun z => q (hF.mp z)), Nat.add_zero]
theorem states_eq (hM : ML le sz cn L) (hc : cn ≤ 30) (hs : srt L) (hT : TP ch wh hf L []) (hL : ∀ w, w ∈ L → wrd w) (hA : AT ch wh so mb ac tg S) (hS : NS ch S) (lo hi dp : Nat → Nat) : cnz mb 211 = mss le sz (mfO le sz cn lo hi dp cn).2.1 (mfO le sz cn lo hi dp cn).2.2.1 (mfO le sz cn lo hi dp cn).2.2.2 (mfO le sz cn lo hi dp cn).1 := by
  have hP := hM.pO hs hc lo hi dp cn (Nat.le_refl _)
  rw [← hP.states_ hM hs hT hL hA hS _ (Nat.le_refl _), ← hP.mb_ hM.1 hT hL hA hS]
/-- letters that follow -/
theorem PX.next_ (hP : PX L s (qw L cn)) (hM : ML le sz cn L) (hs : srt L) (hT : TP ch wh hf L []) (hL : ∀ w, w ∈ L → wrd w) (hA : AT ch wh so mb ac tg S) (hS : NS ch S) {p : Nat} (hp : p < s.1) : cef tg (so (pnd ch L s p)) 8 = (mxs le sz (s.2.1 p) (s.2.2.2 p) (s.2.2.1 p - s.2.1 p)).1 := by
  obtain ⟨a1, a2, a3, a4⟩ := hP.1 p hp
  have hl := hP.lets_ hM.1 hL hp
  have hn := hP.nod_ hM.1 hT hL hp
  generalize hu : pfL L s.2.1 s.2.2.2 p = u at a1 a4 hl hn
  generalize hz : pnd ch L s p = z at hn
  have hzS : z ∈ S := (hS z).mpr ⟨u, hl, hn⟩
  -- a word of the row: the beginning and the rest
  have hrow : ∀ i, i < s.2.2.1 p - s.2.1 p → ∃ r, L[s.2.1 p + i]? = some (u ++ r) ∧ mnx le sz (s.2.2.2 p) (s.2.1 p + i) = match r with | [] => 0 | x :: _ => x + 1 := by
    intro i hi
    obtain ⟨x, hx⟩ : ∃ x, L[s.2.1 p + i]? = some x := ⟨_, List.getElem?_eq_getElem (by omega)⟩
    obtain ⟨r, rfl⟩ := (a4 _ x hx).mp ⟨by omega, by omega⟩
    refine ⟨r, hx, ?_⟩
    have hr := hM.2 _ _ hx
    unfold mnx
    rw [hr.1, List.length_append, ← a1]
    cases r with
    | nil => rw [if_neg (by simp)]
    | cons y r =>
      rw [if_pos (by simp)]
      exact hr.2 u.length y (by simp)
  have hmono : ∀ i j, i ≤ j → j < s.2.2.1 p - s.2.1 p → mnx le sz (s.2.2.2 p) (s.2.1 p + i) ≤ mnx le sz (s.2.2.2 p) (s.2.1 p + j) := by
    intro i j hij hj
    by_cases e : i = j
    · rw [e]; exact Nat.le_refl _
    · obtain ⟨r1, h1, e1⟩ := hrow i (by omega)
      obtain ⟨r2, h2, e2⟩ := hrow j hj
      have := srt_idx hs h1 h2 (by omega)
      rw [lx_app] at this
      rw [e1, e2]
      cases r1 with
      | nil => exact Nat.zero_le _
      | cons x1 r1 =>
        cases r2 with
        | nil => rw [lx_nil] at this; cases this
        | cons x2 r2 =>
          show x1 + 1 ≤ x2 + 1
          rw [lx_cons] at this
          rcases this with q | ⟨q, -⟩ <;> omega
  have h8 : ∀ i, i < s.2.2.1 p - s.2.1 p → mnx le sz (s.2.2.2 p) (s.2.1 p + i) ≤ 8 := by
    intro i hi
    obtain ⟨r1, h1, e1⟩ := hrow i hi
    rw [e1]
    cases r1 with
    | nil => exact Nat.zero_le _
    | cons x r =>
      have := (hL _ (List.mem_of_getElem? h1)).2.2 x (by simp)
      show x + 1 ≤ 8
      omega
  rw [(mxs_is hmono h8 _ (Nat.le_refl _)).1, cef_cnz]
  refine cnz_ext 8 (fun x hx => ?_)
  show (if tg (so z * 8 + x) = none then 0 else 1) = 0 ↔ cg (fun i => mnx le sz (s.2.2.2 p) (s.2.1 p + i)) (s.2.2.1 p - s.2.1 p) (x + 1) = 0
  rw [(hA.2.2.1 z hzS).2.2 x hx, cg_0]
  have hch : ch (z * 8 + x) = nod ch (u ++ [x]) := (nod_snoc_s hn).symm
  have hlx : lets (u ++ [x]) := lets_snoc.mpr ⟨hl, hx⟩
  have hT2 := hT.2.2.1 _ hlx
  constructor
  · intro h i hi e
    have hnone : ch (z * 8 + x) = none := by
      cases hq : ch (z * 8 + x) with
      | none => rfl
      | some c =>
        rw [hq] at h
        cases h
    obtain ⟨r, h1, e1⟩ := hrow i hi
    have e : mnx le sz (s.2.2.2 p) (s.2.1 p + i) = x + 1 := e
    rw [e1] at e
    cases r with
    | nil => cases e
    | cons y r =>
      have e : y + 1 = x + 1 := e
      have : y = x := by omega
      subst this
      refine hT2.mpr (Or.inr (Or.inl ⟨_, List.mem_of_getElem? h1, ⟨r, by simp⟩⟩)) ?_
      rw [← hch]
      exact hnone
  · intro h
    have hnone : ch (z * 8 + x) = none := by
      cases hq : ch (z * 8 + x) with
      | none => rfl
      | some c =>
        exfalso
        rw [hq] at hch
        rcases hT2.mp (by rw [← hch]; simp) with e | ⟨w, hw, e⟩ | ⟨w, hw, -⟩
        · exact absurd e (by simp)
        · obtain ⟨t, rfl⟩ := e
          obtain ⟨j, hj⟩ := List.getElem?_of_mem hw
          obtain ⟨b1, b2⟩ := (a4 j _ hj).mpr ⟨[x] ++ t, by simp⟩
          obtain ⟨r, h1, e1⟩ := hrow (j - s.2.1 p) (by omega)
          rw [show s.2.1 p + (j - s.2.1 p) = j by omega, hj] at h1
          have h1 := Option.some.inj h1
          rw [List.append_assoc] at h1
          have h1 : x :: t = r := List.append_cancel_left h1
          refine h (j - s.2.1 p) (by omega) ?_
          show mnx le sz (s.2.2.2 p) (s.2.1 p + (j - s.2.1 p)) = x + 1
          rw [e1, ← h1]
        · cases hw
    rw [hnone]
    rfl
theorem PX.edges_ (hP : PX L s (qw L cn)) (hM : ML le sz cn L) (hs : srt L) (hT : TP ch wh hf L []) (hL : ∀ w, w ∈ L → wrd w) (hA : AT ch wh so mb ac tg S) (hS : NS ch S) : ∀ k, k ≤ s.1 → ced (cg (fun i => so (pnd ch L s i)) k) tg 211 = mes le sz s.2.1 s.2.2.1 s.2.2.2 k
  | 0, _ => ced_0 tg 211
  | k + 1, hk => by
    have ih := PX.edges_ hP hM hs hT hL hA hS k (by omega)
    have hF := hP.first_ hM hs hT hL hA hS (show k < s.1 by omega)
    rw [ced_cg, ih]
    show mes le sz s.2.1 s.2.2.1 s.2.2.2 k + _ = if mif le sz s.2.1 s.2.2.1 s.2.2.2 k k = true then mes le sz s.2.1 s.2.2.1 s.2.2.2 k + (mxs le sz (s.2.1 k) (s.2.2.2 k) (s.2.2.1 k - s.2.1 k)).1 else mes le sz s.2.1 s.2.2.1 s.2.2.2 k
    by_cases q : mif le sz s.2.1 s.2.2.1 s.2.2.2 k k = true
    · rw [if_pos q, if_pos (hF.mpr q), hP.next_ hM hs hT hL hA hS (show k < s.1 by omega)]
    · rw [if_neg q, if_neg (fun z => q (hF.mp z)), Nat.add_zero]
theorem edges_eq (hM : ML le sz cn L) (hc : cn ≤ 30) (hs : srt L) (hT : TP ch wh hf L []) (hL : ∀ w, w ∈ L → wrd w) (hA : AT ch wh so mb ac tg S) (hS : NS ch S) (lo hi dp : Nat → Nat) : ced mb tg 211 = mes le sz (mfO le sz cn lo hi dp cn).2.1 (mfO le sz cn lo hi dp cn).2.2.1 (mfO le sz cn lo hi dp cn).2.2.2 (mfO le sz cn lo hi dp cn).1 := by
  have hP := hM.pO hs hc lo hi dp cn (Nat.le_refl _)
  rw [← hP.edges_ hM hs hT hL hA hS _ (Nat.le_refl _), ← hP.mb_ hM.1 hT hL hA hS]
/-- alike -/
theorem PX.mac_ (hP : PX L s (qw L cn)) (hM : ML le sz cn L) (hs : srt L) (hT : TP ch wh hf L []) (hL : ∀ w, w ∈ L → wrd w) (hA : AT ch wh so mb ac tg S) (hS : NS ch S) {o : Nat} (ho : o < s.1) : ∀ k, k ≤ s.1 → cg (fun i => so (pnd ch L s i)) k (so (pnd ch L s o)) = mac le sz s.2.1 s.2.2.1 s.2.2.2 o k
  | 0, _ => rfl
  | k + 1, hk => by
    have ih := PX.mac_ hP hM hs hT hL hA hS ho k (by omega)
    have hF := hP.same_ hM hs hT hL hA hS (show k < s.1 by omega) ho
    rw [cg_s, ih]
    show mac le sz s.2.1 s.2.2.1 s.2.2.2 o k + (if so (pnd ch L s k) = so (pnd ch L s o) then 1 else 0) = if mal le sz s.2.1 s.2.2.1 s.2.2.2 k o = true then mac le sz s.2.1 s.2.2.1 s.2.2.2 o k + 1 else mac le sz s.2.1 s.2.2.1 s.2.2.2 o k
    by_cases q : mal le sz s.2.1 s.2.2.1 s.2.2.2 k o = true
    · rw [if_pos q, if_pos (hF.mp q)]
    · rw [if_neg q, if_neg (fun z => q (hF.mpr z)), Nat.add_zero]
theorem PX.own_ (hP : PX L s (qw L cn)) (hM : ML le sz cn L) {tx : Nat → Nat} {n p : Nat} (hp : p < s.1) : (s.2.2.2 p = n ∧ (n = 0 ∨ mbw tx le (s.2.1 p) n (sz (s.2.1 p)) n = true)) ↔ (alwF tx 0 n = true ∧ pfL L s.2.1 s.2.2.2 p = lts tx 0 n) := by
  obtain ⟨a1, a2, a3, a4⟩ := hP.1 p hp
  constructor
  · rintro ⟨h1, h2⟩
    rcases h2 with h2 | h2
    · subst h2
      rw [h1] at a1
      exact ⟨rfl, List.length_eq_zero_iff.mp a1⟩
    · by_cases h0 : n = 0
      · subst h0
        rw [h1] at a1
        exact ⟨rfl, List.length_eq_zero_iff.mp a1⟩
      · cases hx : L[s.2.1 p]? with
        | none =>
          unfold pfL at a1
          rw [hx] at a1
          simp at a1
          omega
        | some x =>
          rw [mbw_is (hM.2 _ x hx), Bool.and_eq_true] at h2
          refine ⟨h2.1, ?_⟩
          have := List.prefix_iff_eq_take.mp (List.isPrefixOf_iff_prefix.mp h2.2)
          rw [lts_len] at this
          unfold pfL
          rw [hx, h1, this]
          rfl
  · rintro ⟨h1, h2⟩
    have h3 : s.2.2.2 p = n := by rw [← a1, h2, lts_len]
    refine ⟨h3, ?_⟩
    by_cases h0 : n = 0
    · exact Or.inl h0
    · right
      cases hx : L[s.2.1 p]? with
      | none =>
        unfold pfL at h2
        rw [hx] at h2
        have := congrArg List.length h2
        rw [lts_len] at this
        simp at this
        omega
      | some x =>
        rw [mbw_is (hM.2 _ x hx), h1, Bool.true_and, List.isPrefixOf_iff_prefix, ← h2]
        unfold pfL
        rw [hx]
        exact List.take_prefix _ _
theorem mow_none {tx lo dp : Nat → Nat} {n : Nat} : ∀ {k : Nat}, mow tx le sz lo dp n k = none → ∀ p, p < k → ¬ (dp p = n ∧ (n = 0 ∨ mbw tx le (lo p) n (sz (lo p)) n = true))
  | 0, _, p, hp => by omega
  | k + 1, h, p, hp => by
    by_cases q : dp k = n ∧ (n = 0 ∨ mbw tx le (lo k) n (sz (lo k)) n = true)
    · have h : (if dp k = n ∧ (n = 0 ∨ mbw tx le (lo k) n (sz (lo k)) n = true) then some k else mow tx le sz lo dp n k) = none := h
      rw [if_pos q] at h
      cases h
    · have h : (if dp k = n ∧ (n = 0 ∨ mbw tx le (lo k) n (sz (lo k)) n = true) then some k else mow tx le sz lo dp n k) = none := h
      rw [if_neg q] at h
      by_cases e : p = k
      · rw [e]; exact q
      · exact mow_none h p (by omega)
theorem mow_some {tx lo dp : Nat → Nat} {n z : Nat} : ∀ {k : Nat}, mow tx le sz lo dp n k = some z → dp z = n ∧ (n = 0 ∨ mbw tx le (lo z) n (sz (lo z)) n = true)
  | 0, h => by cases h
  | k + 1, h => by
    by_cases q : dp k = n ∧ (n = 0 ∨ mbw tx le (lo k) n (sz (lo k)) n = true)
    · have h : (if dp k = n ∧ (n = 0 ∨ mbw tx le (lo k) n (sz (lo k)) n = true) then some k else mow tx le sz lo dp n k) = some z := h
      rw [if_pos q] at h
      cases h
      exact q
    · have h : (if dp k = n ∧ (n = 0 ∨ mbw tx le (lo k) n (sz (lo k)) n = true) then some k else mow tx le sz lo dp n k) = some z := h
      rw [if_neg q] at h
      exact mow_some h
theorem alike_no (hM : ML le sz cn L) (hc : cn ≤ 30) (hs : srt L) (hT : TP ch wh hf L []) (hL : ∀ w, w ∈ L → wrd w) (lo hi dp tx : Nat → Nat) (n : Nat) (h : mow tx le sz (mfO le sz cn lo hi dp cn).2.1 (mfO le sz cn lo hi dp cn).2.2.2 n (mfO le sz cn lo hi dp cn).1 = none) : fwk ch tx n = none := by
  have hP := hM.pO hs hc lo hi dp cn (Nat.le_refl _)
  rw [fwk_nod0]
  cases ha : alwF tx 0 n with
  | false => rfl
  | true =>
    rw [if_pos rfl]
    cases hz : nod ch (lts tx 0 n) with
    | none => rfl
    | some p =>
      exfalso
      have hq : qw L cn (lts tx 0 n) := (qw_all hM.1).mpr (by
        rcases (hT.2.2.1 _ (lts_lets tx 0 n)).mp (by rw [hz]; simp) with e | e | ⟨w, hw, -⟩
        · exact Or.inl e
        · exact Or.inr e
        · cases hw)
      obtain ⟨i, hi2, e⟩ := (hP.2.2 _).mpr hq
      exact mow_none h i hi2 ((hP.own_ hM hi2).mpr ⟨ha, e⟩)
theorem alike_yes (hM : ML le sz cn L) (hc : cn ≤ 30) (hs : srt L) (hT : TP ch wh hf L []) (hL : ∀ w, w ∈ L → wrd w) (hA : AT ch wh so mb ac tg S) (hS : NS ch S) (lo hi dp tx : Nat → Nat) (n z : Nat) (h : mow tx le sz (mfO le sz cn lo hi dp cn).2.1 (mfO le sz cn lo hi dp cn).2.2.2 n (mfO le sz cn lo hi dp cn).1 = some z) : (fwk ch tx n).map (fun p => mb (so p)) = some (mac le sz (mfO le sz cn lo hi dp cn).2.1 (mfO le sz cn lo hi dp cn).2.2.1 (mfO le sz cn lo hi dp cn).2.2.2 z (mfO le sz cn lo hi dp cn).1) := by
  have hP := hM.pO hs hc lo hi dp cn (Nat.le_refl _)
  have hz := mow_lt h
  obtain ⟨h1, h2⟩ := (hP.own_ hM hz).mp (mow_some h)
  rw [fwk_nod0, h1, if_pos rfl, ← h2, hP.nod_ hM.1 hT hL hz, ← hP.mac_ hM hs hT hL hA hS hz _ (Nat.le_refl _), ← hP.mb_ hM.1 hT hL hA hS]
  rfl
theorem prefixes_ok (hM : ML le sz cn L) (hc : cn ≤ 30) (hs : srt L) (hT : TP ch wh hf L []) (hL : ∀ w, w ∈ L → wrd w) (hA : AT ch wh so mb ac tg S) (hS : NS ch S) (lo hi dp : Nat → Nat) :
    (∀ i, i < (mfO le sz cn lo hi dp cn).1 → vpr sz (mfO le sz cn lo hi dp cn).2.1 (mfO le sz cn lo hi dp cn).2.2.1 (mfO le sz cn lo hi dp cn).2.2.2 i) ∧ (mfO le sz cn lo hi dp cn).1 ≤ 211 ∧ ∀ i, i < (mfO le sz cn lo hi dp cn).1 → (mfO le sz cn lo hi dp cn).2.1 i < 31 ∧ (mfO le sz cn lo hi dp cn).2.2.2 i ≤ 60 := by
  have hP := hM.pO hs hc lo hi dp cn (Nat.le_refl _)
  refine ⟨fun i hi2 => hM.vprs hc hP hi2, hP.n211 hM.1 hT hL hA hS, fun i hi2 => ?_⟩
  obtain ⟨a1, a2, a3, a4⟩ := hP.1 i hi2
  have hl := hM.1
  refine ⟨by omega, ?_⟩
  rw [← a1]
  rcases (qw_all hM.1).mp ((hP.2.2 _).mp ⟨i, hi2, rfl⟩) with e | ⟨w, hw, e⟩
  · rw [e]
    exact Nat.zero_le _
  · have h1 := e.length_le
    have h2 := (hL w hw).2.1
    omega
theorem AT.mb_le (hA : AT ch wh so mb ac tg S) (z : Nat) : mb z ≤ 211 := by
  rw [hA.2.1 z]
  have h1 := List.countP_le_length (p := fun p => decide (so p = z)) (l := S)
  have h2 := nd_le 211 S hA.1.1 hA.1.2
  omega
end ME
