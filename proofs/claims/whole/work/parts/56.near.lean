/-! near: the distance of a text and a word -/
def ED (q : Nat → Nat → Bool) : Nat → Nat → Nat
  | 0, j => j
  | i + 1, 0 => i + 1
  | i + 1, j + 1 => min (ED q i j + (if q i j then 0 else 1)) (1 + min (ED q (i + 1) j) (ED q i (j + 1)))
termination_by i j => i + j
theorem ED_0 (q : Nat → Nat → Bool) (j : Nat) : ED q 0 j = j := by rw [ED]
theorem ED_c (q : Nat → Nat → Bool) (i : Nat) : ED q i 0 = i := by
  cases i with
  | zero => rw [ED]
  | succ i => rw [ED]
theorem ED_s (q : Nat → Nat → Bool) (i j : Nat) : ED q (i + 1) (j + 1) = min (ED q i j + (if q i j then 0 else 1)) (1 + min (ED q (i + 1) j) (ED q i (j + 1))) := by rw [ED]
theorem ED_ext {q r : Nat → Nat → Bool} {m : Nat} (h : ∀ i j, j < m → q i j = r i j) : ∀ (i j : Nat), j ≤ m → ED q i j = ED r i j
  | 0, j, _ => by rw [ED_0, ED_0]
  | i + 1, 0, _ => by rw [ED_c, ED_c]
  | i + 1, j + 1, hj => by
    rw [ED_s, ED_s, ED_ext h i j (by omega), ED_ext h (i + 1) j (by omega), ED_ext h i (j + 1) hj, h i j (by omega)]
termination_by i j => i + j
/-- the class's rows: along the word -/
theorem rd_ED {wt : Nat → Nat} {c i : Nat} {ds : Nat → Nat} {q : Nat → Nat → Bool} {m : Nat} (hd : ∀ j, j ≤ m → ds j = ED q i j) (hq : ∀ j, j < m → q i j = decide (wt j = c)) : ∀ k, k ≤ m → (rd wt c ds k).1 = ds k ∧ ∀ j, (rd wt c ds k).2 j = if j ≤ k then ED q (i + 1) j else ds j
  | 0, _ => ⟨rfl, fun j => by
      show va_up ds 0 (ds 0 + 1) j = _
      by_cases e : j = 0
      · subst e
        rw [va_up_self, if_pos (Nat.le_refl _), hd 0 (Nat.zero_le _), ED_c, ED_c]
      · rw [va_up_ne _ _ e, if_neg (by omega)]⟩
  | k + 1, hk => by
    obtain ⟨h1, h2⟩ := rd_ED (wt := wt) (c := c) hd hq k (by omega)
    have e1 : (rd wt c ds k).2 (k + 1) = ds (k + 1) := by rw [h2, if_neg (by omega)]
    have e2 : (rd wt c ds k).2 k = ED q (i + 1) k := by rw [h2, if_pos (Nat.le_refl _)]
    refine ⟨e1, fun j => ?_⟩
    show va_up (rd wt c ds k).2 (k + 1) (min (if wt k = c then (rd wt c ds k).1 else (rd wt c ds k).1 + 1) (1 + min ((rd wt c ds k).2 (k + 1)) ((rd wt c ds k).2 k))) j = _
    by_cases e : j = k + 1
    · subst e
      rw [va_up_self, if_pos (Nat.le_refl _), e1, e2, h1, hd k (by omega), hd (k + 1) hk, ED_s, hq k (by omega), Nat.min_comm (ED q i (k + 1))]
      congr 1
      by_cases z : wt k = c
      · rw [if_pos z, if_pos (decide_eq_true z)]
        rfl
      · rw [if_neg z, if_neg (fun y => z (of_decide_eq_true y))]
    · rw [va_up_ne _ _ e, h2]
      by_cases y : j ≤ k
      · rw [if_pos y, if_pos (by omega)]
      · rw [if_neg y, if_neg (by omega)]
theorem rds_ED {wt tx ds : Nat → Nat} {q : Nat → Nat → Bool} {m : Nat} (hq : ∀ i j, j < m → q i j = decide (wt j = tx i)) : ∀ i j, j ≤ m → rds wt m tx ds i j = ED q i j
  | 0, j, hj => by
    show fil ds (m + 1) j = _
    rw [fil_in, if_pos (by omega), ED_0]
  | i + 1, j, hj => by
    show (rd wt (tx i) (rds wt m tx ds i) m).2 j = _
    rw [(rd_ED (fun j hj => rds_ED hq i j hj) (hq i) m (Nat.le_refl _)).2 j, if_pos hj]
/-- the reference's rows: along the text -/
theorem mdv_min (r c l r1 b0 : Nat) : mdv r c l r1 b0 = min (r + (if mlt c = l then 0 else 1)) (1 + min r1 b0) := by
  have e : (if r1 < b0 then r1 + 1 else b0 + 1) = 1 + min r1 b0 := by
    split
    · rw [Nat.min_eq_left (by omega)]; omega
    · rw [Nat.min_eq_right (by omega)]; omega
  unfold mdv
  rw [e]
  generalize r + (if mlt c = l then 0 else 1) = a
  generalize 1 + min r1 b0 = b
  split
  · rw [Nat.min_eq_left (by omega)]
  · rw [Nat.min_eq_right (by omega)]
theorem mdB_ED {tx ro bl : Nat → Nat} {l i n : Nat} {q : Nat → Nat → Bool} (hr : ∀ k, k ≤ n → ro k = ED q k i) (hq : ∀ k, q k i = decide (mlt (tx k) = l)) : ∀ k, k ≤ n → ∀ z, z ≤ k → mdB tx l ro i bl k z = ED q z (i + 1)
  | 0, _, z, hz => by
    rw [show z = 0 by omega]
    show va_up bl 0 (i + 1) 0 = _
    rw [va_up_self, ED_0]
  | k + 1, hk, z, hz => by
    have ih := mdB_ED (bl := bl) hr hq k (by omega)
    show va_up (mdB tx l ro i bl k) (k + 1) (mdv (ro k) (tx k) l (ro (k + 1)) (mdB tx l ro i bl k k)) z = _
    by_cases e : z = k + 1
    · subst e
      rw [va_up_self, mdv_min, hr k (by omega), hr (k + 1) hk, ih k (Nat.le_refl _), ED_s, hq k]
      congr 2
      by_cases y : mlt (tx k) = l
      · rw [if_pos y, if_pos (decide_eq_true y)]
      · rw [if_neg y, if_neg (fun x => y (of_decide_eq_true x))]
    · rw [va_up_ne _ _ e]
      exact ih z (by omega)
theorem mdO_ED {tx le ro bl : Nat → Nat} {w n : Nat} {q : Nat → Nat → Bool} (hq : ∀ k i, q k i = decide (mlt (tx k) = le (7 * w + i))) : ∀ i z, z ≤ n → (mdO tx le w n ro bl i).1 z = ED q z i
  | 0, z, hz => by
    show fil ro (n + 1) z = _
    rw [fil_in, if_pos (by omega), ED_c]
  | i + 1, z, hz => by
    show mdC _ _ (n + 1) z = _
    rw [mdC_in, if_pos (by omega)]
    exact mdB_ED (fun k hk => mdO_ED hq i k hk) (fun k => hq k i) n (Nat.le_refl _) z hz
/-- letters of the text and of the word -/
def eqL (tx : Nat → Nat) (u : List Nat) (i j : Nat) : Bool := decide (mlt (tx i) = (u[j]?).getD 0 + 1)
def dis (L : List (List Nat)) (tx : Nat → Nat) (n i : Nat) : Nat := ED (eqL tx ((L[i]?).getD [])) n ((L[i]?).getD []).length
def nsp (d : Nat → Nat) (j : Nat) (s : pss) : Nat → pss
  | 0 => s
  | i + 1 => if d i ≤ j then (va_up (nsp d j s i).1 (nsp d j s i).2.2 i, va_up (nsp d j s i).2.1 (nsp d j s i).2.2 (d i), (nsp d j s i).2.2 + 1) else nsp d j s i
theorem mlt_eq {c x : Nat} (hx : x < 8) : mlt c = x + 1 ↔ 97 + x = c := by
  unfold mlt
  split <;> omega
section NR
variable {ch : Nat → Option Nat} {wh : Nat → Bool} {hf hb ln : Nat → Nat} {sw : Nat → Option Nat} {L : List (List Nat)}
theorem TR.near (h : TR ch wh hf hb ln sw L) (tx : Nat → Nat) (n j : Nat) (s : nst6) : ∀ i, i ≤ L.length → (nrs ch hf hb tx n j s i).2.2.2 = nsp (dis L tx n) j s.2.2.2 i
  | 0, _ => rfl
  | i + 1, hi => by
    have ih := TR.near h tx n j s i (by omega)
    show (nrS ch hf hb tx n j i (nrs ch hf hb tx n j s i)).2.2.2 = _
    generalize nrs ch hf hb tx n j s i = t at ih
    obtain ⟨qx, n4, ds, fu, fv, fk⟩ := t
    have ih : (fu, fv, fk) = nsp (dis L tx n) j s.2.2.2 i := ih
    obtain ⟨u, hu⟩ : ∃ u, L[i]? = some u := ⟨_, List.getElem?_eq_getElem (by omega)⟩
    obtain ⟨p, hp⟩ := h.spelt hu qx
    have hul : lets u := (h.2.2.1 u (List.mem_of_getElem? hu)).2.2
    have hd : rds (txu u qx u.length) u.length tx ds n u.length = dis L tx n i := by
      unfold dis
      rw [hu]
      refine rds_ED (fun a b hb => ?_) n u.length (Nat.le_refl _)
      obtain ⟨x, hx⟩ : ∃ x, u[b]? = some x := ⟨_, List.getElem?_eq_getElem hb⟩
      have hx8 : x < 8 := hul x (List.mem_of_getElem? hx)
      unfold eqL txu
      show decide (mlt (tx a) = (u[b]?).getD 0 + 1) = _
      rw [if_pos hb, hx]
      show decide (mlt (tx a) = x + 1) = decide (97 + x = tx a)
      rw [decide_eq_decide]
      exact mlt_eq hx8
    show (if rds (spl ch hf hb i qx n7).2.2.1 (spl ch hf hb i qx n7).2.2.2 tx ds n (spl ch hf hb i qx n7).2.2.2 ≤ j then ((spl ch hf hb i qx n7).2.2.1, (spl ch hf hb i qx n7).2.2.2, rds (spl ch hf hb i qx n7).2.2.1 (spl ch hf hb i qx n7).2.2.2 tx ds n, va_up fu fk i, va_up fv fk (rds (spl ch hf hb i qx n7).2.2.1 (spl ch hf hb i qx n7).2.2.2 tx ds n (spl ch hf hb i qx n7).2.2.2), fk + 1) else ((spl ch hf hb i qx n7).2.2.1, (spl ch hf hb i qx n7).2.2.2, rds (spl ch hf hb i qx n7).2.2.1 (spl ch hf hb i qx n7).2.2.2 tx ds n, fu, fv, fk)).2.2.2 = if dis L tx n i ≤ j then (va_up (nsp (dis L tx n) j s.2.2.2 i).1 (nsp (dis L tx n) j s.2.2.2 i).2.2 i, va_up (nsp (dis L tx n) j s.2.2.2 i).2.1 (nsp (dis L tx n) j s.2.2.2 i).2.2 (dis L tx n i), (nsp (dis L tx n) j s.2.2.2 i).2.2 + 1) else nsp (dis L tx n) j s.2.2.2 i
    rw [hp, ← ih]
    show (if rds (txu u qx u.length) u.length tx ds n u.length ≤ j then (txu u qx u.length, u.length, rds (txu u qx u.length) u.length tx ds n, va_up fu fk i, va_up fv fk (rds (txu u qx u.length) u.length tx ds n u.length), fk + 1) else (txu u qx u.length, u.length, rds (txu u qx u.length) u.length tx ds n, fu, fv, fk)).2.2.2 = _
    rw [hd]
    split <;> rfl
end NR
section NM
variable {le sz : Nat → Nat} {cn : Nat} {L : List (List Nat)}
theorem ML.near (h : ML le sz cn L) (tx : Nat → Nat) (n j : Nat) (s : mnr5) : ∀ w, w ≤ cn → (mnr tx le sz n j s w).2.2 = nsp (dis L tx n) j s.2.2 w
  | 0, _ => rfl
  | w + 1, hw => by
    have ih := ML.near h tx n j s w (by omega)
    show (mnS tx le sz n j w (mnr tx le sz n j s w)).2.2 = _
    generalize mnr tx le sz n j s w = t at ih
    obtain ⟨ro, bl, gu, gv, mn⟩ := t
    have ih : (gu, gv, mn) = nsp (dis L tx n) j s.2.2 w := ih
    obtain ⟨u, hu⟩ : ∃ u, L[w]? = some u := ⟨_, List.getElem?_eq_getElem (by rw [h.1]; omega)⟩
    have hr := h.2 w u hu
    have hd : (mdO tx le w n ro bl (sz w)).1 n = dis L tx n w := by
      rw [mdO_ED (q := fun k i => decide (mlt (tx k) = le (7 * w + i))) (fun k i => rfl) (sz w) n (Nat.le_refl _)]
      unfold dis
      rw [hu, hr.1]
      refine ED_ext (m := u.length) (fun a b hb => ?_) n u.length (Nat.le_refl _)
      obtain ⟨x, hx⟩ : ∃ x, u[b]? = some x := ⟨_, List.getElem?_eq_getElem hb⟩
      unfold eqL
      show decide (mlt (tx a) = le (7 * w + b)) = decide (mlt (tx a) = (u[b]?).getD 0 + 1)
      rw [hr.2 b x hx, hx]
      rfl
    show (if (mdO tx le w n ro bl (sz w)).1 n ≤ j then ((mdO tx le w n ro bl (sz w)).1, (mdO tx le w n ro bl (sz w)).2, va_up gu mn w, va_up gv mn ((mdO tx le w n ro bl (sz w)).1 n), mn + 1) else ((mdO tx le w n ro bl (sz w)).1, (mdO tx le w n ro bl (sz w)).2, gu, gv, mn)).2.2 = if dis L tx n w ≤ j then (va_up (nsp (dis L tx n) j s.2.2 w).1 (nsp (dis L tx n) j s.2.2 w).2.2 w, va_up (nsp (dis L tx n) j s.2.2 w).2.1 (nsp (dis L tx n) j s.2.2 w).2.2 (dis L tx n w), (nsp (dis L tx n) j s.2.2 w).2.2 + 1) else nsp (dis L tx n) j s.2.2 w
    rw [hd, ← ih]
    split <;> rfl
end NM
