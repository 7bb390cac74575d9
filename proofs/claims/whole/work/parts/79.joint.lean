/-! The joint state of class and reference -/
def J (L : List (List Nat)) (tx : Nat → Nat) (n : Nat) (px : Nat → Nat) (n3 : Nat) (qx : Nat → Nat) (ch : Nat → Option Nat) (wh : Nat → Bool) (hf hb ln : Nat → Nat) (sw : Nat → Option Nat) (od so mb : Nat → Nat) (ac : Nat → Bool) (tg wn : Nat → Option Nat) (pa : Nat → Nat) (fk : Nat) (ds : Nat → Nat) (fw : Nat → Option Nat) (fe : Nat → Nat) (cn : Nat) (pg le sz fz : Nat → Nat) : Prop :=
  (n ≤ 60 ∧ ∀ i, tx i < 65536) ∧ (TR ch wh hf hb ln sw L ∧ TB ch hf hb ln sw od ∧ L.length ≤ 30) ∧ (∃ S, AT ch wh so mb ac tg S ∧ NS ch S) ∧ ((∀ i, so i < 211) ∧ rg tg ∧ rg wn ∧ ∀ i, pa i < 211) ∧ (ML le sz cn L ∧ (∀ i, le i ≤ 8) ∧ ∀ i, sz i ≤ 7) ∧ (n3 ≤ 119 ∧ Ag n3 px pg ∧ (∀ i, px i < 65536) ∧ ∀ i, pg i < 65536) ∧ ((∀ i, qx i < 65536) ∧ fk ≤ 420 ∧ ∀ i, ds i ≤ 100) ∧ ((∀ i z, fw i = some z → z ≤ 60) ∧ (∀ i, fe i ≤ 60) ∧ ∀ i, fz i ≤ 100)
theorem J_new0 : J [] (fun _ => 0) 0 (fun _ => 0) 0 (fun _ => 0) (fun _ => none) (fun _ => false) (fun _ => 0) (fun _ => 0) (fun _ => 0) (fun _ => none) (fun _ => 0) (fun _ => 0) (va_up (fun _ => 0) ((fun _ => 0) 0) 1) (fun _ => false) (fun _ => none) (fun _ => some 0) (fun _ => 0) 0 (fun _ => 0) (fun _ => some 0) (fun _ => 0) 0 (fun _ => 0) (fun _ => 0) (fun _ => 0) (fun _ => 0) := by
  refine ⟨⟨by omega, fun i => by show 0 < 65536; omega⟩, ⟨TR.new0.1, TR.new0.2, by show 0 ≤ 30; omega⟩, ⟨[0], AT.new0⟩, ⟨fun i => by show 0 < 211; omega, fun i j h => (by cases h), fun i j h => ?_, fun i => by show 0 < 211; omega⟩, ⟨ML.new0 _ _, fun i => by show 0 ≤ 8; omega, fun i => by show 0 ≤ 7; omega⟩, ⟨by omega, fun i hi => by omega, fun i => by show 0 < 65536; omega, fun i => by show 0 < 65536; omega⟩, ⟨fun i => by show 0 < 65536; omega, by omega, fun i => by show 0 ≤ 100; omega⟩, fun i z h => ?_, fun i => by show 0 ≤ 60; omega, fun i => by show 0 ≤ 100; omega⟩
  · cases h; omega
  · cases h; omega
section JS
variable {L : List (List Nat)} {tx : Nat → Nat} {n : Nat} {px : Nat → Nat} {n3 : Nat} {qx : Nat → Nat} {ch : Nat → Option Nat} {wh : Nat → Bool} {hf hb ln : Nat → Nat} {sw : Nat → Option Nat} {od so mb : Nat → Nat} {ac : Nat → Bool} {tg wn : Nat → Option Nat} {pa : Nat → Nat} {fk : Nat} {ds : Nat → Nat} {fw : Nat → Option Nat} {fe : Nat → Nat} {cn : Nat} {pg le sz fz : Nat → Nat}
theorem J.cn_ (h : J L tx n px n3 qx ch wh hf hb ln sw od so mb ac tg wn pa fk ds fw fe cn pg le sz fz) : cn = L.length ∧ hf 0 = cn ∧ cn ≤ 30 := by
  obtain ⟨-, ⟨hT, -, hl⟩, -, -, ⟨hM, -, -⟩, -⟩ := h
  have h1 := hM.1
  have h2 := hT.hf0
  omega
theorem J.facts (h : J L tx n px n3 qx ch wh hf hb ln sw od so mb ac tg wn pa fk ds fw fe cn pg le sz fz) : rg ch ∧ (∀ i, hf i ≤ 30) ∧ (∀ i, hb i < 1000) ∧ (∀ i, ln i < 211) ∧ (∀ i, od i < 211) ∧ rg sw ∧ ∀ i, mb i ≤ 211 := by
  obtain ⟨-, ⟨hT, hB, hl⟩, ⟨S, hA, -⟩, -⟩ := h
  exact ⟨hT.1.rg, hT.hfb hB hl, hB.2.2.2.1, hB.2.1, hB.2.2.1, hB.1, fun i => hA.mb_le i⟩
/-- the text wiped -/
theorem J.wipe (h : J L tx n px n3 qx ch wh hf hb ln sw od so mb ac tg wn pa fk ds fw fe cn pg le sz fz) : J L tx 0 px n3 qx ch wh hf hb ln sw od so mb ac tg wn pa fk ds fw fe cn pg le sz fz :=
  ⟨⟨Nat.zero_le _, h.1.2⟩, h.2⟩
theorem J.type (h : J L tx n px n3 qx ch wh hf hb ln sw od so mb ac tg wn pa fk ds fw fe cn pg le sz fz) {c : Nat} (hn : n < 60) (hc : c < 65536) : J L (va_up tx n c) (n + 1) px n3 qx ch wh hf hb ln sw od so mb ac tg wn pa fk ds fw fe cn pg le sz fz :=
  ⟨⟨by omega, up_lt h.1.2 hc⟩, h.2⟩
theorem J.finds (h : J L tx n px n3 qx ch wh hf hb ln sw od so mb ac tg wn pa fk ds fw fe cn pg le sz fz) {k : Nat} (hk : k ≤ 420) : J L tx n px n3 qx ch wh hf hb ln sw od so mb ac tg wn pa k ds fw fe cn pg le sz fz := by
  obtain ⟨a1, a2, a3, a4, a5, a6, ⟨b1, b2, b3⟩, a8⟩ := h
  exact ⟨a1, a2, a3, a4, a5, a6, ⟨b1, hk, b3⟩, a8⟩
/-- rows of the automaton while a path comes -/
theorem rcv_ok (hs : ∀ i, so i < 211) (ht : rg tg) (hw : rg wn) {m : Nat} {pa : Nat → Nat} : ∀ k, (∀ i, (rcv ch wh pa m (so, mb, ac, tg, wn) k).1 i < 211) ∧ rg (rcv ch wh pa m (so, mb, ac, tg, wn) k).2.2.2.1 ∧ rg (rcv ch wh pa m (so, mb, ac, tg, wn) k).2.2.2.2
  | 0 => ⟨hs, ht, hw⟩
  | k + 1 => by
    have ih := rcv_ok hs ht hw (m := m) (pa := pa) k
    show (∀ i, (jnS ch wh (pa (m - (k + 1))) (rcv ch wh pa m (so, mb, ac, tg, wn) k)).1 i < 211) ∧ rg (jnS ch wh (pa (m - (k + 1))) (rcv ch wh pa m (so, mb, ac, tg, wn) k)).2.2.2.1 ∧ rg (jnS ch wh (pa (m - (k + 1))) (rcv ch wh pa m (so, mb, ac, tg, wn) k)).2.2.2.2
    generalize rcv ch wh pa m (so, mb, ac, tg, wn) k = s at ih
    obtain ⟨so1, mb1, ac1, tg1, wn1⟩ := s
    obtain ⟨i1, i2, i3⟩ := ih
    have hj := jw_rg (ch := ch) (p := pa (m - (k + 1))) i3 i1 8
    cases hz : wst mb1 ac1 tg1 (jw ch so1 (pa (m - (k + 1))) wn1 8) (wh (pa (m - (k + 1)))) 211 0 with
    | none =>
      have h2 := fcl_le0 mb1 210 0 (by omega)
      rw [show jnS ch wh (pa (m - (k + 1))) (so1, mb1, ac1, tg1, wn1) = (va_up so1 (pa (m - (k + 1))) (fcl mb1 210 0), va_up mb1 (fcl mb1 210 0) (mb1 (fcl mb1 210 0) + 1), va_up ac1 (fcl mb1 210 0) (wh (pa (m - (k + 1)))), va_cpy (jw ch so1 (pa (m - (k + 1))) wn1 8) tg1 0 (fcl mb1 210 0 * 8) 8, jw ch so1 (pa (m - (k + 1))) wn1 8) by simp only [jnS, hz]]
      exact ⟨up_lt i1 (by omega), rg_cpy hj i2, hj⟩
    | some z =>
      have h2 := wst_lt hz
      rw [show jnS ch wh (pa (m - (k + 1))) (so1, mb1, ac1, tg1, wn1) = (va_up so1 (pa (m - (k + 1))) z, va_up mb1 z (mb1 z + 1), ac1, tg1, jw ch so1 (pa (m - (k + 1))) wn1 8) by simp only [jnS, hz]]
      exact ⟨up_lt i1 (by omega), i2, hj⟩
/-- the reference's rows while a word comes and goes -/
theorem mis_le {tx : Nat → Nat} {n : Nat} : ∀ (a : Nat) (le sz : Nat → Nat), (∀ i, le i ≤ 8) → (∀ i, sz i ≤ 7) → (∀ i, (mis tx n a le sz).2.1 i ≤ 8) ∧ ∀ i, (mis tx n a le sz).2.2 i ≤ 7
  | 0, le, sz, h1, h2 => ⟨h1, h2⟩
  | a + 1, le, sz, h1, h2 => by
    by_cases q : mcp tx le sz 0 n a < 0
    · rw [show mis tx n (a + 1) le sz = mis tx n a (mvl le (a + 1) a 7) (va_up sz (a + 1) (sz a)) from if_pos q]
      exact mis_le a _ _ (mvl_le h1 7) (up_le h2 (Nat.le_refl _) (h2 a))
    · rw [show mis tx n (a + 1) le sz = (a + 1, le, sz) from if_neg q]
      exact ⟨h1, h2⟩
theorem mfl_le {le tx : Nat → Nat} {a : Nat} (h : ∀ i, le i ≤ 8) : ∀ k i, mfl le a tx k i ≤ 8
  | 0 => h
  | k + 1 => up_le (mfl_le h k) (Nat.le_refl _) (mlt_le _)
theorem mrm_le {z : Nat} {le sz : Nat → Nat} (h1 : ∀ i, le i ≤ 8) (h2 : ∀ i, sz i ≤ 7) : ∀ k, (∀ i, (mrm z le sz k).1 i ≤ 8) ∧ ∀ i, (mrm z le sz k).2 i ≤ 7
  | 0 => ⟨h1, h2⟩
  | k + 1 => by
    obtain ⟨i1, i2⟩ := mrm_le (z := z) h1 h2 k
    exact ⟨mvl_le i1 7, up_le i2 (Nat.le_refl _) (i2 _)⟩
/-- what add asks and gives -/
theorem J.add_new (h : J L tx n px n3 qx ch wh hf hb ln sw od so mb ac tg wn pa fk ds fw fe cn pg le sz fz) (ha : alwF tx 0 n = true) (h1 : 1 ≤ n) (h7 : n ≤ 7) (hm : lts tx 0 n ∉ L) (h30 : cn < 30) :
    J (ins (lts tx 0 n) L) tx 0 px n3 qx (grw tx ch hf n).2.1 (va_up wh (grw tx ch hf n).1 true) (grw tx ch hf n).2.2 (rls (grw tx ch hf n).2.1 (va_up wh (grw tx ch hf n).1 true) (grw tx ch hf n).2.2 hb ln sw od n211).2.1 (rls (grw tx ch hf n).2.1 (va_up wh (grw tx ch hf n).1 true) (grw tx ch hf n).2.2 hb ln sw od n211).2.2.1 (rls (grw tx ch hf n).2.1 (va_up wh (grw tx ch hf n).1 true) (grw tx ch hf n).2.2 hb ln sw od n211).2.2.2.1 (rls (grw tx ch hf n).2.1 (va_up wh (grw tx ch hf n).1 true) (grw tx ch hf n).2.2 hb ln sw od n211).2.2.2.2
      (rcv (grw tx ch hf n).2.1 (va_up wh (grw tx ch hf n).1 true) (trp (grw tx ch hf n).2.1 tx n (trp ch tx n pa n8) n8) (trc (grw tx ch hf n).2.1 tx n n8) (so, rel so (trp ch tx n pa n8) mb (trc ch tx n n8), ac, tg, wn) (trc (grw tx ch hf n).2.1 tx n n8)).1 (rcv (grw tx ch hf n).2.1 (va_up wh (grw tx ch hf n).1 true) (trp (grw tx ch hf n).2.1 tx n (trp ch tx n pa n8) n8) (trc (grw tx ch hf n).2.1 tx n n8) (so, rel so (trp ch tx n pa n8) mb (trc ch tx n n8), ac, tg, wn) (trc (grw tx ch hf n).2.1 tx n n8)).2.1 (rcv (grw tx ch hf n).2.1 (va_up wh (grw tx ch hf n).1 true) (trp (grw tx ch hf n).2.1 tx n (trp ch tx n pa n8) n8) (trc (grw tx ch hf n).2.1 tx n n8) (so, rel so (trp ch tx n pa n8) mb (trc ch tx n n8), ac, tg, wn) (trc (grw tx ch hf n).2.1 tx n n8)).2.2.1 (rcv (grw tx ch hf n).2.1 (va_up wh (grw tx ch hf n).1 true) (trp (grw tx ch hf n).2.1 tx n (trp ch tx n pa n8) n8) (trc (grw tx ch hf n).2.1 tx n n8) (so, rel so (trp ch tx n pa n8) mb (trc ch tx n n8), ac, tg, wn) (trc (grw tx ch hf n).2.1 tx n n8)).2.2.2.1 (rcv (grw tx ch hf n).2.1 (va_up wh (grw tx ch hf n).1 true) (trp (grw tx ch hf n).2.1 tx n (trp ch tx n pa n8) n8) (trc (grw tx ch hf n).2.1 tx n n8) (so, rel so (trp ch tx n pa n8) mb (trc ch tx n n8), ac, tg, wn) (trc (grw tx ch hf n).2.1 tx n n8)).2.2.2.2 (trp (grw tx ch hf n).2.1 tx n (trp ch tx n pa n8) n8) 0 ds fw fe (cn + 1) pg (mfl (mis tx n cn le sz).2.1 (mis tx n cn le sz).1 tx n) (va_up (mis tx n cn le sz).2.2 (mis tx n cn le sz).1 n) fz := by
  obtain ⟨⟨a1, a2⟩, ⟨hT, hB, hl⟩, ⟨S, hA, hS⟩, ⟨b1, b2, b3, b4⟩, ⟨hM, c1, c2⟩, d, ⟨e1, e2, e3⟩, f⟩ := h
  have hcn := hM.1
  have h7w : ∀ w, w ∈ L → w.length ≤ 7 := fun w hw => (hT.2.2.1 w hw).2.1
  have hsum := sum7 L h7w
  obtain ⟨g1, g2⟩ := hT.add hB h1 h7 hm (by omega)
  have hrg' : rg (grw tx ch hf n).2.1 := g1.1.rg
  obtain ⟨m1, m2⟩ := mis_le (tx := tx) (n := n) cn le sz c1 c2
  obtain ⟨S', q1, q2⟩ := hA.comes (pa := pa) (wn := wn) hS hT.1 ha h7 (by omega)
  obtain ⟨k1, k2, k3⟩ := rcv_ok (ch := (grw tx ch hf n).2.1) (wh := va_up wh (grw tx ch hf n).1 true) (mb := rel so (trp ch tx n pa n8) mb (trc ch tx n n8)) (ac := ac) (m := trc (grw tx ch hf n).2.1 tx n n8) (pa := trp (grw tx ch hf n).2.1 tx n (trp ch tx n pa n8) n8) b1 b2 b3 (trc (grw tx ch hf n).2.1 tx n n8)
  refine ⟨⟨Nat.zero_le _, a2⟩, ⟨g1, g2, by rw [ins_len]; omega⟩, ⟨S', q1, q2⟩, ⟨k1, k2, k3, trp_lt hrg' (trp_lt hT.1.rg b4 n8) n8⟩, ⟨hM.ins hT.2.1 h7w ha h7 hm, mfl_le m1 n, up_le m2 (Nat.le_refl _) h7⟩, d, ⟨e1, Nat.zero_le _, e3⟩, f⟩
theorem J.remove (h : J L tx n px n3 qx ch wh hf hb ln sw od so mb ac tg wn pa fk ds fw fe cn pg le sz fz) (ha : alwF tx 0 n = true) (h7 : n ≤ 7) {z : Nat} (hz : L[z]? = some (lts tx 0 n)) :
    J (L.erase (lts tx 0 n)) tx 0 px n3 qx (ctw tx ch hf n).2.1 (va_up wh (ctw tx ch hf n).1 false) (ctw tx ch hf n).2.2 (rls (ctw tx ch hf n).2.1 (va_up wh (ctw tx ch hf n).1 false) (ctw tx ch hf n).2.2 hb ln sw od n211).2.1 (rls (ctw tx ch hf n).2.1 (va_up wh (ctw tx ch hf n).1 false) (ctw tx ch hf n).2.2 hb ln sw od n211).2.2.1 (rls (ctw tx ch hf n).2.1 (va_up wh (ctw tx ch hf n).1 false) (ctw tx ch hf n).2.2 hb ln sw od n211).2.2.2.1 (rls (ctw tx ch hf n).2.1 (va_up wh (ctw tx ch hf n).1 false) (ctw tx ch hf n).2.2 hb ln sw od n211).2.2.2.2
      (rcv (ctw tx ch hf n).2.1 (va_up wh (ctw tx ch hf n).1 false) (trp (ctw tx ch hf n).2.1 tx n (trp ch tx n pa n8) n8) (trc (ctw tx ch hf n).2.1 tx n n8) (so, rel so (trp ch tx n pa n8) mb (trc ch tx n n8), ac, tg, wn) (trc (ctw tx ch hf n).2.1 tx n n8)).1 (rcv (ctw tx ch hf n).2.1 (va_up wh (ctw tx ch hf n).1 false) (trp (ctw tx ch hf n).2.1 tx n (trp ch tx n pa n8) n8) (trc (ctw tx ch hf n).2.1 tx n n8) (so, rel so (trp ch tx n pa n8) mb (trc ch tx n n8), ac, tg, wn) (trc (ctw tx ch hf n).2.1 tx n n8)).2.1 (rcv (ctw tx ch hf n).2.1 (va_up wh (ctw tx ch hf n).1 false) (trp (ctw tx ch hf n).2.1 tx n (trp ch tx n pa n8) n8) (trc (ctw tx ch hf n).2.1 tx n n8) (so, rel so (trp ch tx n pa n8) mb (trc ch tx n n8), ac, tg, wn) (trc (ctw tx ch hf n).2.1 tx n n8)).2.2.1 (rcv (ctw tx ch hf n).2.1 (va_up wh (ctw tx ch hf n).1 false) (trp (ctw tx ch hf n).2.1 tx n (trp ch tx n pa n8) n8) (trc (ctw tx ch hf n).2.1 tx n n8) (so, rel so (trp ch tx n pa n8) mb (trc ch tx n n8), ac, tg, wn) (trc (ctw tx ch hf n).2.1 tx n n8)).2.2.2.1 (rcv (ctw tx ch hf n).2.1 (va_up wh (ctw tx ch hf n).1 false) (trp (ctw tx ch hf n).2.1 tx n (trp ch tx n pa n8) n8) (trc (ctw tx ch hf n).2.1 tx n n8) (so, rel so (trp ch tx n pa n8) mb (trc ch tx n n8), ac, tg, wn) (trc (ctw tx ch hf n).2.1 tx n n8)).2.2.2.2 (trp (ctw tx ch hf n).2.1 tx n (trp ch tx n pa n8) n8) 0 ds fw fe (cn - 1) pg (mrm z le sz (cn - z - 1)).1 (mrm z le sz (cn - z - 1)).2 fz := by
  obtain ⟨⟨a1, a2⟩, ⟨hT, hB, hl⟩, ⟨S, hA, hS⟩, ⟨b1, b2, b3, b4⟩, ⟨hM, c1, c2⟩, d, ⟨e1, e2, e3⟩, f⟩ := h
  have h7w : ∀ w, w ∈ L → w.length ≤ 7 := fun w hw => (hT.2.2.1 w hw).2.1
  have hmem := List.mem_of_getElem? hz
  obtain ⟨g1, g2⟩ := hT.del hB hmem hl
  have hrg' : rg (ctw tx ch hf n).2.1 := g1.1.rg
  obtain ⟨m1, m2⟩ := mrm_le (z := z) c1 c2 (cn - z - 1)
  obtain ⟨S', q1, q2⟩ := hA.goes (pa := pa) (wn := wn) hS hT.1 (srt_nodup hT.2.1) ha h7 hmem
  obtain ⟨k1, k2, k3⟩ := rcv_ok (ch := (ctw tx ch hf n).2.1) (wh := va_up wh (ctw tx ch hf n).1 false) (mb := rel so (trp ch tx n pa n8) mb (trc ch tx n n8)) (ac := ac) (m := trc (ctw tx ch hf n).2.1 tx n n8) (pa := trp (ctw tx ch hf n).2.1 tx n (trp ch tx n pa n8) n8) b1 b2 b3 (trc (ctw tx ch hf n).2.1 tx n n8)
  have hle : (L.erase (lts tx 0 n)).length ≤ 30 := Nat.le_trans List.length_erase_le hl
  exact ⟨⟨Nat.zero_le _, a2⟩, ⟨g1, g2, hle⟩, ⟨S', q1, q2⟩, ⟨k1, k2, k3, trp_lt hrg' (trp_lt hT.1.rg b4 n8) n8⟩, ⟨hM.del hT.2.1 h7w hz, m1, m2⟩, d, ⟨e1, Nat.zero_le _, e3⟩, f⟩
/-- add, remove: which road -/
theorem J.whH (h : J L tx n px n3 qx ch wh hf hb ln sw od so mb ac tg wn pa fk ds fw fe cn pg le sz fz) : whO wh (fwk ch tx n) = true ↔ alwF tx 0 n = true ∧ lts tx 0 n ∈ L := by
  obtain ⟨-, ⟨hT, -, -⟩, -⟩ := h
  have h1 := hT.rank tx n
  unfold seg idx at h1
  constructor
  · intro q
    rw [if_pos q] at h1
    obtain ⟨z, hz⟩ := whO_t q
    rw [hz] at h1
    by_cases ha : alwF tx 0 n = true
    · rw [if_pos ha] at h1
      by_cases hm : lts tx 0 n ∈ L
      · exact ⟨ha, hm⟩
      · rw [if_neg hm] at h1
        cases h1
    · rw [if_neg ha] at h1
      cases h1
  · rintro ⟨ha, hm⟩
    cases q : whO wh (fwk ch tx n) with
    | true => rfl
    | false =>
      rw [q, if_pos ha, if_pos hm] at h1
      cases h1
theorem J.hok (h : J L tx n px n3 qx ch wh hf hb ln sw od so mb ac tg wn pa fk ds fw fe cn pg le sz fz) (ha : alwF tx 0 n = true) (h7 : n ≤ 7) : ∀ k, k < trc ch tx n n8 → 1 ≤ rel so (trp ch tx n pa n8) mb k (so ((trp ch tx n pa n8) k)) := by
  obtain ⟨-, ⟨hT, -, -⟩, ⟨S, hA, hS⟩, -⟩ := h
  exact (hA.gone (pa := pa) hT.1 hS ha h7).2.2
/-- word: the page -/
theorem mpr_at {pg le : Nat → Nat} {w : Nat} : ∀ k i, i < k → mpr pg 0 le w k i = 97 + le (7 * w + i) - 1
  | 0, i, h => by omega
  | k + 1, i, h => by
    show va_up (mpr pg 0 le w k) (0 + k) (97 + le (7 * w + k) - 1) i = _
    rw [Nat.zero_add]
    by_cases e : i = k
    · subst e
      exact va_up_self _ _ _
    · rw [va_up_ne _ _ e]
      exact mpr_at k i (by omega)
theorem mpr_lt {pg le : Nat → Nat} {w r : Nat} (h : ∀ i, pg i < 65536) (hle : ∀ i, le i ≤ 8) : ∀ k i, mpr pg r le w k i < 65536
  | 0 => h
  | k + 1 => up_lt (mpr_lt h hle k) (by have := hle (7 * w + k); omega)
theorem J.word (h : J L tx n px n3 qx ch wh hf hb ln sw od so mb ac tg wn pa fk ds fw fe cn pg le sz fz) {j : Nat} (hj : j < cn) :
    (spl ch hf hb j px n7).2.2.2 = sz j ∧ J L tx n (spl ch hf hb j px n7).2.2.1 (sz j) qx ch wh hf hb ln sw od so mb ac tg wn pa fk ds fw fe cn (mpr pg 0 le j (sz j)) le sz fz := by
  obtain ⟨a1, ⟨hT, hB, hl⟩, a3, a4, ⟨hM, c1, c2⟩, ⟨d1, d2, d3, d4⟩, e, f⟩ := h
  obtain ⟨u, hu⟩ : ∃ u, L[j]? = some u := ⟨_, List.getElem?_eq_getElem (by rw [hM.1]; omega)⟩
  obtain ⟨p, hsp⟩ := hT.spelt hu px
  obtain ⟨r1, r2⟩ := hM.2 j u hu
  have h7 := c2 j
  rw [hsp]
  refine ⟨r1.symm, a1, ⟨hT, hB, hl⟩, a3, a4, ⟨hM, c1, c2⟩, ⟨by omega, fun i hi => ?_, fun i => ?_, mpr_lt d4 c1 _⟩, e, f⟩
  · show txu u px u.length i = _
    rw [mpr_at _ i hi]
    have hi2 : i < u.length := by rw [← r1]; exact hi
    show (if i < u.length then 97 + (u[i]?).getD 0 else px i) = _
    rw [if_pos hi2, List.getElem?_eq_getElem hi2, r2 i _ (List.getElem?_eq_getElem hi2)]
    show 97 + u[i] = 97 + (u[i] + 1) - 1
    omega
  · show (if i < u.length then 97 + (u[i]?).getD 0 else px i) < 65536
    split
    · rename_i q
      have hlet := (hT.2.2.1 u (List.mem_of_getElem? hu)).2.2 (u[i]) (List.getElem_mem q)
      rw [List.getElem?_eq_getElem q]
      show 97 + u[i] < 65536
      omega
    · exact d3 i
/-- near -/
theorem nrs_ok {j : Nat} {fu fv : Nat → Nat} {n4 : Nat} (hq : ∀ i, qx i < 65536) (hd : ∀ i, ds i ≤ 100) (hn : n ≤ 60) : ∀ i, (∀ z, (nrs ch hf hb tx n j (qx, n4, ds, fu, fv, 0) i).1 z < 65536) ∧ (∀ z, (nrs ch hf hb tx n j (qx, n4, ds, fu, fv, 0) i).2.2.1 z ≤ 100) ∧ (nrs ch hf hb tx n j (qx, n4, ds, fu, fv, 0) i).2.2.2.2.2 ≤ i
  | 0 => ⟨hq, hd, Nat.le_refl _⟩
  | i + 1 => by
    have ih := nrs_ok (j := j) (fu := fu) (fv := fv) (n4 := n4) hq hd hn i
    show (∀ z, (nrS ch hf hb tx n j i (nrs ch hf hb tx n j (qx, n4, ds, fu, fv, 0) i)).1 z < 65536) ∧ (∀ z, (nrS ch hf hb tx n j i (nrs ch hf hb tx n j (qx, n4, ds, fu, fv, 0) i)).2.2.1 z ≤ 100) ∧ (nrS ch hf hb tx n j i (nrs ch hf hb tx n j (qx, n4, ds, fu, fv, 0) i)).2.2.2.2.2 ≤ i + 1
    generalize nrs ch hf hb tx n j (qx, n4, ds, fu, fv, 0) i = s at ih
    obtain ⟨q1, m1, d1, u1, v1, k1⟩ := s
    obtain ⟨i1, i2, i3⟩ := ih
    have i3 : k1 ≤ i := i3
    obtain ⟨s1, -, s3⟩ := spl_ok (ch := ch) (hf := hf) (hb := hb) (i := i) i1 n7
    have s1 := Nat.le_trans s1 (Nat.le_of_eq n7_eq)
    have s4 := rds_le (tx := (spl ch hf hb i q1 n7).2.2.1) (t2 := tx) (k := n) s1 hn i2
    unfold nrS
    dsimp only
    split
    · exact ⟨s3, s4, by show k1 + 1 ≤ i + 1; omega⟩
    · exact ⟨s3, s4, by show k1 ≤ i + 1; omega⟩
theorem J.near (h : J L tx n px n3 qx ch wh hf hb ln sw od so mb ac tg wn pa fk ds fw fe cn pg le sz fz) {j : Nat} (fu fv : Nat → Nat) (n4 : Nat) (ro bl : Nat → Nat) :
    (nrs ch hf hb tx n j (qx, n4, ds, fu, fv, 0) (hf 0)).2.2.2 = (mnr tx le sz n j (ro, bl, fu, fv, 0) cn).2.2 ∧ J L tx 0 px n3 (nrs ch hf hb tx n j (qx, n4, ds, fu, fv, 0) (hf 0)).1 ch wh hf hb ln sw od so mb ac tg wn pa (nrs ch hf hb tx n j (qx, n4, ds, fu, fv, 0) (hf 0)).2.2.2.2.2 (nrs ch hf hb tx n j (qx, n4, ds, fu, fv, 0) (hf 0)).2.2.1 fw fe cn pg le sz fz := by
  obtain ⟨q1, q2, q3⟩ := h.cn_
  obtain ⟨⟨a1, a2⟩, ⟨hT, hB, hl⟩, a3, a4, ⟨hM, c1, c2⟩, d, ⟨e1, e2, e3⟩, f⟩ := h
  obtain ⟨g1, g2, g3⟩ := nrs_ok (ch := ch) (hf := hf) (hb := hb) (tx := tx) (j := j) (fu := fu) (fv := fv) (n4 := n4) e1 e3 a1 (hf 0)
  refine ⟨?_, ⟨Nat.zero_le _, a2⟩, ⟨hT, hB, hl⟩, a3, a4, ⟨hM, c1, c2⟩, d, ⟨g1, by omega, g2⟩, f⟩
  rw [hT.near tx n j _ (hf 0) (by omega), hM.near tx n j _ cn (Nat.le_refl _), q2]
/-- scan -/
theorem scs_k {fu fv : Nat → Nat} : ∀ k, (scs ch wh hb ln sw tx fu fv k).2.2.2 ≤ 7 * k
  | 0 => Nat.le_refl _
  | k + 1 => by
    have ih := scs_k (fu := fu) (fv := fv) k
    show (scS ch wh hb ln sw (tx k) (k + 1) (scs ch wh hb ln sw tx fu fv k)).2.2.2 ≤ 7 * (k + 1)
    generalize scs ch wh hb ln sw tx fu fv k = s at ih
    have h1 := fed_k (sw := sw) (hb := hb) (b := k + 1) (s := (at0 wh sw (onw ch ln s.1 (tx k)), s.2.1, s.2.2.1, s.2.2.2)) n7
    have h2 : (scS ch wh hb ln sw (tx k) (k + 1) s).2.2.2 ≤ s.2.2.2 + n7 := h1
    have h3 := n7_eq
    omega
theorem J.scan (h : J L tx n px n3 qx ch wh hf hb ln sw od so mb ac tg wn pa fk ds fw fe cn pg le sz fz) (fu fv : Nat → Nat) :
    (scs ch wh hb ln sw tx fu fv n).2 = mso tx le sz cn fu fv n ∧ J L tx 0 px n3 qx ch wh hf hb ln sw od so mb ac tg wn pa (scs ch wh hb ln sw tx fu fv n).2.2.2 ds fw fe cn pg le sz fz := by
  obtain ⟨⟨a1, a2⟩, ⟨hT, hB, hl⟩, a3, a4, ⟨hM, c1, c2⟩, d, ⟨e1, e2, e3⟩, f⟩ := h
  have h1 := scs_k (ch := ch) (wh := wh) (hb := hb) (ln := ln) (sw := sw) (tx := tx) (fu := fu) (fv := fv) n
  refine ⟨?_, ⟨Nat.zero_le _, a2⟩, ⟨hT, hB, hl⟩, a3, a4, ⟨hM, c1, c2⟩, d, ⟨e1, by omega, e3⟩, f⟩
  rw [(hT.scan tx fu fv fk n).2, hM.scan hT.2.1 hT.2.2.1 tx fu fv fk n]
/-- split -/
theorem wr_ok (ht : ∀ i, tx i < 65536) {g : Nat → Nat} (hp : ∀ i, px i < 65536) : ∀ k, (wr tx g px k).2.2 ≤ 2 * k ∧ ∀ i, (wr tx g px k).2.1 i < 65536
  | 0 => ⟨Nat.le_refl _, hp⟩
  | k + 1 => by
    have ih := wr_ok ht (g := g) hp k
    show (wrS tx g k (wr tx g px k)).2.2 ≤ 2 * (k + 1) ∧ ∀ i, (wrS tx g k (wr tx g px k)).2.1 i < 65536
    generalize wr tx g px k = s at ih
    obtain ⟨i1, i2⟩ := ih
    unfold wrS
    split
    · exact ⟨by show s.2.2 + 1 + 1 ≤ _; omega, up_lt (up_lt i2 (by omega)) (ht k)⟩
    · exact ⟨by show s.2.2 + 1 ≤ _; omega, up_lt i2 (ht k)⟩
theorem mgW_lt (hp : ∀ i, pg i < 65536) (hle : ∀ i, le i ≤ 8) {g : Nat → Nat} : ∀ k i, (mgW tx le sz cn n g pg k).2.1 i < 65536
  | 0 => hp
  | k + 1 => by
    have ih := mgW_lt hp hle (g := g) k
    show ∀ i, (mgP tx le sz cn n g (mgW tx le sz cn n g pg k)).2.1 i < 65536
    generalize mgW tx le sz cn n g pg k = s at ih
    unfold mgP
    dsimp only
    split
    · split
      · exact mpr_lt (up_lt ih (by omega)) hle _
      · exact mpr_lt ih hle _
    · exact ih
/-- a page needs no more than a place for each letter and each point -/
theorem wr_n {g : Nat → Nat} (h0 : 0 < g 0) : ∀ k, (wr tx g px k).2.2 ≤ 2 * k - 1 ∧ (k = 0 → (wr tx g px k).1 = g 0)
  | 0 => ⟨Nat.le_refl _, fun _ => rfl⟩
  | k + 1 => by
    obtain ⟨i1, i2⟩ := wr_n h0 k
    refine ⟨?_, fun e => by omega⟩
    show (wrS tx g k (wr tx g px k)).2.2 ≤ 2 * (k + 1) - 1
    generalize wr tx g px k = s at i1 i2
    unfold wrS
    split
    · rename_i q
      show s.2.2 + 1 + 1 ≤ _
      by_cases e : k = 0
      · have := i2 e
        omega
      · omega
    · show s.2.2 + 1 ≤ _
      omega
theorem J.split_no (h : J L tx n px n3 qx ch wh hf hb ln sw od so mb ac tg wn pa fk ds fw fe cn pg le sz fz) :
    J L tx 0 px n3 qx ch wh hf hb ln sw od so mb ac tg wn pa fk ds (chs ch wh tx n fw fe n).1 (chs ch wh tx n fw fe n).2 cn pg le sz (mgO tx le sz cn n fz n) := by
  obtain ⟨⟨a1, a2⟩, ⟨hT, hB, hl⟩, a3, a4, ⟨hM, c1, c2⟩, d, e, ⟨f1, f2, f3⟩⟩ := h
  obtain ⟨g1, g2, -⟩ := split_ok hT hM tx a1 fw fe fz f1 f2
  exact ⟨⟨Nat.zero_le _, a2⟩, ⟨hT, hB, hl⟩, a3, a4, ⟨hM, c1, c2⟩, d, e, g1, g2, mgO_le f3 (Nat.le_refl _) n⟩
theorem J.split_yes (h : J L tx n px n3 qx ch wh hf hb ln sw od so mb ac tg wn pa fk ds fw fe cn pg le sz fz) {r : Nat} (hr : (chs ch wh tx n fw fe n).1 0 = some r) :
    (wr tx (chs ch wh tx n fw fe n).2 px n).2.2 = (mgW tx le sz cn n (mgO tx le sz cn n fz n) pg n).2.2 ∧
    J L tx 0 (wr tx (chs ch wh tx n fw fe n).2 px n).2.1 (wr tx (chs ch wh tx n fw fe n).2 px n).2.2 qx ch wh hf hb ln sw od so mb ac tg wn pa fk ds (chs ch wh tx n fw fe n).1 (chs ch wh tx n fw fe n).2 cn (mgW tx le sz cn n (mgO tx le sz cn n fz n) pg n).2.1 le sz (mgO tx le sz cn n fz n) := by
  obtain ⟨⟨a1, a2⟩, ⟨hT, hB, hl⟩, a3, a4, ⟨hM, c1, c2⟩, ⟨d1, d2, d3, d4⟩, e, ⟨f1, f2, f3⟩⟩ := h
  obtain ⟨g1, g2, g3, g4, g5, g6⟩ := split_ok hT hM tx a1 fw fe fz f1 f2
  obtain ⟨k1, k2⟩ := g6 r hr px pg
  obtain ⟨q1, q2⟩ := g5 r hr
  have hw := wr_ok (px := px) (g := (chs ch wh tx n fw fe n).2) a2 d3 n
  refine ⟨k1, ⟨Nat.zero_le _, a2⟩, ⟨hT, hB, hl⟩, a3, a4, ⟨hM, c1, c2⟩, ⟨?_, k2, hw.2, mgW_lt d4 c1 n⟩, e, g1, g2, mgO_le f3 (Nat.le_refl _) n⟩
  by_cases e0 : n = 0
  · subst e0
    exact Nat.zero_le _
  · have := (wr_n (tx := tx) (px := px) (q2 (by omega)) n).1
    omega
end JS
