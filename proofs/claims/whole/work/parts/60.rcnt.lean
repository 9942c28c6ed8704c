/-! the relation: waiting, parts, entry, circle -/
theorem RP_neg {A I : jHp} {p : Nat} (hp : p < 16) (R : RP A I) (V : VP A) : I 200 p < 0 ↔ A (166 + p) 0 = 0 := by
  rw [(R p hp).1]
  constructor
  · intro h
    refine Classical.byContradiction fun e => ?_
    obtain ⟨n, m, h1, h2, h3, _⟩ := (V.1 p hp e).2.2.1
    rw [if_neg e, h3] at h
    exact absurd h (nI_pos (by omega))
  · intro h; rw [if_pos h]; decide
theorem nCnt_eq {A : jHp} {b : Int32} : ∀ k, nCnt A b k = nI (cN A b k) := by
  intro k
  induction k with
  | zero => rfl
  | succ k ih =>
    rw [nCnt, cN, ih]
    by_cases h : A (166 + k) 0 = 0
    · rw [if_pos h, if_pos h]; rfl
    · rw [if_neg h, if_neg h]
      by_cases h2 : A (166 + k) 2 = b
      · rw [if_pos h2, if_pos h2, nI_succ]
      · rw [if_neg h2, if_neg h2]; rfl
theorem mCnt_eq {A I : jHp} {i : Nat} (hi : i < 8) (R : RP A I) (V : VP A) : ∀ k, k ≤ 16 → mCnt I (nI i) k = nI (cN A (nI i) k) := by
  intro k
  induction k with
  | zero => intro _; rfl
  | succ k ih =>
    intro hk
    rw [mCnt, cN, ih (by omega), if_neg (show ¬ nI i < 0 from nin0 (by omega))]
    by_cases h : A (166 + k) 0 = 0
    · rw [if_pos ((RP_neg (by omega) R V).mpr h), if_pos h]; exact Int32.add_zero _
    · rw [if_neg (fun e => h ((RP_neg (by omega) R V).mp e)), if_neg h, ((R k (by omega)).2 h).1]
      by_cases h2 : A (166 + k) 2 = nI i
      · rw [if_pos h2, if_pos h2, nI_succ]
      · rw [if_neg h2, if_neg h2]; exact Int32.add_zero _
theorem cast_iff {A I : jHp} {x : Int32} (R : RN A I) : mIsCast I x = 0 ↔ x < 0 ∨ A 2 3 ≤ x ∨ ¬ A 2 3 - 16 ≤ x := by
  unfold mIsCast
  rw [R.2.1]
  constructor
  · intro h
    by_cases h1 : x < 0
    · exact Or.inl h1
    · by_cases h2 : A 2 3 ≤ x
      · exact Or.inr (Or.inl h2)
      · rw [if_neg h1, if_neg h2] at h
        by_cases h3 : x < A 2 3 - 16
        · exact Or.inr (Or.inr (Int32.not_le.mpr h3))
        · rw [if_neg h3] at h; exact absurd h (by decide)
  · intro h
    by_cases h1 : x < 0
    · rw [if_pos h1]
    · by_cases h2 : A 2 3 ≤ x
      · rw [if_neg h1, if_pos h2]
      · rw [if_neg h1, if_neg h2, if_pos]
        rcases h with h | h | h
        · exact absurd h h1
        · exact absurd h h2
        · exact Int32.not_le.mp h
/-- a kept cast's number -/
theorem cast_of {N : Nat} {A : jHp} {x : Int32} (hN : N ≤ 512) (V : VN N A) (h : ¬ (x < 0 ∨ A 2 3 ≤ x ∨ ¬ A 2 3 - 16 ≤ x)) : ∃ c, c < 2 ^ 30 ∧ x = nI c ∧ ¬ nI c < 0 ∧ ¬ A 2 3 ≤ nI c ∧ A 2 3 - 16 ≤ nI c := by
  obtain ⟨_, ⟨c0, hc0, e⟩, _⟩ := V
  have h1 : ¬ x < 0 := fun q => h (Or.inl q)
  have h2 : ¬ A 2 3 ≤ x := fun q => h (Or.inr (Or.inl q))
  have h3 : A 2 3 - 16 ≤ x := Classical.byContradiction fun q => h (Or.inr (Or.inr q))
  have q1 := h1
  have q2 := h2
  rw [Int32.lt_iff_toInt_lt, t0] at q1
  rw [e, Int32.le_iff_toInt_le, nI_toInt (by omega)] at q2
  have ec : x.toNatClampNeg = x.toInt.toNat := rfl
  have ex : x = nI x.toNatClampNeg := by
    apply Int32.toInt_inj.mp
    rw [nI_toInt (by omega), ec]; omega
  exact ⟨x.toNatClampNeg, by omega, ex, by rw [← ex]; exact h1, by rw [← ex]; exact h2, by rw [← ex]; exact h3⟩
theorem parts_eq {A I : jHp} {c : Nat} {B : Int} (hc : c < 16) (R : RC A I) (V : VC B A) : mParts I c = cParts A (102 + 4 * c) := by
  unfold mParts cParts
  obtain ⟨_, z, hz, e, _⟩ := V c hc
  rw [(R c hc).2.1, e]
  have : nI z + 2 = nI z + 3 - 1 := by
    rw [show nI z + 3 = nI z + 2 + 1 from (Int32.add_assoc (nI z) 2 1).symm, Int32.add_sub_cancel]
  rw [this]
theorem cParts_n {A : jHp} {q z : Nat} (e : A q 4 = nI z) (hz : z ≤ 8) : cParts A q = nI (if z = 0 then 1 else (z + 2) / 3) := by
  unfold cParts
  rw [e]
  revert z
  intro z e hz
  clear e
  match z, hz with
  | 0, _ => rfl
  | 1, _ => decide
  | 2, _ => decide
  | 3, _ => decide
  | 4, _ => decide
  | 5, _ => decide
  | 6, _ => decide
  | 7, _ => decide
  | 8, _ => decide
theorem part_iff {A I : jHp} {c : Nat} {p : Int32} {B : Int} (R : RC A I) (V : VC B A) : mIsPart I c p = 0 ↔ p < 0 ∨ ¬ p < cParts A (102 + 4 * (c % 16)) := by
  unfold mIsPart
  rw [parts_eq (by omega) R V]
  constructor
  · intro h
    by_cases h1 : p < 0
    · exact Or.inl h1
    · rw [if_neg h1] at h
      by_cases h2 : cParts A (102 + 4 * (c % 16)) ≤ p
      · exact Or.inr (Int32.not_lt.mpr h2)
      · rw [if_neg h2] at h; exact absurd h (by decide)
  · intro h
    by_cases h1 : p < 0
    · rw [if_pos h1]
    · rw [if_neg h1, if_pos]
      rcases h with h | h
      · exact absurd h h1
      · exact Int32.not_lt.mp h
theorem nn_of {x : Int32} {n : Nat} (hn : n < 2 ^ 31) (h1 : ¬ x < 0) (h2 : x < nI n) : ∃ k, k < n ∧ x = nI k := by
  rw [Int32.lt_iff_toInt_lt, t0] at h1
  rw [Int32.lt_iff_toInt_lt, nI_toInt hn] at h2
  have ec : x.toNatClampNeg = x.toInt.toNat := rfl
  refine ⟨x.toNatClampNeg, by omega, ?_⟩
  apply Int32.toInt_inj.mp
  rw [nI_toInt (by omega), ec]; omega
/-- a part of a kept cast -/
theorem part_of {A : jHp} {c : Nat} {p : Int32} {B : Int} (hc : c < 16) (V : VC B A) (h : ¬ (p < 0 ∨ ¬ p < cParts A (102 + 4 * c))) : ∃ p' z, p = nI p' ∧ A (102 + 4 * c) 4 = nI z ∧ z ≤ 8 ∧ p' * 3 ≤ z ∧ p' < 3 := by
  obtain ⟨_, z, hz, e, _⟩ := V c hc
  rw [cParts_n e hz] at h
  obtain ⟨p', h1, h2⟩ := nn_of (n := if z = 0 then 1 else (z + 2) / 3) (by split <;> omega) (fun q => h (Or.inl q)) (Classical.byContradiction fun q => h (Or.inr q))
  refine ⟨p', z, h2, e, hz, ?_, ?_⟩ <;> (split at h1 <;> omega)
section
variable {L N t : Nat} {I : jHp} {G : Nat → Nat → Int64}
theorem op_waiting {x : Int32} (hR : Rel N I) : Pair L N 97 [.ref 2, .int x, .ref 209] 55 [.ref 182, .int x] Int32.toInt64 I G t := by
  by_cases hx : x < 0 ∨ ¬ x < 8
  · exact Pair_no1 (w_waitingX0 (cN_waitingX (d := 9) hx (by omega))) (fun t => mC_waitingX hx) (by decide) hR
  · obtain ⟨i, hi, rfl⟩ := nb_of hx
    refine Pair_q (w_waiting (cN_waiting (d := 9) hi)) (fun G => mC_waiting hi) ?_ hR
    rw [nCnt_eq, mCnt_eq hi hR.1.2.2.2.2.2.1 hR.2.2.2.2.2.2.2.1 16 (by omega)]
theorem op_parts {x : Int32} (hN : N ≤ 512) (hR : Rel N I) : Pair L N 90 [.ref 2, .int x, .ref 209] 43 [.ref 182, .int x] Int32.toInt64 I G t := by
  have rn := hR.1.2.2.2.2.2.2.2
  by_cases hx : x < 0 ∨ I 2 3 ≤ x ∨ ¬ I 2 3 - 16 ≤ x
  · exact Pair_no1 (w_partsX0 (cN_partsX (d := 9) hx (by omega))) (fun t => mC_partsX ((cast_iff rn).mpr hx)) (by decide) hR
  · have hm : ¬ mIsCast I x = 0 := fun e => hx ((cast_iff rn).mp e)
    obtain ⟨c, hc, rfl, h1, h2, h3⟩ := cast_of hN hR.2.2.2.2.2.2.2.2 hx
    refine Pair_q (w_parts (cN_parts (d := 8) hc h1 h2 h3)) (fun G => mC_parts hc hm) ?_ hR
    rw [parts_eq (by omega) hR.1.2.2.2.2.1 hR.2.2.2.2.2.2.1]
theorem op_entry {x p j k : Int32} (hN : N ≤ 512) (hR : Rel N I) : Pair L N 91 [.ref 2, .int x, .int p, .int j, .int k, .ref 209] 44 [.ref 182, .int x, .int p, .int j, .int k] Int32.toInt64 I G t := by
  have rn := hR.1.2.2.2.2.2.2.2
  have rc := hR.1.2.2.2.2.1
  have vc := hR.2.2.2.2.2.2.1
  by_cases hx : x < 0 ∨ I 2 3 ≤ x ∨ ¬ I 2 3 - 16 ≤ x
  · exact Pair_no1 (w_entryX0 (cN_entY (d := 8) hx (by omega))) (fun t => mC_entX ((cast_iff rn).mpr hx)) (by decide) hR
  have hm : ¬ mIsCast I x = 0 := fun e => hx ((cast_iff rn).mp e)
  obtain ⟨c, hc, rfl, h1, h2, h3⟩ := cast_of hN hR.2.2.2.2.2.2.2.2 hx
  by_cases hp : p < 0 ∨ ¬ p < cParts I (102 + 4 * (c % 16))
  · exact Pair_no1 (w_entryX0 (cN_entX (d := 7) hc h1 h2 h3 hp (by omega))) (fun t => mC_entY hc hm (Or.inl ((part_iff rc vc).mpr hp))) (by decide) hR
  have hmp : ¬ mIsPart I c p = 0 := fun e => hp ((part_iff rc vc).mp e)
  have h4 : ¬ p < 0 := fun e => hp (Or.inl e)
  have h5 : p < cParts I (102 + 4 * (c % 16)) := Classical.byContradiction fun e => hp (Or.inr e)
  by_cases hk : k < 0 ∨ ¬ k ≤ 2
  · exact Pair_no1 (w_entryX0 (cN_entZ (d := 7) hc h1 h2 h3 h4 h5 hk (by omega))) (fun t => mC_entY hc hm (Or.inr hk)) (by decide) hR
  obtain ⟨k, hk3, rfl⟩ := nn_of (x := k) (n := 3) (by omega) (fun e => hk (Or.inl e)) (by
    have q : k ≤ 2 := Classical.byContradiction fun e => hk (Or.inr e)
    rw [Int32.le_iff_toInt_le, show (2 : Int32).toInt = 2 from rfl] at q
    rw [Int32.lt_iff_toInt_lt, nI_toInt (by omega)]; omega)
  obtain ⟨p', z, rfl, ez, hz, hpz, hp3⟩ := part_of (by omega) vc hp
  have es : cSize I (102 + 4 * (c % 16)) (nI p') = nI (min 3 (z - p' * 3)) := cSize_n hz hpz ez
  have e6 : I 196 (c % 16) = nI z := by rw [(rc (c % 16) (by omega)).2.1]; exact ez
  by_cases hj : j < 0 ∨ ¬ j < cSize I (102 + 4 * (c % 16)) (nI p')
  · refine Pair_no1 (w_entryX2 (cN_entW (d := 7) hc h1 h2 h3 h4 h5 hk3 hj (by omega))) (fun t => mC_entW hc hm hmp hk3 ?_) (by decide) hR
    by_cases j1 : j < 0
    · exact Or.inl j1
    · by_cases j2 : 2 < j
      · exact Or.inr (Or.inl j2)
      · refine Or.inr (Or.inr ?_)
        have q : ¬ j < nI (min 3 (z - p' * 3)) := by rcases hj with e | e; exact absurd e j1; rw [es] at e; exact e
        obtain ⟨j', hj', rfl⟩ := nn_of (x := j) (n := 3) (by omega) j1 (by
          rw [Int32.lt_iff_toInt_lt, show (2 : Int32).toInt = 2 from rfl] at j2
          rw [Int32.lt_iff_toInt_lt, nI_toInt (by omega)]; omega)
        rw [e6, show (3 : Int32) * nI p' = nI (3 * p') from pk_mul 3 p', nI_add]
        refine nI_nlt ?_ (by omega)
        rw [Int32.lt_iff_toInt_lt, nI_toInt (by omega), nI_toInt (by omega)] at q
        omega
  · obtain ⟨j', hj', rfl⟩ := nn_of (x := j) (n := min 3 (z - p' * 3)) (by omega) (fun e => hj (Or.inl e)) (by rw [← es]; exact Classical.byContradiction fun e => hj (Or.inr e))
    refine Pair_q (w_entry (cN_ent (m := 3 * p' + j') (d := 7) hc h1 h2 h3 h4 h5 hk3 (fun e => hj (Or.inl e)) (Classical.byContradiction fun e => hj (Or.inr e)) (by omega) ?_)) (fun G => mC_ent hc hm hmp hk3 (by omega) (by omega) (by rw [e6]; exact nI_lt (by omega) (by omega))) ?_ hR
    · rw [show nI p' * 3 = nI (p' * 3) from pk_mul p' 3, nI_add, Nat.mul_comm]
    · rw [(rc (c % 16) (by omega)).2.2 k (3 * p' + j') hk3 (by omega)]
theorem circF_eq {A J : jHp} {g s : Nat} (hg : g < 8) (hs : s < 8) (hne : s ≠ g) (R : RE A J) (hN : ∀ i, i < 8 → A (10 + 12 * i + g) 2 = -1 ∨ ∃ n, n < 8 ∧ A (10 + 12 * i + g) 2 = nI n) : ∀ r k a, a < 8 → a ≠ g → mCircF J g s r k (nI a) = nCircF A g s r k a := by
  intro r
  induction r with
  | zero => intro k a _ _; rfl
  | succ r ih =>
    intro k a ha hag
    have e2 : J 188 (8 * a + g) = A (10 + 12 * a + g) 2 := (RE_g R ha hg).2.2.1
    rw [mCircF, nCircF, if_neg (nin0 (by omega)), if_neg (fun e => hag ((nI_eq (by omega) (by omega)).mp e)), nc8 (by omega), e2]
    have z : ∀ x : Int32, (x < 0 ∨ x = nI g) → mCircF J g s r (k + 1) x = 0 := by
      intro x hx
      cases r with
      | zero => rfl
      | succ r =>
        rw [mCircF]
        by_cases h : x < 0
        · rw [if_pos h]
        · rw [if_neg h, if_pos (by rcases hx with hx | hx; exact absurd hx h; exact hx)]
    rcases hN a ha with h | ⟨n, hn, h⟩
    · rw [if_pos h, h, if_neg, z _ (Or.inl (by decide))]
      rintro ⟨e, _⟩
      have := congrArg Int32.toInt e
      rw [nI_toInt (by omega), tm1] at this
      omega
    · have qm : ¬ nI n = -1 := fun e => by
        have := congrArg Int32.toInt e
        rw [nI_toInt (by omega), tm1] at this
        omega
      rw [h, if_neg qm]
      by_cases h1 : n = g
      · subst h1
        rw [if_pos (show nI n = nI n from rfl), if_neg (fun e : nI n = nI s ∧ s ≠ n => hne ((nI_eq (by omega) (by omega)).mp e.1).symm), z _ (Or.inr rfl)]
      · rw [if_neg (show ¬ nI n = nI g from fun e => h1 ((nI_eq (by omega) (by omega)).mp e))]
        by_cases h2 : n = s
        · subst h2
          rw [if_pos (show nI n = nI n ∧ n ≠ g from ⟨rfl, hne⟩), if_pos rfl]
        · have q : ¬ nI n = nI s := fun e => h2 ((nI_eq (by omega) (by omega)).mp e)
          rw [if_neg (fun e : nI n = nI s ∧ s ≠ g => q e.1), if_neg q, nc8 (by omega)]
          exact ih (k + 1) n hn h1
theorem circF_n {A : jHp} {g s : Nat} : ∀ r k a, k + r < 1000 → nCircF A g s r k a = 0 ∨ ∃ m, k ≤ m ∧ m < 1000 ∧ nCircF A g s r k a = nI m := by
  intro r
  induction r with
  | zero => intro k a _; exact Or.inl rfl
  | succ r ih =>
    intro k a hk
    rw [nCircF]
    split
    · exact Or.inl rfl
    · split
      · exact Or.inl rfl
      · split
        · exact Or.inr ⟨k, by omega, by omega, rfl⟩
        · rcases ih (k + 1) (A (10 + 12 * a + g) 2).toNatClampNeg (by omega) with h | ⟨m, h1, h2, h3⟩
          · exact Or.inl h
          · exact Or.inr ⟨m, by omega, h2, h3⟩
theorem circ_eq {A J : jHp} {g : Nat} (hg : g < 8) (R : RE A J) (hN : ∀ i, i < 8 → A (10 + 12 * i + g) 2 = -1 ∨ ∃ n, n < 8 ∧ A (10 + 12 * i + g) 2 = nI n) : ∀ r b, b + r = 8 → mCircle J g r b = nCircle A g r b := by
  intro r
  induction r with
  | zero => intro b _; rfl
  | succ r ih =>
    intro b hb
    rw [mCircle, nCircle]
    by_cases h : b = g
    · subst h
      have : mCircF J b b 8 1 (nI b) = 0 := by rw [mCircF, if_neg (nin0 (by omega)), if_pos rfl]
      rw [if_pos rfl, this, if_pos rfl]
      exact ih _ (by omega)
    · rw [if_neg h, circF_eq hg (by omega) h R hN 8 1 b (by omega) h]
      rcases circF_n (A := A) (g := g) (s := b) 8 1 b (by omega) with e | ⟨m, h1, h2, e⟩
      · rw [e, if_pos rfl, if_pos (by decide)]; exact ih _ (by omega)
      · rw [e, if_neg (nI_ne0 (by omega) (by omega)), if_neg (show ¬ nI m ≤ 0 from nI_ge (a := 0) (by omega) (by omega))]
theorem op_circle {x : Int32} (hR : Rel N I) : Pair L N 99 [.ref 2, .int x, .ref 209] 57 [.ref 182, .int x] Int32.toInt64 I G t := by
  by_cases hx : x < 0 ∨ ¬ x < 8
  · exact Pair_no1 (w_circleX0 (cN_circX (d := 9) hx (by omega))) (fun t => mC_circX hx) (by decide) hR
  · obtain ⟨g, hg, rfl⟩ := nb_of hx
    have hN : ∀ i, i < 8 → I (10 + 12 * i + g) 2 = -1 ∨ ∃ n, n < 8 ∧ I (10 + 12 * i + g) 2 = nI n := fun i hi => (hR.2.1 i g hi hg).2.2.1
    refine Pair_q (w_circle (cN_circ (d := 9) hg hN)) (fun G => mC_circ hg (fun i hi => by rw [(RE_g hR.1.1 hi hg).2.2.1]; exact hN i hi)) ?_ hR
    rw [circ_eq hg (RR_code hR.1).1 hN 8 0 (by omega)]
end
