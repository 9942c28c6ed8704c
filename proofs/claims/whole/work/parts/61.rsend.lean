/-! the relation: send, move -/
def cf (A : jHp) (b : Int32) (p : Nat) : Nat := if A (166 + p) 0 = 0 then 0 else if A (166 + p) 2 = b then 1 else 0
theorem cN_s {A : jHp} {b : Int32} {k : Nat} : cN A b (k + 1) = cN A b k + cf A b k := rfl
theorem cN_one {A A' : jHp} {b : Int32} {p : Nat} (h : ∀ q, q < 16 → q ≠ p → A' (166 + q) = A (166 + q)) : ∀ k, k ≤ 16 → cN A' b k + (if p < k then cf A b p else 0) = cN A b k + (if p < k then cf A' b p else 0) := by
  intro k
  induction k with
  | zero => intro _; rfl
  | succ k ih =>
    intro hk
    have i1 := ih (by omega)
    rw [cN_s, cN_s]
    by_cases e : k = p
    · subst e
      rw [if_neg (by omega), if_neg (by omega)] at i1
      rw [if_pos (by omega), if_pos (by omega)]; omega
    · have e2 : cf A' b k = cf A b k := by unfold cf; rw [h k (by omega) e]
      rw [e2]
      by_cases e3 : p < k
      · rw [if_pos e3, if_pos e3] at i1
        rw [if_pos (by omega), if_pos (by omega)]; omega
      · rw [if_neg e3, if_neg e3] at i1
        rw [if_neg (by omega), if_neg (by omega)]; omega
theorem cf_le {A : jHp} {b : Int32} {p : Nat} : cf A b p ≤ 1 := by unfold cf; split; omega; split <;> omega
def cU (A : jHp) : Nat → Nat
  | 0 => 0
  | k + 1 => cU A k + (if A (166 + k) 0 = 0 then 0 else 1)
theorem cU_le {A : jHp} : ∀ k, cU A k ≤ k := by
  intro k
  induction k with
  | zero => exact Nat.le_refl 0
  | succ k ih => rw [cU]; split <;> omega
theorem cU_all {A : jHp} : ∀ k, cU A k = k ↔ ∀ q, q < k → ¬ A (166 + q) 0 = 0 := by
  intro k
  induction k with
  | zero => exact ⟨fun _ q hq => by omega, fun _ => rfl⟩
  | succ k ih =>
    rw [cU]
    have := cU_le (A := A) k
    constructor
    · intro h q hq e
      by_cases e2 : q = k
      · subst e2; rw [if_pos e] at h; omega
      · refine ih.mp ?_ q (by omega) e
        split at h <;> omega
    · intro h
      rw [if_neg (h k (by omega)), ih.mpr (fun q hq => h q (by omega))]
theorem mCnt_all {A I : jHp} (R : RP A I) (V : VP A) : ∀ k, k ≤ 16 → mCnt I (-1) k = nI (cU A k) := by
  intro k
  induction k with
  | zero => intro _; rfl
  | succ k ih =>
    intro hk
    rw [mCnt, cU, ih (by omega), if_pos (show (-1 : Int32) < 0 by decide)]
    by_cases h : A (166 + k) 0 = 0
    · rw [if_pos ((RP_neg (by omega) R V).mpr h), if_pos h]; exact Int32.add_zero _
    · rw [if_neg (fun e => h ((RP_neg (by omega) R V).mp e)), if_neg h, nI_succ]
theorem nFree_sp {A : jHp} : ∀ n k, k + n = 16 → (nFree A n k = 0 ∧ ∀ q, k ≤ q → q < 16 → ¬ A (166 + q) 0 = 0) ∨ ∃ p, k ≤ p ∧ p < 16 ∧ nFree A n k = 166 + p ∧ A (166 + p) 0 = 0 ∧ ∀ q, k ≤ q → q < p → ¬ A (166 + q) 0 = 0 := by
  intro n
  induction n with
  | zero => intro k hk; exact Or.inl ⟨rfl, fun q h1 h2 => by omega⟩
  | succ n ih =>
    intro k hk
    rw [nFree]
    by_cases h : A (166 + k) 0 = 0
    · rw [if_pos h]; exact Or.inr ⟨k, by omega, by omega, rfl, h, fun q h1 h2 => by omega⟩
    · rw [if_neg h]
      rcases ih (k + 1) (by omega) with ⟨h1, h2⟩ | ⟨p, h1, h2, h3, h4, h5⟩
      · refine Or.inl ⟨h1, fun q q1 q2 => ?_⟩
        by_cases e : q = k
        · subst e; exact h
        · exact h2 q (by omega) q2
      · refine Or.inr ⟨p, by omega, h2, h3, h4, fun q q1 q2 => ?_⟩
        by_cases e : q = k
        · subst e; exact h
        · exact h5 q (by omega) q2
theorem pS_k {A : jHp} {q r s : Nat} {n a g x : Int32} (h : r ≠ q) : pStart q n a g x A r s = A r s := by
  unfold pStart; rw [up_k h, up_k h, up_k h, up_k h, up_k h, up_k h]
theorem pS_v {A : jHp} {q : Nat} {n a g x : Int32} : pStart q n a g x A q 0 = 1 ∧ pStart q n a g x A q 1 = n ∧ pStart q n a g x A q 2 = a ∧ pStart q n a g x A q 3 = g ∧ pStart q n a g x A q 4 = x ∧ pStart q n a g x A q 5 = -1 := by
  unfold pStart
  refine ⟨?_, ?_, ?_, ?_, ?_, ?_⟩
  · rw [up_i (by omega), up_i (by omega), up_i (by omega), up_i (by omega), up_i (by omega), up_s]
  · rw [up_i (by omega), up_i (by omega), up_i (by omega), up_i (by omega), up_s]
  · rw [up_i (by omega), up_i (by omega), up_i (by omega), up_s]
  · rw [up_i (by omega), up_i (by omega), up_s]
  · rw [up_i (by omega), up_s]
  · rw [up_s]
theorem mS_k {I : jHp} {p r s : Nat} {i j z : Int32} (h : r ≠ 182 ∧ (r < 200 ∨ 204 < r) ∨ (r ≠ 182 ∧ s ≠ p) ∨ (r = 182 ∧ s ≠ 0 ∧ s ≠ 20)) : mSend p i j z I r s = I r s := by
  unfold mSend
  rcases h with h | h | h
  · rw [up_k (by omega), up_k (by omega), up_k (by omega), up_k (by omega), up_k (by omega), up_k (by omega), up_k (by omega)]
  · rw [up_k (by omega), up_i (by omega), up_i (by omega), up_i (by omega), up_i (by omega), up_i (by omega), up_k (by omega)]
  · rw [up_i (by omega), up_k (by omega), up_k (by omega), up_k (by omega), up_k (by omega), up_k (by omega), up_i (by omega)]
theorem mS_v {I : jHp} {p : Nat} {i j z : Int32} : mSend p i j z I 200 p = I 182 20 ∧ mSend p i j z I 201 p = i ∧ mSend p i j z I 202 p = j ∧ mSend p i j z I 203 p = z ∧ mSend p i j z I 204 p = -1 ∧ mSend p i j z I 182 20 = I 182 20 + 1 ∧ mSend p i j z I 182 0 = 0 := by
  unfold mSend
  refine ⟨?_, ?_, ?_, ?_, ?_, ?_, ?_⟩
  · rw [up_k (by omega), up_k (by omega), up_k (by omega), up_k (by omega), up_k (by omega), up_s]
  · rw [up_k (by omega), up_k (by omega), up_k (by omega), up_k (by omega), up_s]
  · rw [up_k (by omega), up_k (by omega), up_k (by omega), up_s]
  · rw [up_k (by omega), up_k (by omega), up_s]
  · rw [up_k (by omega), up_s]
  · rw [up_s]
  · rw [up_i (by omega), up_k (by omega), up_k (by omega), up_k (by omega), up_k (by omega), up_k (by omega), up_s]
def nSend (p : Nat) (i j z : Int32) (A : jHp) : jHp := pStart (166 + p) (A 2 4) i j z (jm_up A 2 4 (A 2 4 + 1))
theorem nS_k {A : jHp} {p r s : Nat} {i j z : Int32} (h : r ≠ 166 + p) (h2 : ¬ (r = 2 ∧ s = 4)) : nSend p i j z A r s = A r s := by
  unfold nSend; rw [pS_k h]
  by_cases e : r = 2
  · exact up_i (by omega)
  · exact up_k e
theorem nS_24 {A : jHp} {p : Nat} {i j z : Int32} : nSend p i j z A 2 4 = A 2 4 + 1 := by unfold nSend; rw [pS_k (by omega), up_s]
theorem RR_send {A I : jHp} {p : Nat} {i j z : Int32} (hp : p < 16) (R : RR A I) : RR (nSend p i j z A) (mSend p i j z I) := by
  obtain ⟨r1, r2, r3, r4, r5, r6, r7, r8, r9, r10⟩ := R
  obtain ⟨a0, a1, a2, a3, a4, a5⟩ := pS_v (A := jm_up A 2 4 (A 2 4 + 1)) (q := 166 + p) (n := A 2 4) (a := i) (g := j) (x := z)
  obtain ⟨m0, m1, m2, m3, m4, m5, m6⟩ := mS_v (I := I) (p := p) (i := i) (j := j) (z := z)
  refine ⟨RE_c (fun _ _ _ _ _ => nS_k (by omega) (by omega)) (fun r h1 h2 j => mS_k (by omega)) r1, RO_c (fun _ _ => nS_k (by omega) (by omega)) (fun _ => mS_k (by omega)) r2, RL_c (fun _ _ => nS_k (by omega) (by omega)) (fun _ => mS_k (by omega)) r3, RH_c (fun _ _ _ => nS_k (by omega) (by omega)) (fun _ => mS_k (by omega)) r4, RC_c (fun _ _ _ _ => nS_k (by omega) (by omega)) (fun _ _ _ _ => mS_k (by omega)) r5, ?_, RW_c (fun _ _ => nS_k (by omega) (by omega)) (fun _ _ _ => nS_k (by omega) (by omega)) (fun _ _ _ _ => mS_k (by omega)) r7, ?_⟩
  · intro q hq
    by_cases e : q = p
    · subst e
      refine ⟨?_, fun _ => ⟨?_, ?_, ?_, ?_, fun h => ?_⟩⟩
      · rw [m0, show nSend q i j z A (166 + q) 0 = 1 from a0, if_neg (by decide), show nSend q i j z A (166 + q) 1 = A 2 4 from a1]; exact r10
      · rw [m1]; exact a2.symm
      · rw [m2]; exact a3.symm
      · rw [m3]; exact a4.symm
      · rw [m4]; exact a5.symm
      · exact absurd a5 h
    · obtain ⟨q1, q2⟩ := r6 q hq
      have ka : ∀ s, nSend p i j z A (166 + q) s = A (166 + q) s := fun s => nS_k (by omega) (by omega)
      have km : ∀ r, 200 ≤ r → r ≤ 205 → mSend p i j z I r q = I r q := fun r h1 h2 => mS_k (by omega)
      simp only [ka]
      rw [km 200 (by omega) (by omega), km 201 (by omega) (by omega), km 202 (by omega) (by omega), km 203 (by omega) (by omega), km 204 (by omega) (by omega), km 205 (by omega) (by omega)]
      exact ⟨q1, q2⟩
  · refine ⟨?_, ?_, ?_⟩
    · rw [mS_k (by omega), nS_k (by omega) (by omega)]; exact r8
    · rw [mS_k (by omega), nS_k (by omega) (by omega)]; exact r9
    · rw [m5, nS_24, r10]
theorem VV_send {N : Nat} {A : jHp} {p i j : Nat} {z : Int32} (hN : N ≤ 512) (hp : p < 16) (hi : i < 8) (hj : j < 8) (hf : A (166 + p) 0 = 0) (h4 : cN A (nI i) 16 < 4) (V : VV N A) : VV (N + 1) (nSend p (nI i) (nI j) z A) := by
  have V' := VV_m V (N' := N + 1) (by omega)
  obtain ⟨v1, v2, v3, v4, v5, v6, _, _⟩ := V'
  obtain ⟨_, _, _, _, _, _, v7, v8⟩ := V
  obtain ⟨⟨t, ht, e1⟩, ⟨c, hc, e2⟩, m0, hm0, e3⟩ := v8
  obtain ⟨a0, a1, a2, a3, a4, a5⟩ := pS_v (A := jm_up A 2 4 (A 2 4 + 1)) (q := 166 + p) (n := A 2 4) (a := nI i) (g := nI j) (x := z)
  have ka : ∀ q s, q ≠ p → nSend p (nI i) (nI j) z A (166 + q) s = A (166 + q) s := fun q s h => nS_k (by omega) (by omega)
  have e4 : nSend p (nI i) (nI j) z A 2 4 = nI (m0 + 1) := by rw [nS_24, e3, nI_1]
  refine ⟨VE_c (fun _ _ _ _ _ => nS_k (by omega) (by omega)) v1, VO_c (fun _ _ _ _ => nS_k (by omega) (by omega)) v2, VS_c (fun _ _ => nS_k (by omega) (by omega)) (fun _ _ _ => nS_k (by omega) (by omega)) v3, VL_c (fun _ _ => nS_k (by omega) (by omega)) v4, VH_c (fun _ _ _ => nS_k (by omega) (by omega)) v5, VC_c (fun _ _ _ _ => nS_k (by omega) (by omega)) v6, ⟨?_, ?_, ?_⟩, ?_⟩
  · intro q hq
    by_cases e : q = p
    · subst e
      intro _
      refine ⟨⟨i, hi, a2⟩, ⟨j, hj, a3⟩, ⟨m0, m0 + 1, by omega, by omega, ?_, e4⟩, ?_⟩
      · rw [← e3]; exact a1
      · rw [show nSend q (nI i) (nI j) z A (166 + q) 5 = -1 from a5, tm1]; omega
    · simp only [ka q _ e]
      intro h
      obtain ⟨h1, h2, ⟨n, m, h3, h5, h6, h7⟩, h8⟩ := v7.1 q hq h
      refine ⟨h1, h2, ⟨n, m0 + 1, ?_, by omega, h6, e4⟩, h8⟩
      rw [e3] at h7
      have := (nI_eq (by omega) (by omega)).mp h7
      omega
  · have lt : ∀ q, q < 16 → ¬ A (166 + q) 0 = 0 → ¬ A (166 + q) 1 = A 2 4 := by
      intro q hq h e
      obtain ⟨_, _, ⟨n, m, h3, h5, h6, h7⟩, _⟩ := v7.1 q hq h
      rw [h6, h7] at e
      have := (nI_eq (by omega) (by omega)).mp e
      omega
    intro q q' hq hq'
    by_cases e : q = p
    · by_cases e' : q' = p
      · intro _ _ _; omega
      · subst e
        simp only [ka q' _ e']
        intro _ h2 h3
        exact absurd (h3.symm.trans a1) (lt q' hq' h2)
    · by_cases e' : q' = p
      · subst e'
        simp only [ka q _ e]
        intro h1 _ h3
        exact absurd (h3.trans a1) (lt q hq h1)
      · simp only [ka q _ e, ka q' _ e']
        exact v7.2.1 q q' hq hq'
  · intro b hb
    have c1 := cN_one (A := A) (A' := nSend p (nI i) (nI j) z A) (b := nI b) (p := p) (fun q hq h => funext (fun s => ka q s h)) 16 (by omega)
    rw [if_pos hp, if_pos hp] at c1
    have c2 : cf A (nI b) p = 0 := by unfold cf; rw [if_pos hf]
    have c3 := v7.2.2 b hb
    by_cases e : b = i
    · subst e
      have := cf_le (A := nSend p (nI b) (nI j) z A) (b := nI b) (p := p)
      omega
    · have c4 : cf (nSend p (nI i) (nI j) z A) (nI b) p = 0 := by
        unfold cf
        rw [show nSend p (nI i) (nI j) z A (166 + p) 2 = nI i from a2]
        split
        · rfl
        · rw [if_neg (fun h => e ((nI_eq (by omega) (by omega)).mp h).symm)]
      omega
  · exact ⟨⟨t, by omega, by rw [nS_k (by omega) (by omega)]; exact e1⟩, ⟨c, by omega, by rw [nS_k (by omega) (by omega)]; exact e2⟩, m0 + 1, by omega, e4⟩
section
variable {L N t : Nat} {I : jHp} {G : Nat → Nat → Int64}
theorem op_send {x y z : Int32} (hN : N ≤ 512) (hR : Rel N I) : Pair L N 95 [.ref 2, .int x, .int y, .int z, .ref 209] 52 [.ref 182, .int x, .int y, .int z] Int32.toInt64 I G t := by
  by_cases h : (x < 0 ∨ ¬ x < 8) ∨ (y < 0 ∨ ¬ y < 8) ∨ x = y
  · exact Pair_no1 (w_sendX0 (cN_sendX (d := 8) h (by omega))) (fun t => mC_sendX h) (by decide) hR
  obtain ⟨i, hi, rfl⟩ := nb_of (fun e => h (Or.inl e))
  obtain ⟨j, hj, rfl⟩ := nb_of (fun e => h (Or.inr (Or.inl e)))
  have hne : i ≠ j := fun e => h (Or.inr (Or.inr (by rw [e])))
  have rp := hR.1.2.2.2.2.2.1
  have vp := hR.2.2.2.2.2.2.2.1
  have q1 : I 183 i = I (6 + 12 * i) 6 := hR.1.2.1 i hi
  have q2 : I 186 (8 * i + j) < 0 ↔ I (10 + 12 * i + j) 0 = -1 := by rw [(RE_g hR.1.1 hi hj).1]; exact m1_iff (hR.2.1 i j hi hj).1.1
  have q3 : mCnt I (nI i) 16 = nI (cN I (nI i) 16) := mCnt_eq hi rp vp 16 (by omega)
  have q4 : nCnt I (nI i) 16 = nI (cN I (nI i) 16) := nCnt_eq 16
  have q5 := vp.2.2 i hi
  have q6 : ¬ nCnt I (nI i) 16 < 4 ↔ mCnt I (nI i) 16 = 4 := by
    rw [q3, q4]
    constructor
    · intro e
      have : ¬ cN I (nI i) 16 < 4 := fun e2 => e (nI_lt (b := 4) e2 (by decide))
      rw [show cN I (nI i) 16 = 4 by omega]; rfl
    · intro e; rw [e]; decide
  have q7 : nFree I 16 0 = 0 ↔ mCnt I (-1) 16 = 16 := by
    rw [mCnt_all rp vp 16 (by omega)]
    have le := cU_le (A := I) 16
    constructor
    · intro e
      rcases nFree_sp (A := I) 16 0 rfl with ⟨_, h2⟩ | ⟨p, _, _, h3, _⟩
      · rw [(cU_all 16).mpr (fun q hq => h2 q (by omega) hq)]; rfl
      · omega
    · intro e
      have e2 : cU I 16 = 16 := (nI_eq (b := 16) (by omega) (by omega)).mp e
      rcases nFree_sp (A := I) 16 0 rfl with ⟨h1, _⟩ | ⟨p, _, h2, h3, h4, _⟩
      · exact h1
      · exact absurd h4 ((cU_all 16).mp e2 p h2)
  by_cases hY : I (6 + 12 * i) 6 = 0 ∨ I (10 + 12 * i + j) 0 = -1 ∨ ¬ nCnt I (nI i) 16 < 4 ∨ nFree I 16 0 = 0
  · refine Pair_no2 (w_sendX1 (cN_sendY (d := 8) hi hj hne hY (by omega))) (fun t => mC_sendY hi hj hne ?_) (by decide) hR
    rcases hY with e | e | e | e
    · exact Or.inl (by rw [q1]; exact e)
    · exact Or.inr (Or.inl (q2.mpr e))
    · exact Or.inr (Or.inr (Or.inl (q6.mp e)))
    · exact Or.inr (Or.inr (Or.inr (q7.mp e)))
  · have h1 : ¬ I (6 + 12 * i) 6 = 0 := fun e => hY (Or.inl e)
    have h2 : ¬ I (10 + 12 * i + j) 0 = -1 := fun e => hY (Or.inr (Or.inl e))
    have h3 : nCnt I (nI i) 16 < 4 := Classical.byContradiction fun e => hY (Or.inr (Or.inr (Or.inl e)))
    rcases nFree_sp (A := I) 16 0 rfl with ⟨e, _⟩ | ⟨p, _, hp, hf, hf0, hfq⟩
    · exact absurd e (fun e => hY (Or.inr (Or.inr (Or.inr e))))
    have ke : ∀ r s, 182 ≤ r → nSend p (nI i) (nI j) z I r s = I r s := fun r s h => nS_k (by omega) (by omega)
    have eI : ∀ r, 182 ≤ r → nSend p (nI i) (nI j) z I r = I r := fun r h => funext (fun s => ke r s h)
    have em : ∀ b k, mCnt (nSend p (nI i) (nI j) z I) b k = mCnt I b k := by
      intro b k
      induction k with
      | zero => rfl
      | succ k ih => rw [mCnt, mCnt, ih, ke 200 k (by omega), ke 201 k (by omega)]
    have hc : cN I (nI i) 16 < 4 := by
      rw [q4, Int32.lt_iff_toInt_lt, nI_toInt (by omega), show (4 : Int32).toInt = 4 from rfl] at h3; omega
    refine Pair_ok (I1 := nSend p (nI i) (nI j) z I) (w_send (cN_send (d := 8) hi hj hne hp h1 h2 h3 hf)) (fun G => mC_send (p := p) hi hj hne (by rw [eI 183 (by omega)]; rw [q1]; exact h1) (by rw [eI 186 (by omega)]; exact fun e => h2 (q2.mp e)) (by rw [em]; exact fun e => (q6.mpr e) h3) (by rw [em]; exact fun e => hY (Or.inr (Or.inr (Or.inr (q7.mpr e))))) hp (by rw [eI 200 (by omega)]; exact (RP_neg hp rp vp).mpr hf0) (fun q hq => by rw [eI 200 (by omega)]; exact fun e => hfq q (by omega) hq ((RP_neg (by omega) rp vp).mp e))) mS_v.2.2.2.2.2.2 ?_ (Rel_in (RR_send hp (RR_fr (fun r hr j => ke r j hr) hR.1)) (VV_send hN hp hi hj hf0 hc hR.2) (fun r hr s => mS_k (by omega))) (fun s => ?_) (fun s => nS_k (by omega) (by omega))
    · rw [Int32.add_sub_cancel, eI 182 (by omega), hR.1.2.2.2.2.2.2.2.2.2]
    · rw [mS_k (by omega), nS_k (by omega) (by omega)]
end
