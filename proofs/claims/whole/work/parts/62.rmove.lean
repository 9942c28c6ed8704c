/-! the relation: move -/
def hit (A : jHp) (x : Int32) (q : Nat) : Prop := ¬ A (166 + q) 0 = 0 ∧ A (166 + q) 1 = x
theorem nNum_sp {A : jHp} {x : Int32} : ∀ n k, k + n = 16 → (nNum A x n k = 0 ∧ ∀ q, k ≤ q → q < 16 → ¬ hit A x q) ∨ ∃ p, k ≤ p ∧ p < 16 ∧ nNum A x n k = 166 + p ∧ hit A x p := by
  intro n
  induction n with
  | zero => intro k hk; exact Or.inl ⟨rfl, fun q h1 h2 => by omega⟩
  | succ n ih =>
    intro k hk
    rw [nNum]
    have go : ¬ hit A x k → (nNum A x n (k + 1) = 0 ∧ ∀ q, k ≤ q → q < 16 → ¬ hit A x q) ∨ ∃ p, k ≤ p ∧ p < 16 ∧ nNum A x n (k + 1) = 166 + p ∧ hit A x p := by
      intro hn
      rcases ih (k + 1) (by omega) with ⟨h1, h2⟩ | ⟨p, h1, h2, h3, h4⟩
      · refine Or.inl ⟨h1, fun q q1 q2 => ?_⟩
        by_cases e : q = k
        · subst e; exact hn
        · exact h2 q (by omega) q2
      · exact Or.inr ⟨p, by omega, h2, h3, h4⟩
    by_cases h : A (166 + k) 0 = 0
    · rw [if_pos h]; exact go (fun e => e.1 h)
    · rw [if_neg h]
      by_cases h2 : A (166 + k) 1 = x
      · rw [if_pos h2]; exact Or.inr ⟨k, by omega, by omega, rfl, h, h2⟩
      · rw [if_neg h2]; exact go (fun e => h2 e.2)
theorem mFind_sp {A I : jHp} {x : Int32} (R : RP A I) (V : VP A) : ∀ k, k ≤ 16 → (mFind I x k = -1 ∧ ∀ q, q < k → ¬ hit A x q) ∨ ∃ p, p < k ∧ mFind I x k = nI p ∧ hit A x p := by
  intro k
  induction k with
  | zero => intro _; exact Or.inl ⟨rfl, fun q h => by omega⟩
  | succ k ih =>
    intro hk
    rw [mFind]
    have go : ¬ hit A x k → (mFind I x k = -1 ∧ ∀ q, q < k + 1 → ¬ hit A x q) ∨ ∃ p, p < k + 1 ∧ mFind I x k = nI p ∧ hit A x p := by
      intro hn
      rcases ih (by omega) with ⟨h1, h2⟩ | ⟨p, h1, h2, h3⟩
      · refine Or.inl ⟨h1, fun q q1 => ?_⟩
        by_cases e : q = k
        · subst e; exact hn
        · exact h2 q (by omega)
      · exact Or.inr ⟨p, by omega, h2, h3⟩
    by_cases h : A (166 + k) 0 = 0
    · rw [if_pos ((RP_neg (by omega) R V).mpr h)]; exact go (fun e => e.1 h)
    · rw [if_neg (fun e => h ((RP_neg (by omega) R V).mp e))]
      have e1 : I 200 k = A (166 + k) 1 := by rw [(R k (by omega)).1, if_neg h]
      rw [e1]
      by_cases h2 : A (166 + k) 1 = x
      · rw [if_pos h2]; exact Or.inr ⟨k, by omega, rfl, h, h2⟩
      · rw [if_neg h2]; exact go (fun e => h2 e.2)
theorem find_eq {A I : jHp} {x : Int32} (R : RP A I) (V : VP A) : (nNum A x 16 0 = 0 ∧ mFind I x 16 = -1) ∨ ∃ p, p < 16 ∧ nNum A x 16 0 = 166 + p ∧ mFind I x 16 = nI p ∧ hit A x p := by
  rcases nNum_sp (A := A) (x := x) 16 0 rfl with ⟨h1, h2⟩ | ⟨p, _, h2, h3, h4⟩
  · rcases mFind_sp (x := x) R V 16 (by omega) with ⟨m1, _⟩ | ⟨q, m1, _, m3⟩
    · exact Or.inl ⟨h1, m1⟩
    · exact absurd m3 (h2 q (by omega) m1)
  · rcases mFind_sp (x := x) R V 16 (by omega) with ⟨_, m2⟩ | ⟨q, m1, m2, m3⟩
    · exact absurd h4 (m2 p h2)
    · have e : p = q := V.2.1 p q h2 m1 h4.1 m3.1 (h4.2.trans m3.2.symm)
      subst e
      exact Or.inr ⟨p, h2, h3, m2, h4⟩
theorem room_eq {A I : jHp} {y g : Nat} (hy : y < 8) (R : RR A I) (V : VP A) : mRoom I y g = nRoom A y g := by
  unfold mRoom nRoom
  rw [(R.2.2.2.2.2.2.1 y hy).1, mCnt_eq hy R.2.2.2.2.2.1 V 16 (by omega), nCnt_eq]
theorem may_eq {A I : jHp} {B : Int} {p a g y : Nat} (hp : p < 16) (ha : a < 8) (hg : g < 8) (hy : y < 8) (hu : ¬ A (166 + p) 0 = 0) (R : RR A I) (E : VE B A) (V : VP A) : nMay A p a g y = 0 ↔ mGoes I p a y g = 0 := by
  obtain ⟨_, _, _, q4, q5⟩ := (R.2.2.2.2.2.1 p hp).2 hu
  obtain ⟨e0, e1, _⟩ := RE_g R.1 hy hg
  have v := E y g hy hg
  have v5 := (V.1 p hp hu).2.2.2
  unfold nMay mGoes mFalls pDrawn
  rw [R.2.1 y hy, R.2.2.1 a y ha hy, e0, e1, q4, room_eq hy R V]
  by_cases h1 : A (6 + 12 * y) 6 = 0
  · rw [if_pos h1, if_pos h1]
  rw [if_neg h1, if_neg h1]
  by_cases h2 : bLinked A (6 + 12 * a) (nI y) = 0
  · rw [if_pos h2, if_pos h2]
  rw [if_neg h2, if_neg h2]
  have z : ∀ X k : Int32, (if X = 0 then (0 : Int32) else if k = 0 then 0 else 1) = 0 ↔ (if X = 0 then 0 else k) = 0 := by
    intro X k
    by_cases e0 : X = 0
    · rw [if_pos e0, if_pos e0]
    · rw [if_neg e0, if_neg e0]
      by_cases e : k = 0
      · rw [if_pos e]; exact ⟨fun _ => e, fun _ => rfl⟩
      · rw [if_neg e]; exact ⟨fun q => absurd q (by decide), fun q => absurd q e⟩
  by_cases h3 : A (10 + 12 * y + g) 0 = -1
  · rw [if_pos (show A (10 + 12 * y + g) 0 < 0 by rw [h3]; decide), if_pos (v.2.2.2.2.2.2.2 h3).1, if_pos rfl]
  rw [if_neg (fun e => h3 ((m1_iff v.1.1).mp e))]
  by_cases h4 : A (10 + 12 * y + g) 1 = -1
  · rw [if_pos h4, if_pos rfl, if_neg (by rw [h4]; decide)]
  rw [if_neg h4, if_pos (Int32.not_lt.mp (fun e => h4 ((m1_iff v.2.1.1).mp e)))]
  by_cases h5 : A (166 + p) 5 = -1
  · rw [if_pos (show A (166 + p) 5 < A (10 + 12 * y + g) 0 by
      rw [h5, Int32.lt_iff_toInt_lt, tm1]
      have a1 := v.1.1
      have a2 : ¬ (A (10 + 12 * y + g) 0).toInt = -1 := fun e => h3 (eq_i.mpr (by rw [e, tm1]))
      omega), if_pos (show A (166 + p) 5 < 0 by rw [h5]; decide)]
    exact z _ _
  rw [q5 h5]
  rw [if_neg (show ¬ A (166 + p) 5 < 0 from fun e => h5 ((m1_iff v5).mp e))]
  exact z _ _
theorem nMv_k {A : jHp} {p g y r s : Nat} (h1 : r ≠ 166 + p) (h2 : r ≠ 9 + 12 * y) (h3 : ¬ (r = 6 + 12 * y ∧ s = 4)) : nMove p g y A r s = A r s := by
  unfold nMove pGo
  split
  · by_cases e : r = 6 + 12 * y
    · rw [up_i (by omega), up_k h2, up_k h1, up_k h1, up_k h1, up_k h1]
    · rw [up_k e, up_k h2, up_k h1, up_k h1, up_k h1, up_k h1]
  · rw [up_k h1, up_k h1, up_k h1]
theorem nMv_n {A : jHp} {p g y : Nat} (h : y ≠ g) : nMove p g y A = pGo (166 + p) (nI y) (10 + 12 * y + g) A := by unfold nMove; rw [if_neg h]
theorem mMv_k {I : jHp} {p g y n r s : Nat} (h1 : (r < 200 ∨ 207 < r) ∨ (r ≤ 205 ∧ s ≠ p)) (h2 : ¬ (r = 182 ∧ s = 0)) : mMove p g y n I r s = I r s := by
  unfold mMove
  rcases h1 with h1 | h1
  · split
    · rw [up_k (by omega), up_k (by omega), up_k (by omega), up_k (by omega), up_k (by omega), up_k (by omega), code_k h2]
    · rw [up_k (by omega), up_k (by omega), up_k (by omega), code_k h2]
  · split
    · rw [up_k (by omega), up_k (by omega), up_i (by omega), up_i (by omega), up_i (by omega), up_i (by omega), code_k h2]
    · rw [up_i (by omega), up_i (by omega), up_i (by omega), code_k h2]
theorem mMv_c {I : jHp} {p g y n : Nat} : mMove p g y n I 182 0 = 0 := by
  unfold mMove
  split
  · rw [up_k (by omega), up_k (by omega), up_k (by omega), up_k (by omega), up_k (by omega), up_k (by omega), up_s]
  · rw [up_k (by omega), up_k (by omega), up_k (by omega), up_s]
theorem RR_move {A I : jHp} {p g y n : Nat} (hp : p < 16) (hg : g < 8) (hy : y < 8) (hn : n < 32 ∨ y ≠ g) (ew : A (6 + 12 * y) 4 = nI n) (hn32 : n ≤ 32) (hu : ¬ A (166 + p) 0 = 0) (R : RR A I) : RR (nMove p g y A) (mMove p g y n I) := by
  obtain ⟨r1, r2, r3, r4, r5, r6, r7, r8, r9, r10⟩ := R
  obtain ⟨e0, e1, _⟩ := RE_g r1 hy hg
  obtain ⟨p0, p1⟩ := r6 p hp
  obtain ⟨p2, p3, p4, p5, p6⟩ := p1 hu
  rw [if_neg hu] at p0
  refine ⟨RE_c (fun _ _ _ _ _ => nMv_k (by omega) (by omega) (by omega)) (fun r h1 h2 j => mMv_k (by omega) (by omega)) r1, RO_c (fun _ _ => nMv_k (by omega) (by omega) (by omega)) (fun _ => mMv_k (by omega) (by omega)) r2, RL_c (fun _ _ => nMv_k (by omega) (by omega) (by omega)) (fun _ => mMv_k (by omega) (by omega)) r3, RH_c (fun _ _ _ => nMv_k (by omega) (by omega) (by omega)) (fun _ => mMv_k (by omega) (by omega)) r4, RC_c (fun _ _ _ _ => nMv_k (by omega) (by omega) (by omega)) (fun _ _ _ _ => mMv_k (by omega) (by omega)) r5, ?_, ?_, ?_⟩
  · intro q hq
    by_cases e : q = p
    · subst e
      by_cases h : y = g
      · have a0 : nMove q g y A (166 + q) 0 = 0 := by unfold nMove; rw [if_pos h, up_k (by omega), up_k (by omega), up_s]
        have i0 : mMove q g y n I 200 q = -1 := by unfold mMove; rw [if_pos h, up_k (by omega), up_k (by omega), up_s]
        rw [a0, i0]
        exact ⟨(if_pos rfl).symm, fun h => absurd rfl h⟩
      · rw [nMv_n h]
        unfold mMove pGo
        rw [if_neg h]
        refine ⟨?_, fun _ => ⟨?_, ?_, ?_, ?_, fun _ => ?_⟩⟩
        · rw [up_k (by omega), up_k (by omega), up_k (by omega), up_k (by omega), up_i (by omega), up_i (by omega), up_i (by omega), up_i (by omega), up_i (by omega), up_i (by omega), if_neg hu]; exact p0
        · rw [up_s, up_i (by omega), up_i (by omega), up_s]
        · rw [up_k (by omega), up_k (by omega), up_k (by omega), up_k (by omega), up_i (by omega), up_i (by omega), up_i (by omega)]; exact p3
        · rw [up_k (by omega), up_k (by omega), up_k (by omega), up_k (by omega), up_i (by omega), up_i (by omega), up_i (by omega)]; exact p4
        · rw [up_k (by omega), up_k (by omega), up_s, up_i (by omega), up_s]; exact e0
        · rw [up_k (by omega), up_s, up_s]; exact e1
    · obtain ⟨q1, q2⟩ := r6 q hq
      have ka : ∀ s, nMove p g y A (166 + q) s = A (166 + q) s := fun s => nMv_k (by omega) (by omega) (by omega)
      have km : ∀ r, 200 ≤ r → r ≤ 205 → mMove p g y n I r q = I r q := fun r h1 h2 => mMv_k (by omega) (by omega)
      simp only [ka]
      rw [km 200 (by omega) (by omega), km 201 (by omega) (by omega), km 202 (by omega) (by omega), km 203 (by omega) (by omega), km 204 (by omega) (by omega), km 205 (by omega) (by omega)]
      exact ⟨q1, q2⟩
  · intro i hi
    obtain ⟨w1, w2⟩ := r7 i hi
    by_cases h : y = g
    · have nc : (A (6 + 12 * y) 4).toNatClampNeg = n := by rw [ew]; exact nc8 (by omega)
      unfold nMove mMove pGo
      rw [if_pos h, if_pos h]
      by_cases e : i = y
      · subst e
        refine ⟨?_, fun k hk => ?_⟩
        · rw [up_s, up_s, ew, nI_1]
        · rw [nc]
          by_cases e2 : k = n
          · subst e2; rw [up_k (r := 206) (by omega), up_s, up_k (r := 6 + 12 * i) (by omega), up_s]; exact p4
          · rw [up_k (r := 206) (by omega), up_i (r := 207) (by omega), up_k (by omega), up_k (by omega), up_k (by omega), up_k (by omega), up_k (by omega), up_k (r := 6 + 12 * i) (by omega), up_i (r := 9 + 12 * i) (by omega), up_k (by omega), up_k (by omega), up_k (by omega), up_k (by omega)]
            exact w2 k hk
      · refine ⟨?_, fun k hk => ?_⟩
        · rw [up_i (by omega), up_k (by omega), up_k (by omega), up_k (by omega), up_k (by omega), up_k (by omega), up_k (by omega), up_k (by omega), up_k (by omega), up_k (by omega), up_k (by omega), up_k (by omega), up_k (by omega)]
          exact w1
        · rw [up_k (by omega), up_i (by omega), up_k (by omega), up_k (by omega), up_k (by omega), up_k (by omega), up_k (by omega), up_k (by omega), up_k (by omega), up_k (by omega), up_k (by omega), up_k (by omega), up_k (by omega)]
          exact w2 k hk
    · rw [nMv_n h]
      unfold mMove pGo
      rw [if_neg h]
      refine ⟨?_, fun k hk => ?_⟩
      · rw [up_k (by omega), up_k (by omega), up_k (by omega), up_k (by omega), up_k (by omega), up_k (by omega), up_k (by omega)]; exact w1
      · rw [up_k (by omega), up_k (by omega), up_k (by omega), up_k (by omega), up_k (by omega), up_k (by omega), up_k (by omega)]; exact w2 k hk
  · refine ⟨?_, ?_, ?_⟩
    · rw [mMv_k (by omega) (by omega), nMv_k (by omega) (by omega) (by omega)]; exact r8
    · rw [mMv_k (by omega) (by omega), nMv_k (by omega) (by omega) (by omega)]; exact r9
    · rw [mMv_k (by omega) (by omega), nMv_k (by omega) (by omega) (by omega)]; exact r10
theorem VV_move {N : Nat} {A : jHp} {p g y n : Nat} (hp : p < 16) (hg : g < 8) (hy : y < 8) (hn : n < 32 ∨ y ≠ g) (ew : A (6 + 12 * y) 4 = nI n) (hu : ¬ A (166 + p) 0 = 0) (hr : y ≠ g → cN A (nI y) 16 < 4) (V : VV N A) : VV N (nMove p g y A) := by
  obtain ⟨v1, v2, v3, v4, v5, v6, v7, v8⟩ := V
  have k24 : nMove p g y A 2 4 = A 2 4 := nMv_k (by omega) (by omega) (by omega)
  have ka : ∀ q s, q ≠ p → nMove p g y A (166 + q) s = A (166 + q) s := fun q s h => nMv_k (by omega) (by omega) (by omega)
  have kp : ∀ s, s = 1 ∨ s = 3 → nMove p g y A (166 + p) s = A (166 + p) s := by
    intro s hs
    unfold nMove pGo
    split
    · rw [up_k (by omega), up_k (by omega), up_i (by omega), up_i (by omega), up_i (by omega), up_i (by omega)]
    · rw [up_i (by omega), up_i (by omega), up_i (by omega)]
  refine ⟨VE_c (fun _ _ _ _ _ => nMv_k (by omega) (by omega) (by omega)) v1, ?_, VS_c (fun _ _ => nMv_k (by omega) (by omega) (by omega)) (fun _ _ _ => nMv_k (by omega) (by omega) (by omega)) v3, VL_c (fun _ _ => nMv_k (by omega) (by omega) (by omega)) v4, VH_c (fun _ _ _ => nMv_k (by omega) (by omega) (by omega)) v5, VC_c (fun _ _ _ _ => nMv_k (by omega) (by omega) (by omega)) v6, ⟨?_, ?_, ?_⟩, ?_⟩
  · intro i hi
    obtain ⟨o1, o2, o3⟩ := v2 i hi
    refine ⟨by rw [nMv_k (by omega) (by omega) (by omega)]; exact o1, by rw [nMv_k (by omega) (by omega) (by omega)]; exact o2, ?_⟩
    by_cases e : i = y
    · subst e
      by_cases h : i = g
      · refine ⟨n + 1, by omega, ?_⟩
        unfold nMove; rw [if_pos h, up_s, ew, nI_1]
      · obtain ⟨m, hm, e2⟩ := o3
        refine ⟨m, hm, ?_⟩
        rw [nMv_n h]; unfold pGo; rw [up_k (by omega), up_k (by omega), up_k (by omega)]; exact e2
    · obtain ⟨m, hm, e2⟩ := o3
      exact ⟨m, hm, by rw [nMv_k (by omega) (by omega) (by omega)]; exact e2⟩
  · intro q hq
    by_cases e : q = p
    · subst e
      intro h0
      by_cases h : y = g
      · refine absurd ?_ h0
        unfold nMove; rw [if_pos h, up_k (by omega), up_k (by omega), up_s]
      · obtain ⟨h1, h2, h3, h4⟩ := v7.1 q hq hu
        rw [kp 1 (Or.inl rfl), kp 3 (Or.inr rfl), k24]
        refine ⟨⟨y, hy, ?_⟩, h2, h3, ?_⟩
        · rw [nMv_n h]; unfold pGo; rw [up_i (by omega), up_i (by omega), up_s]
        · rw [nMv_n h]; unfold pGo; rw [up_i (by omega), up_s]; exact (v1 y g hy hg).1.1
    · simp only [ka q _ e, k24]
      exact v7.1 q hq
  · intro q q' hq hq'
    have k1 : ∀ a, a < 16 → nMove p g y A (166 + a) 1 = A (166 + a) 1 := by
      intro a ha
      by_cases e : a = p
      · subst e; exact kp 1 (Or.inl rfl)
      · exact ka a 1 e
    have k0 : ∀ a, a < 16 → ¬ nMove p g y A (166 + a) 0 = 0 → ¬ A (166 + a) 0 = 0 := by
      intro a ha h
      by_cases e : a = p
      · subst e; exact hu
      · rw [ka a 0 e] at h; exact h
    rw [k1 q hq, k1 q' hq']
    intro h1 h2 h3
    exact v7.2.1 q q' hq hq' (k0 q hq h1) (k0 q' hq' h2) h3
  · intro b hb
    have c1 := cN_one (A := A) (A' := nMove p g y A) (b := nI b) (p := p) (fun q hq h => funext (fun s => ka q s h)) 16 (by omega)
    rw [if_pos hp, if_pos hp] at c1
    have c3 := v7.2.2 b hb
    by_cases h : y = g
    · have : cf (nMove p g y A) (nI b) p = 0 := by
        unfold cf
        rw [if_pos]
        unfold nMove; rw [if_pos h, up_k (by omega), up_k (by omega), up_s]
      omega
    · by_cases e : b = y
      · subst e
        have := cf_le (A := nMove p g b A) (b := nI b) (p := p)
        have := hr h
        omega
      · have : cf (nMove p g y A) (nI b) p = 0 := by
          unfold cf
          rw [show nMove p g y A (166 + p) 2 = nI y by rw [nMv_n h]; unfold pGo; rw [up_i (by omega), up_i (by omega), up_s]]
          split
          · rfl
          · rw [if_neg (fun q => e ((nI_eq (by omega) (by omega)).mp q).symm)]
        omega
  · unfold VN
    rw [nMv_k (by omega) (by omega) (by omega), nMv_k (by omega) (by omega) (by omega), k24]; exact v8
section
variable {L N t : Nat} {I : jHp} {G : Nat → Nat → Int64}
theorem op_move {x : Int32} (hR : Rel N I) : Pair L N 96 [.ref 2, .int x, .ref 209] 54 [.ref 182, .int x] Int32.toInt64 I G t := by
  have rp := hR.1.2.2.2.2.2.1
  have vp := hR.2.2.2.2.2.2.2.1
  rcases find_eq (x := x) rp vp with ⟨h1, h2⟩ | ⟨p, hp, h1, h2, hu, _⟩
  · exact Pair_no1 (w_moveX0 (cN_moveX (d := 9) h1 (by omega))) (fun t => mC_moveX h2) (by decide) hR
  obtain ⟨⟨a, ha, ea⟩, ⟨g, hg, eg⟩, _⟩ := vp.1 p hp hu
  obtain ⟨p2, p3, _⟩ := (rp p hp).2 hu
  have ea' : I 201 p = nI a := by rw [p2]; exact ea
  have eg' : I 202 p = nI g := by rw [p3]; exact eg
  have eo : I 183 a = I (6 + 12 * a) 6 := hR.1.2.1 a ha
  by_cases ho : I (6 + 12 * a) 6 = 0
  · exact Pair_no1 (w_moveX1 (cN_moveY (d := 9) hp ha ea h1 ho (by omega))) (fun t => mC_moveY hp ha h2 ea' (by rw [eo]; exact ho)) (by decide) hR
  have ho' : ¬ I 183 a = 0 := by rw [eo]; exact ho
  have en : I 188 (8 * a + g) = I (10 + 12 * a + g) 2 := (RE_g hR.1.1 ha hg).2.2.1
  by_cases hy : I (10 + 12 * a + g) 2 = -1 ∨ ∃ y, y < 8 ∧ I (10 + 12 * a + g) 2 = nI y ∧ nMay I p a g y = 0
  · refine Pair_q (w_move (cN_moveN (d := 7) hp ha hg ea eg h1 ho hy)) (fun G => mC_moveN (d := 9) hp ha hg h2 ea' eg' ho' ?_) rfl hR
    rw [en]
    rcases hy with h | ⟨y, y1, y2, y3⟩
    · exact Or.inl (by rw [h]; decide)
    · exact Or.inr ⟨y, y1, y2, (may_eq hp ha hg y1 hu hR.1 hR.2.1 vp).mp y3⟩
  · rcases (hR.2.1 a g ha hg).2.2.1 with h | ⟨y, y1, y2⟩
    · exact absurd (Or.inl h) hy
    have hm : ¬ nMay I p a g y = 0 := fun e => hy (Or.inr ⟨y, y1, y2, e⟩)
    obtain ⟨es, _, n, hn32, ew⟩ := hR.2.2.1 y y1
    have hroom : ¬ nRoom I y g = 0 := by
      intro e
      apply hm
      unfold nMay
      rw [if_pos e]
      split
      · rfl
      · split
        · rfl
        · split <;> rfl
    have hn : n < 32 ∨ y ≠ g := by
      by_cases e : y = g
      · left
        refine Classical.byContradiction fun q => hroom ?_
        unfold nRoom
        rw [if_pos e, ew, if_pos (show (32 : Int32) ≤ nI n from nI_le (a := 32) (by omega) (by omega))]
      · exact Or.inr e
    have hr : y ≠ g → cN I (nI y) 16 < 4 := by
      intro e
      refine Classical.byContradiction fun q => hroom ?_
      have := vp.2.2 y y1
      unfold nRoom
      rw [if_neg e, nCnt_eq, if_pos (show (4 : Int32) ≤ nI (cN I (nI y) 16) from nI_le (a := 4) (by omega) (by omega))]
    have ke : ∀ r s, 182 ≤ r → nMove p g y I r s = I r s := fun r s h => nMv_k (by omega) (by omega) (by omega)
    have eI : ∀ r, 182 ≤ r → nMove p g y I r = I r := fun r h => funext (fun s => ke r s h)
    have eF : ∀ k, mFind (nMove p g y I) x k = mFind I x k := by
      intro k
      induction k with
      | zero => rfl
      | succ k ih => rw [mFind, mFind, ih, ke 200 k (by omega)]
    have eC : ∀ b k, mCnt (nMove p g y I) b k = mCnt I b k := by
      intro b k
      induction k with
      | zero => rfl
      | succ k ih => rw [mCnt, mCnt, ih, ke 200 k (by omega), ke 201 k (by omega)]
    have eM : mGoes (nMove p g y I) p a y g = mGoes I p a y g := by
      unfold mGoes mFalls mRoom
      rw [eC, eI 183 (by omega), eI 184 (by omega), eI 186 (by omega), eI 187 (by omega), eI 204 (by omega), eI 205 (by omega), eI 206 (by omega)]
    refine Pair_ok (I1 := nMove p g y I) (w_move (cN_move (d := 7) hp ha hg y1 hn32 ea eg h1 ho y2 hm es ew)) (fun G => mC_move (d := 9) hp ha hg y1 hn (by rw [eF]; exact h2) (by rw [eI 201 (by omega)]; exact ea') (by rw [eI 202 (by omega)]; exact eg') (by rw [eI 183 (by omega)]; exact ho') (by rw [eI 188 (by omega), en]; exact y2) (by rw [eM]; exact fun e => hm ((may_eq hp ha hg y1 hu hR.1 hR.2.1 vp).mpr e)) (by rw [eI 206 (by omega), (hR.1.2.2.2.2.2.2.1 y y1).1]; exact ew)) mMv_c rfl (Rel_in (RR_move hp hg y1 hn ew hn32 hu (RR_fr (fun r hr j => ke r j hr) hR.1)) (VV_m (VV_move hp hg y1 hn ew hu hr hR.2) (by omega)) (fun r hr s => mMv_k (by omega) (by omega))) (fun s => ?_) (fun s => nMv_k (by omega) (by omega) (by omega))
    rw [mMv_k (by omega) (by omega), nMv_k (by omega) (by omega) (by omega)]
end
