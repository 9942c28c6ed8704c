/-! the relation: cast -/
theorem eSh_v {A : jHp} {q : Nat} : eShow q A q 0 = A q 0 ∧ eShow q A q 1 = A q 1 ∧ eShow q A q 2 = A q 2 ∧ eShow q A q 3 = A q 0 ∧ eShow q A q 4 = A q 1 ∧ eShow q A q 7 = 0 ∧ eShow q A q 8 = 1 := by
  unfold eShow
  refine ⟨?_, ?_, ?_, ?_, ?_, ?_, ?_⟩
  · rw [up_i (by omega), up_i (by omega), up_i (by omega), up_i (by omega)]
  · rw [up_i (by omega), up_i (by omega), up_i (by omega), up_i (by omega)]
  · rw [up_i (by omega), up_i (by omega), up_i (by omega), up_i (by omega)]
  · rw [up_i (by omega), up_i (by omega), up_i (by omega), up_s]
  · rw [up_i (by omega), up_i (by omega), up_s]
  · rw [up_i (by omega), up_s]
  · rw [up_s]
/-- an entry that is shown -/
theorem Vent_show {B : Int} {A : jHp} {q : Nat} (h0 : iv (A q 0) 0 B) (h1 : iv (A q 1) (-1) 15) (h2 : A q 2 = -1 ∨ ∃ n, n < 8 ∧ A q 2 = nI n) : Vent B (eShow q A q) := by
  obtain ⟨e0, e1, e2, e3, e4, e7, e8⟩ := eSh_v (A := A) (q := q)
  have hn : ¬ A q 0 = -1 := fun e => by
    have := h0.1
    rw [e, tm1] at this; omega
  unfold Vent
  rw [e0, e1, e2, e3, e4, e7, e8]
  exact ⟨⟨by have := h0.1; omega, h0.2⟩, h1, h2, ⟨by have := h0.1; omega, h0.2⟩, h1, fun e => absurd e hn, fun _ => hn, fun e => absurd e hn⟩
theorem VE_at {B : Int} {A A' : jHp} {i g : Nat} (h : ∀ i' g', i' < 8 → g' < 8 → 10 + 12 * i' + g' ≠ 10 + 12 * i + g → A' (10 + 12 * i' + g') = A (10 + 12 * i' + g')) (hV : Vent B (A' (10 + 12 * i + g))) (V : VE B A) : VE B A' := by
  intro i' g' hi' hg'
  by_cases e : 10 + 12 * i' + g' = 10 + 12 * i + g
  · rw [e]; exact hV
  · rw [h i' g' hi' hg' e]; exact V i' g' hi' hg'
theorem Vent_8 {B : Int} {A : jHp} {q : Nat} (V : Vent B (A q)) : Vent B (jm_up A q 8 0 q) := by
  unfold Vent
  rw [up_s, up_i (by omega), up_i (by omega), up_i (by omega), up_i (by omega), up_i (by omega), up_i (by omega)]
  obtain ⟨h0, h1, h2, h3, h4, h5, _, h7⟩ := V
  exact ⟨h0, h1, h2, h3, h4, h5, fun e => absurd rfl e, h7⟩
theorem RC_add {A I : jHp} {c n : Nat} {x y z w : Int32} (hc : c < 16) (hn : n < 8) (R : RC A I) : RC (jm_up (jm_up (jm_up (jm_up A (103 + 4 * c) n x) (104 + 4 * c) n y) (105 + 4 * c) n z) (102 + 4 * c) 4 w) (jm_up (jm_up (jm_up (jm_up I 197 (8 * c + n) x) 198 (8 * c + n) y) 199 (8 * c + n) z) 196 c w) := by
  intro c' hc'
  obtain ⟨r1, r2, r3⟩ := R c' hc'
  refine ⟨?_, ?_, fun s k hs hk => ?_⟩
  · rw [up_k (by omega), up_k (by omega), up_k (by omega), up_k (by omega), up_i (by omega), up_k (by omega), up_k (by omega), up_k (by omega)]; exact r1
  · by_cases e : c' = c
    · subst e; rw [up_s, up_s]
    · rw [up_i (by omega), up_k (by omega), up_k (by omega), up_k (by omega), up_k (by omega), up_k (by omega), up_k (by omega), up_k (by omega)]; exact r2
  · rw [up_k (r := 196) (by omega), up_k (r := 102 + 4 * c) (by omega)]
    have r := r3 s k hs hk
    match s, hs, r with
    | 0, _, r =>
      rw [up_k (r := 199) (by omega), up_k (r := 198) (by omega), up_k (r := 105 + 4 * c) (by omega), up_k (r := 104 + 4 * c) (by omega)]
      by_cases e : c' = c ∧ k = n
      · obtain ⟨rfl, rfl⟩ := e
        rw [show 197 + 0 = 197 from rfl, show 103 + 0 + 4 * c' = 103 + 4 * c' from rfl, up_s, up_s]
      · rw [up_i (r := 197) (by omega)]
        by_cases e2 : c' = c
        · rw [up_i (r := 103 + 4 * c) (by omega)]; exact r
        · rw [up_k (r := 103 + 4 * c) (by omega)]; exact r
    | 1, _, r =>
      rw [up_k (r := 199) (by omega), up_k (r := 105 + 4 * c) (by omega)]
      by_cases e : c' = c ∧ k = n
      · obtain ⟨rfl, rfl⟩ := e
        rw [show 197 + 1 = 198 from rfl, show 103 + 1 + 4 * c' = 104 + 4 * c' from rfl, up_s, up_s]
      · rw [up_i (r := 198) (by omega), up_k (r := 197) (by omega)]
        by_cases e2 : c' = c
        · rw [up_i (r := 104 + 4 * c) (by omega), up_k (r := 103 + 4 * c) (by omega)]; exact r
        · rw [up_k (r := 104 + 4 * c) (by omega), up_k (r := 103 + 4 * c) (by omega)]; exact r
    | 2, _, r =>
      by_cases e : c' = c ∧ k = n
      · obtain ⟨rfl, rfl⟩ := e
        rw [show 197 + 2 = 199 from rfl, show 103 + 2 + 4 * c' = 105 + 4 * c' from rfl, up_s, up_s]
      · rw [up_i (r := 199) (by omega), up_k (r := 198) (by omega), up_k (r := 197) (by omega)]
        by_cases e2 : c' = c
        · rw [up_i (r := 105 + 4 * c) (by omega), up_k (r := 104 + 4 * c) (by omega), up_k (r := 103 + 4 * c) (by omega)]; exact r
        · rw [up_k (r := 105 + 4 * c) (by omega), up_k (r := 104 + 4 * c) (by omega), up_k (r := 103 + 4 * c) (by omega)]; exact r
theorem VC_add {A : jHp} {B : Int} {c n g : Nat} {y z : Int32} (hc : c < 16) (hn : n < 8) (hg : g < 8) (hy : iv y 0 B) (hz : iv z (-1) 15) (en : A (102 + 4 * c) 4 = nI n) (V : VC B A) : VC B (jm_up (jm_up (jm_up (jm_up A (103 + 4 * c) n (nI g)) (104 + 4 * c) n y) (105 + 4 * c) n z) (102 + 4 * c) 4 (nI (n + 1))) := by
  intro c' hc'
  obtain ⟨h1, z', hz', h2, h3⟩ := V c' hc'
  refine ⟨by rw [up_i (by omega), up_k (by omega), up_k (by omega), up_k (by omega)]; exact h1, ?_⟩
  by_cases e : c' = c
  · subst e
    have ez : z' = n := by rw [h2] at en; exact (nI_eq (by omega) (by omega)).mp en
    subst ez
    refine ⟨z' + 1, by omega, up_s, fun k hk => ?_⟩
    rw [up_k (r := 102 + 4 * c') (by omega), up_k (r := 102 + 4 * c') (by omega), up_k (r := 102 + 4 * c') (by omega), up_k (r := 105 + 4 * c') (by omega), up_k (r := 104 + 4 * c') (by omega), up_k (r := 105 + 4 * c') (by omega)]
    by_cases e : k = z'
    · subst e
      rw [up_s, up_s, up_s]
      exact ⟨⟨g, hg, rfl⟩, hy, hz⟩
    · rw [up_i (by omega), up_i (by omega), up_k (by omega), up_i (by omega), up_k (by omega), up_k (by omega)]
      exact h3 k (by omega)
  · refine ⟨z', hz', ?_, fun k hk => ?_⟩
    · rw [up_k (by omega), up_k (by omega), up_k (by omega), up_k (by omega)]; exact h2
    · have hk : ∀ r s, 102 + 4 * c' ≤ r → r ≤ 105 + 4 * c' → jm_up (jm_up (jm_up (jm_up A (103 + 4 * c) n (nI g)) (104 + 4 * c) n y) (105 + 4 * c) n z) (102 + 4 * c) 4 (nI (n + 1)) r s = A r s := fun r s h1 h2 => by rw [up_k (by omega), up_k (by omega), up_k (by omega), up_k (by omega)]
      rw [hk _ _ (by omega) (by omega), hk _ _ (by omega) (by omega), hk _ _ (by omega) (by omega)]
      exact h3 k (by assumption)
/-- the filling of a cast -/
theorem fill_ok {B : Int} {c i : Nat} {full : Int32} (hc : c < 16) (hi : i < 8) : ∀ r g n (A I : jHp), g + r = 8 → n ≤ g → RE A I → RC A I → VE B A → VC B A → A (102 + 4 * c) 4 = nI n → RE (nFill c i full r g n A) (mFill c i full r g n I) ∧ RC (nFill c i full r g n A) (mFill c i full r g n I) ∧ VE B (nFill c i full r g n A) ∧ VC B (nFill c i full r g n A) := by
  intro r
  induction r with
  | zero => intro g n A I _ _ h1 h2 h3 h4 _; exact ⟨h1, h2, h3, h4⟩
  | succ r ih =>
    intro g n A I hg hn h1 h2 h3 h4 h5
    have g8 : g < 8 := by omega
    obtain ⟨_, _, _, e3, e4, _, _, _, e8⟩ := RE_g h1 hi g8
    have v := h3 i g hi g8
    rw [nFill, mFill, e3, e8]
    have cond : (A (10 + 12 * i + g) 8 = 0 ∧ (full = 0 ∨ A (10 + 12 * i + g) 3 = -1)) ↔ (A (10 + 12 * i + g) 3 < 0 ∨ (full = 0 ∧ A (10 + 12 * i + g) 8 = 0)) := by
      rw [m1_iff v.2.2.2.1.1]
      constructor
      · rintro ⟨a, b | b⟩
        · exact Or.inr ⟨b, a⟩
        · exact Or.inl b
      · rintro (a | ⟨a, b⟩)
        · exact ⟨Classical.byContradiction fun e => v.2.2.2.2.2.2.1 e a, Or.inr a⟩
        · exact ⟨b, Or.inl a⟩
    have skip : ∀ (n : Nat) (A I : jHp), n ≤ g + 1 → RE A I → RC A I → VE B A → VC B A → A (102 + 4 * c) 4 = nI n → RE (nFill c i full r (g + 1) n (jm_up A (10 + 12 * i + g) 8 0)) (mFill c i full r (g + 1) n (jm_up I 191 (8 * i + g) 0)) ∧ RC (nFill c i full r (g + 1) n (jm_up A (10 + 12 * i + g) 8 0)) (mFill c i full r (g + 1) n (jm_up I 191 (8 * i + g) 0)) ∧ VE B (nFill c i full r (g + 1) n (jm_up A (10 + 12 * i + g) 8 0)) ∧ VC B (nFill c i full r (g + 1) n (jm_up A (10 + 12 * i + g) 8 0)) := by
      intro n A I hn h1 h2 h3 h4 h5
      refine ih (g + 1) n _ _ (by omega) hn (RE_up h1 hi g8 (s := 8) (by omega)) (RC_c (fun r a b j => up_k (by omega)) (fun r a b j => up_k (by omega)) h2) (VE_at (fun i' g' _ _ e => funext fun s => up_k e) (Vent_8 (h3 i g hi g8)) h3) (VC_c (fun r a b j => up_k (by omega)) h4) ?_
      rw [up_k (by omega)]; exact h5
    by_cases hs : A (10 + 12 * i + g) 8 = 0 ∧ (full = 0 ∨ A (10 + 12 * i + g) 3 = -1)
    · rw [if_pos hs, if_pos (cond.mp hs)]
      exact skip n A I (by omega) h1 h2 h3 h4 h5
    · rw [if_neg hs, if_neg (fun e => hs (cond.mpr e))]
      have sh : ¬ A (10 + 12 * i + g) 3 = -1 := fun e => hs (cond.mpr (Or.inl ((m1_iff v.2.2.2.1.1).mpr e)))
      refine skip (n + 1) _ _ (by omega) ?_ ?_ ?_ ?_ ?_
      · unfold fAdd mAdd
        exact RE_c (fun _ _ _ _ _ => by rw [up_k (by omega), up_k (by omega), up_k (by omega), up_k (by omega)]) (fun _ _ _ _ => by rw [up_k (by omega), up_k (by omega), up_k (by omega), up_k (by omega)]) h1
      · unfold fAdd mAdd
        rw [e3, e4]
        exact RC_add hc (by omega) h2
      · unfold fAdd
        exact VE_c (fun _ _ _ _ _ => by rw [up_k (by omega), up_k (by omega), up_k (by omega), up_k (by omega)]) h3
      · unfold fAdd
        refine VC_add hc (by omega) g8 ⟨?_, v.2.2.2.1.2⟩ v.2.2.2.2.1 h5 h4
        have a1 := v.2.2.2.1.1
        have a2 : ¬ (A (10 + 12 * i + g) 3).toInt = -1 := fun e => sh (eq_i.mpr (by rw [e, tm1]))
        omega
      · unfold fAdd; rw [up_s]
theorem nFill_r {c i : Nat} {full : Int32} {q j : Nat} (h : q < 102 + 4 * c ∨ 105 + 4 * c < q) (h2 : j ≠ 8 ∨ ∀ g, g < 8 → q ≠ 10 + 12 * i + g) : ∀ r g n A, g + r = 8 → nFill c i full r g n A q j = A q j := by
  intro r
  induction r with
  | zero => intro g n A _; rfl
  | succ r ih =>
    intro g n A hg
    rw [nFill]
    have k8 : ∀ A : jHp, jm_up A (10 + 12 * i + g) 8 0 q j = A q j := by
      intro A
      rcases h2 with h2 | h2
      · exact up_i h2
      · exact up_k (h2 g (by omega))
    split
    · rw [ih _ _ _ (by omega), k8]
    · rw [ih _ _ _ (by omega), k8]
      unfold fAdd
      rw [up_k (by omega), up_k (by omega), up_k (by omega), up_k (by omega)]
/-- before the filling: an own entry that is renewed for a full cast -/
def cPre (i : Nat) (full : Int32) (A : jHp) : jHp := if full = 0 then A else eRenew (10 + 12 * i + i) A
def mPre (i : Nat) (full : Int32) (I : jHp) : jHp := if full = 0 then jm_up I 182 0 0 else mShow (9 * i) (jm_up (jm_up I 182 0 0) 186 (9 * i) (I 186 (9 * i) + 2))
theorem RE_pre {A I : jHp} {i : Nat} {full : Int32} (hi : i < 8) (R : RE A I) : RE (cPre i full A) (mPre i full I) := by
  have R1 : RE A (jm_up I 182 0 0) := RE_c (fun _ _ _ _ _ => rfl) (fun r a b j => up_k (by omega)) R
  unfold cPre mPre
  split
  · exact R1
  · unfold eRenew
    rw [show 9 * i = 8 * i + i by omega, (RE_g R hi hi).1]
    exact RE_show (RE_up R1 hi hi (s := 0) (by omega)) hi hi
theorem VE_pre {N : Nat} {A : jHp} {i : Nat} {full : Int32} (hN : N ≤ 512) (hi : i < 8) (V : VE (16 * N) A) : VE (16 * ((N + 1 : Nat) : Int)) (cPre i full A) := by
  have V1 : VE (16 * ((N + 1 : Nat) : Int)) A := fun i g hi hg => Vent_m (V i g hi hg) (by omega)
  unfold cPre
  split
  · exact V1
  · unfold eRenew
    have v := V i i hi hi
    have t2 := ti2 v.1.1 (by have := v.1.2; omega)
    refine VE_at (fun i' g' _ _ e => funext fun s => by rw [eShow_r e, up_k e]) (Vent_show ?_ ?_ ?_) V1
    · rw [up_s]
      have := v.1.1
      have := v.1.2
      exact ⟨by rw [t2]; omega, by rw [t2]; omega⟩
    · rw [up_i (by omega)]; exact v.2.1
    · rw [up_i (by omega)]; exact v.2.2.1
theorem cPre_r {A : jHp} {i r s : Nat} {full : Int32} (h : r ≠ 10 + 12 * i + i) : cPre i full A r s = A r s := by
  unfold cPre
  split
  · rfl
  · exact eRenew_r h
theorem cPre_2 {A : jHp} {i r : Nat} {full : Int32} : cPre i full A r 2 = A r 2 := by
  unfold cPre
  split
  · rfl
  · unfold eRenew
    by_cases e : r = 10 + 12 * i + i
    · subst e; rw [eSh_v.2.2.1, up_i (by omega)]
    · rw [eShow_r e, up_k e]
theorem mPre_r {I : jHp} {i r s : Nat} {full : Int32} (h : r < 186 ∨ 194 < r) (h2 : ¬ (r = 182 ∧ s = 0)) : mPre i full I r s = I r s := by
  unfold mPre
  split
  · exact code_k h2
  · rw [mShow_r h, up_k (by omega), code_k h2]
theorem mPre_c {I : jHp} {i : Nat} {full : Int32} : mPre i full I 182 0 = 0 := by
  unfold mPre
  split
  · exact up_s
  · rw [mShow_r (by omega), up_k (by omega), up_s]
section
variable {L N t : Nat} {I : jHp} {G : Nat → Nat → Int64}
theorem Rel_cast {A I : jHp} {i k : Nat} {full : Int32} (hN : N ≤ 512) (hi : i < 8) (hk : k ≤ N) (R : RR A I) (V : VV N A) : RR (nCast i k full A) (mCast i k full I) ∧ VV (N + 1) (nCast i k full A) := by
  have hc : k % 16 < 16 := by omega
  obtain ⟨r1, r2, r3, r4, r5, r6, r7, r8⟩ := R
  obtain ⟨v1, v2, v3, v4, v5, v6, v7, v8⟩ := V
  have VC1 : VC (16 * ((N + 1 : Nat) : Int)) A := (VV_m (N' := N + 1) ⟨v1, v2, v3, v4, v5, v6, v7, v8⟩ (by omega)).2.2.2.2.2.1
  have en : nCast i k full A = nFill (k % 16) i full 8 0 0 (jm_up (jm_up (jm_up (cPre i full A) 2 3 (nI (k + 1))) (102 + 4 * (k % 16)) 3 (nI i)) (102 + 4 * (k % 16)) 4 0) := rfl
  have em : mCast i k full I = jm_up (mFill (k % 16) i full 8 0 0 (jm_up (jm_up (mPre i full I) 195 (k % 16) (nI i)) 196 (k % 16) 0)) 182 14 (nI (k + 1)) := rfl
  rw [en, em]
  generalize eA : jm_up (jm_up (jm_up (cPre i full A) 2 3 (nI (k + 1))) (102 + 4 * (k % 16)) 3 (nI i)) (102 + 4 * (k % 16)) 4 0 = A1
  generalize eI : jm_up (jm_up (mPre i full I) 195 (k % 16) (nI i)) 196 (k % 16) 0 = I1
  have a1 : ∀ r s, r ≠ 2 → r ≠ 102 + 4 * (k % 16) → A1 r s = cPre i full A r s := fun r s h1 h2 => by rw [← eA, up_k h2, up_k h2, up_k h1]
  have i1 : ∀ r s, r ≠ 195 → r ≠ 196 → I1 r s = mPre i full I r s := fun r s h1 h2 => by rw [← eI, up_k h2, up_k h1]
  have RE1 : RE A1 I1 := RE_c (fun _ _ _ _ _ => a1 _ _ (by omega) (by omega)) (fun _ _ _ _ => i1 _ _ (by omega) (by omega)) (RE_pre hi r1)
  have RC0 : RC (cPre i full A) (mPre i full I) := RC_c (fun _ _ _ _ => cPre_r (by omega)) (fun _ _ _ _ => mPre_r (by omega) (by omega)) r5
  have RC1 : RC A1 I1 := by
    intro c' hc'
    obtain ⟨q1, q2, q3⟩ := RC0 c' hc'
    refine ⟨?_, ?_, fun s j hs hj => ?_⟩
    · rw [← eA, ← eI, up_k (r := 196) (by omega), up_i (j := 4) (by omega)]
      by_cases e : c' = k % 16
      · rw [e, up_s, up_s]
      · rw [up_i e, up_k (by omega), up_k (by omega)]; exact q1
    · rw [← eA, ← eI]
      by_cases e : c' = k % 16
      · rw [e, up_s, up_s]
      · rw [up_i e, up_k (by omega), up_k (by omega), up_k (by omega), up_k (by omega)]; exact q2
    · rw [i1 _ _ (by omega) (by omega), a1 _ _ (by omega) (by omega)]; exact q3 s j hs hj
  have VE1 : VE (16 * ((N + 1 : Nat) : Int)) A1 := VE_c (fun _ _ _ _ _ => a1 _ _ (by omega) (by omega)) (VE_pre hN hi v1)
  have VC2 : VC (16 * ((N + 1 : Nat) : Int)) A1 := by
    have VC0 : VC (16 * ((N + 1 : Nat) : Int)) (cPre i full A) := VC_c (fun _ _ _ _ => cPre_r (by omega)) VC1
    intro c' hc'
    obtain ⟨q1, z, hz, q2, q3⟩ := VC0 c' hc'
    by_cases e : c' = k % 16
    · refine ⟨⟨i, hi, ?_⟩, 0, by omega, ?_, fun k hk => by omega⟩
      · rw [← eA, e, up_i (by omega), up_s]
      · rw [← eA, e, up_s]; rfl
    · have kk : ∀ r s, 102 + 4 * c' ≤ r → r ≤ 105 + 4 * c' → A1 r s = cPre i full A r s := fun r s h1 h2 => a1 r s (by omega) (by omega)
      refine ⟨by rw [kk _ _ (by omega) (by omega)]; exact q1, z, hz, by rw [kk _ _ (by omega) (by omega)]; exact q2, fun j hj => ?_⟩
      rw [kk _ _ (by omega) (by omega), kk _ _ (by omega) (by omega), kk _ _ (by omega) (by omega)]
      exact q3 j hj
  obtain ⟨f1, f2, f3, f4⟩ := fill_ok (full := full) hc hi 8 0 0 A1 I1 rfl (by omega) RE1 RC1 VE1 VC2 (by rw [← eA, up_s]; rfl)
  have fa : ∀ r s, (r < 102 ∨ 165 < r) → (∀ g, g < 8 → r ≠ 10 + 12 * i + g) → ¬ (r = 2 ∧ s = 3) → nFill (k % 16) i full 8 0 0 A1 r s = A r s := by
    intro r s h1 h2 h3
    rw [nFill_r (by omega) (Or.inr h2) 8 0 0 A1 rfl, ← eA, up_k (by omega), up_k (by omega)]
    have hr : cPre i full A r s = A r s := cPre_r (h2 i hi)
    by_cases e : r = 2
    · rw [up_i (by omega)]; exact hr
    · rw [up_k e]; exact hr
  have fi : ∀ r s, (r < 186 ∨ 199 < r) → ¬ (r = 182 ∧ (s = 0 ∨ s = 14)) → jm_up (mFill (k % 16) i full 8 0 0 I1) 182 14 (nI (k + 1)) r s = I r s := by
    intro r s h1 h2
    have : jm_up (mFill (k % 16) i full 8 0 0 I1) 182 14 (nI (k + 1)) r s = mFill (k % 16) i full 8 0 0 I1 r s := by
      by_cases e : r = 182
      · exact up_i (by omega)
      · exact up_k e
    rw [this, mFill_r (by omega) (by omega), i1 _ _ (by omega) (by omega), mPre_r (by omega) (by omega)]
  have e23 : nFill (k % 16) i full 8 0 0 A1 2 3 = nI (k + 1) := by rw [nFill_r (by omega) (Or.inl (by omega)) 8 0 0 A1 rfl, ← eA, up_k (by omega), up_k (by omega), up_s]
  have b2 : ∀ i', i' < 8 → nFill (k % 16) i full 8 0 0 A1 (10 + 12 * i' + i') 2 = A (10 + 12 * i' + i') 2 := by
    intro i' h
    rw [nFill_r (by omega) (Or.inl (by omega)) 8 0 0 A1 rfl, a1 _ _ (by omega) (by omega), cPre_2]
  refine ⟨⟨RE_c (fun _ _ _ _ _ => rfl) (fun _ _ _ _ => up_k (by omega)) f1, RO_c (fun _ _ => fa _ _ (by omega) (by omega) (by omega)) (fun _ => fi _ _ (by omega) (by omega)) r2, RL_c (fun _ _ => fa _ _ (by omega) (by omega) (by omega)) (fun _ => fi _ _ (by omega) (by omega)) r3, RH_c (fun _ _ _ => fa _ _ (by omega) (by omega) (by omega)) (fun _ => fi _ _ (by omega) (by omega)) r4, RC_c (fun _ _ _ _ => rfl) (fun _ _ _ _ => up_k (by omega)) f2, RP_c (fun _ _ _ _ => fa _ _ (by omega) (by omega) (by omega)) (fun _ _ _ _ => fi _ _ (by omega) (by omega)) r6, RW_c (fun _ _ => fa _ _ (by omega) (by omega) (by omega)) (fun _ _ _ => fa _ _ (by omega) (by omega) (by omega)) (fun _ _ _ _ => fi _ _ (by omega) (by omega)) r7, ⟨?_, ?_, ?_⟩⟩, ⟨f3, VO_c (fun _ _ _ _ => fa _ _ (by omega) (by omega) (by omega)) v2, VS_c b2 (fun _ _ _ => fa _ _ (by omega) (by omega) (by omega)) v3, VL_c (fun _ _ => fa _ _ (by omega) (by omega) (by omega)) v4, VH_c (fun _ _ _ => fa _ _ (by omega) (by omega) (by omega)) v5, f4, VP_c (fun _ _ _ _ => fa _ _ (by omega) (by omega) (by omega)) (fa _ _ (by omega) (by omega) (by omega)) (fun b => cN_c2 (fun _ _ _ _ => fa _ _ (by omega) (by omega) (by omega)) 16 (by omega)) v7, ?_⟩⟩
  · rw [fi _ _ (by omega) (by omega), fa _ _ (by omega) (by omega) (by omega)]; exact r8.1
  · rw [up_s, e23]
  · rw [fi _ _ (by omega) (by omega), fa _ _ (by omega) (by omega) (by omega)]; exact r8.2.2
  · obtain ⟨⟨t, ht, e1⟩, _, p, hp, e3⟩ := v8
    exact ⟨⟨t, by omega, by rw [fa _ _ (by omega) (by omega) (by omega)]; exact e1⟩, ⟨k + 1, by omega, e23⟩, p, by omega, by rw [fa _ _ (by omega) (by omega) (by omega)]; exact e3⟩
theorem nCast_r {A : jHp} {i k r s : Nat} {full : Int32} (hi : i < 8) (h : r < 2 ∨ 182 ≤ r) : nCast i k full A r s = A r s := by
  have en : nCast i k full A = nFill (k % 16) i full 8 0 0 (jm_up (jm_up (jm_up (cPre i full A) 2 3 (nI (k + 1))) (102 + 4 * (k % 16)) 3 (nI i)) (102 + 4 * (k % 16)) 4 0) := rfl
  rw [en, nFill_r (by omega) (Or.inr (by omega)) 8 0 0 _ rfl, up_k (by omega), up_k (by omega), up_k (by omega), cPre_r (by omega)]
theorem mCast_r {I : jHp} {i k r s : Nat} {full : Int32} (h : r < 182) : mCast i k full I r s = I r s := by
  have em : mCast i k full I = jm_up (mFill (k % 16) i full 8 0 0 (jm_up (jm_up (mPre i full I) 195 (k % 16) (nI i)) 196 (k % 16) 0)) 182 14 (nI (k + 1)) := rfl
  rw [em, up_k (by omega), mFill_r (by omega) (by omega), up_k (by omega), up_k (by omega), mPre_r (by omega) (by omega)]
theorem mCast_c {I : jHp} {i k : Nat} {full : Int32} : mCast i k full I 182 0 = 0 := by
  have em : mCast i k full I = jm_up (mFill (k % 16) i full 8 0 0 (jm_up (jm_up (mPre i full I) 195 (k % 16) (nI i)) 196 (k % 16) 0)) 182 14 (nI (k + 1)) := rfl
  rw [em, up_i (by omega), mFill_r (by omega) (by omega), up_k (by omega), up_k (by omega), mPre_c]
theorem op_cast {x full : Int32} (hN : N ≤ 512) (hR : Rel N I) : Pair L N 89 [.ref 2, .int x, .int full, .ref 209] 39 [.ref 182, .int x, .int full] Int32.toInt64 I G t := by
  by_cases hx : x < 0 ∨ ¬ x < 8
  · exact Pair_no1 (w_castX0 (cN_castX (d := 9) hx (by omega))) (fun t => mC_castX hx) (by decide) hR
  obtain ⟨i, hi, rfl⟩ := nb_of hx
  have eo : I 183 i = I (6 + 12 * i) 6 := hR.1.2.1 i hi
  by_cases ho : I (6 + 12 * i) 6 = 0
  · exact Pair_no1 (w_castX1 (cN_castY (d := 9) hi ho (by omega))) (fun t => mC_castY hi (by rw [eo]; exact ho)) (by decide) hR
  obtain ⟨_, ⟨k, hk, ek⟩, _⟩ := hR.2.2.2.2.2.2.2.2
  have ke : ∀ r s, 182 ≤ r → nCast i k full I r s = I r s := fun r s h => nCast_r hi (by omega)
  obtain ⟨q1, q2⟩ := Rel_cast (full := full) hN hi hk (RR_fr (I' := nCast i k full I) (fun r hr j => ke r j hr) hR.1) hR.2
  refine Pair_ok (I1 := nCast i k full I) (w_cast (cN_cast (d := 8) hi (by omega) ek ho)) (fun G => mC_cast (d := 10) hi (by omega) (by rw [ke 182 14 (by omega), hR.1.2.2.2.2.2.2.2.2.1]; exact ek) (by rw [ke 183 i (by omega), eo]; exact ho)) mCast_c rfl (Rel_in q1 q2 (fun r hr s => mCast_r hr)) (fun s => ?_) (fun s => nCast_r hi (by omega))
  rw [mCast_r (by omega), nCast_r hi (by omega)]
end
