/-! the relation: on, off, link -/
theorem RR_fr {A I I' : jHp} (h : ∀ r, 182 ≤ r → ∀ j, I' r j = I r j) (R : RR A I) : RR A I' := RR_c (fun _ _ _ => rfl) (fun r hr _ j _ => h r hr j) R
theorem code_k {I : jHp} {x : Int32} {r j : Nat} (h : ¬ (r = 182 ∧ j = 0)) : jm_up I 182 0 x r j = I r j := by
  by_cases h1 : r = 182
  · exact up_i (by omega)
  · exact up_k h1
theorem RR_code {A I : jHp} {x : Int32} (R : RR A I) : RR A (jm_up I 182 0 x) := RR_c (fun _ _ _ => rfl) (fun r _ _ j h => code_k h) R
theorem Rel_in {N : Nat} {A J : jHp} (R : RR A J) (V : VV N A) (h : ∀ r, r < 182 → ∀ j, J r j = A r j) : Rel N J := ⟨RR_c h (fun _ _ _ _ _ => rfl) R, VV_c h V⟩
def Pair (L N wi : Nat) (was : List Value) (mi : Nat) (mas : List Value) (cv : Int32 → Int64) (I : jHp) (G : Nat → Nat → Int64) (t : Nat) : Prop :=
  ∃ (k b : Int32) (I1 I2 : jHp) (G1 : Nat → Nat → Int64) (t1 : Nat), jm_F (11, wi, 0, jm_en wi was, [], false, jS L I G t) (.inl (some (.int k))) (jS L I1 G1 t1) ∧ jm_F (11, mi, 0, jm_en mi mas, [], false, jS L I1 G1 t1) (.inl (some (.int b))) (jS L I2 G1 t1) ∧ I2 182 0 = k ∧ (k = 0 → G1 209 0 = cv b) ∧ t1 ≤ t + 1 ∧ Rel (N + 1) I2 ∧ (∀ j, I2 1 j = I 1 j) ∧ (∀ j, I1 1 j = I 1 j)
theorem Pair_ok {L N wi mi t : Nat} {was mas : List Value} {cv : Int32 → Int64} {I I1 I2 : jHp} {G : Nat → Nat → Int64} {b : Int32} {y : Int64} (h1 : jm_F (11, wi, 0, jm_en wi was, [], false, jS L I G t) (.inl (some (.int 0))) (jS L I1 (jm_up G 209 0 y) t)) (h2 : ∀ G, jm_F (11, mi, 0, jm_en mi mas, [], false, jS L I1 G t) (.inl (some (.int b))) (jS L I2 G t)) (hc : I2 182 0 = 0) (hy : y = cv b) (hR : Rel (N + 1) I2) (hs : ∀ j, I2 1 j = I 1 j) (hs1 : ∀ j, I1 1 j = I 1 j) : Pair L N wi was mi mas cv I G t :=
  ⟨0, b, I1, I2, _, t, h1, h2 _, hc, fun _ => by rw [up_s]; exact hy, by omega, hR, hs, hs1⟩
theorem Pair_no {L N wi mi t : Nat} {was mas : List Value} {cv : Int32 → Int64} {I I2 : jHp} {G : Nat → Nat → Int64} {k b : Int32} (h1 : jm_F (11, wi, 0, jm_en wi was, [], false, jS L I G t) (.inl (some (.int k))) (jS L I G (t + 1))) (h2 : ∀ t, jm_F (11, mi, 0, jm_en mi mas, [], false, jS L I G t) (.inl (some (.int b))) (jS L I2 G t)) (hc : I2 182 0 = k) (hk : ¬ k = 0) (hR : Rel N I2) (hs : ∀ j, I2 1 j = I 1 j) : Pair L N wi was mi mas cv I G t :=
  ⟨k, b, I, I2, G, t + 1, h1, h2 _, hc, fun z => absurd z hk, by omega, Rel_m hR (by omega), hs, fun _ => rfl⟩
theorem Pair_no1 {L N wi mi t : Nat} {was mas : List Value} {cv : Int32 → Int64} {I : jHp} {G : Nat → Nat → Int64} {k b : Int32} (h1 : jm_F (11, wi, 0, jm_en wi was, [], false, jS L I G t) (.inl (some (.int k))) (jS L I G (t + 1))) (h2 : ∀ t, jm_F (11, mi, 0, jm_en mi mas, [], false, jS L I G t) (.inl (some (.int b))) (jS L (jm_up I 182 0 k) G t)) (hk : ¬ k = 0) (hR : Rel N I) : Pair L N wi was mi mas cv I G t :=
  Pair_no h1 h2 up_s hk (Rel_code hR) (fun j => up_k (by omega))
theorem Pair_no2 {L N wi mi t : Nat} {was mas : List Value} {cv : Int32 → Int64} {I : jHp} {G : Nat → Nat → Int64} {k b : Int32} (h1 : jm_F (11, wi, 0, jm_en wi was, [], false, jS L I G t) (.inl (some (.int k))) (jS L I G (t + 1))) (h2 : ∀ t, jm_F (11, mi, 0, jm_en mi mas, [], false, jS L I G t) (.inl (some (.int b))) (jS L (jm_up (jm_up I 182 0 0) 182 0 k) G t)) (hk : ¬ k = 0) (hR : Rel N I) : Pair L N wi was mi mas cv I G t :=
  Pair_no1 h1 (fun t => by have := h2 t; rw [up2] at this; exact this) hk hR
def cvB (b : Int32) : Int64 := if b = 0 then 0 else 1
theorem RR_on {A I : jHp} {i : Nat} {x : Int32} (hi : i < 8) (R : RR A I) : RR (jm_up A (6 + 12 * i) 6 x) (jm_up I 183 i x) := by
  obtain ⟨r1, r2, r3, r4, r5, r6, r7, r8⟩ := R
  refine ⟨RE_c (fun _ _ _ _ _ => up_k (by omega)) (fun r h1 h2 j => up_k (by omega)) r1, ?_, RL_c (fun i hi => up_i (by omega)) (fun j => up_k (by omega)) r3, RH_c (fun i hi j => up_k (by omega)) (fun j => up_k (by omega)) r4, RC_c (fun r h1 h2 j => up_k (by omega)) (fun r h1 h2 j => up_k (by omega)) r5, RP_c (fun r h1 h2 j => up_k (by omega)) (fun r h1 h2 j => up_k (by omega)) r6, RW_c (fun i hi => up_i (by omega)) (fun i hi j => up_k (by omega)) (fun r h1 h2 j => up_k (by omega)) r7, RN_c (fun j => up_k (by omega)) (up_k (by omega)) (up_k (by omega)) (up_k (by omega)) r8⟩
  intro i' hi'
  by_cases h : i' = i
  · subst h; rw [up_s, up_s]
  · rw [up_i h, up_k (by omega)]; exact r2 i' hi'
theorem cN_up {A : jHp} {b x : Int32} {q j : Nat} (h : q < 166 ∨ 182 ≤ q) : ∀ k, k ≤ 16 → cN (jm_up A q j x) b k = cN A b k := by
  intro k
  induction k with
  | zero => intro _; rfl
  | succ k ih => intro hk; rw [cN, cN, ih (by omega), up_k (by omega), up_k (by omega)]
theorem VP_c {A A' : jHp} (h : ∀ r, 166 ≤ r → r < 182 → ∀ j, A' r j = A r j) (h2 : A' 2 4 = A 2 4) (hc : ∀ b, cN A' b 16 = cN A b 16) (V : VP A) : VP A' := by
  obtain ⟨h1, h3, h4⟩ := V
  refine ⟨fun p hp => ?_, fun p q hp hq => ?_, fun i hi => ?_⟩
  · rw [h (166 + p) (by omega) (by omega), h (166 + p) (by omega) (by omega), h (166 + p) (by omega) (by omega), h (166 + p) (by omega) (by omega), h (166 + p) (by omega) (by omega), h2]; exact h1 p hp
  · rw [h _ (by omega) (by omega), h _ (by omega) (by omega), h _ (by omega) (by omega), h _ (by omega) (by omega)]; exact h3 p q hp hq
  · rw [hc]; exact h4 i hi
theorem cN_c2 {A A' : jHp} {b : Int32} (h : ∀ r, 166 ≤ r → r < 182 → ∀ j, A' r j = A r j) : ∀ k, k ≤ 16 → cN A' b k = cN A b k := by
  intro k
  induction k with
  | zero => intro _; rfl
  | succ k ih => intro hk; rw [cN, cN, ih (by omega), h _ (by omega) (by omega), h _ (by omega) (by omega)]
theorem VE_c {B : Int} {A A' : jHp} (h : ∀ i g, i < 8 → g < 8 → ∀ j, A' (10 + 12 * i + g) j = A (10 + 12 * i + g) j) (V : VE B A) : VE B A' := by
  intro i g hi hg
  rw [show A' (10 + 12 * i + g) = A (10 + 12 * i + g) from funext (h i g hi hg)]
  exact V i g hi hg
theorem VC_c {B : Int} {A A' : jHp} (h : ∀ r, 102 ≤ r → r < 166 → ∀ j, A' r j = A r j) (V : VC B A) : VC B A' := by
  intro c hc
  obtain ⟨h1, z, hz, h2, h3⟩ := V c hc
  refine ⟨by rw [h _ (by omega) (by omega)]; exact h1, z, hz, by rw [h _ (by omega) (by omega)]; exact h2, fun k hk => ?_⟩
  rw [h _ (by omega) (by omega), h _ (by omega) (by omega), h _ (by omega) (by omega)]
  exact h3 k hk
theorem VL_c {A A' : jHp} (h : ∀ i, i < 8 → A' (6 + 12 * i) 5 = A (6 + 12 * i) 5) (V : VL A) : VL A' := by
  intro i j hi hj; rw [bLinked_c (h i hi), bLinked_c (h j hj)]; exact V i j hi hj
theorem VS_c {A A' : jHp} (h : ∀ i, i < 8 → A' (10 + 12 * i + i) 2 = A (10 + 12 * i + i) 2) (h8 : ∀ i, i < 8 → ∀ j, A' (8 + 12 * i) j = A (8 + 12 * i) j) (V : VS A) : VS A' := by
  intro i hi; rw [h i hi, h8 i hi]; exact V i hi
theorem VH_c {A A' : jHp} (h8 : ∀ i, i < 8 → ∀ j, A' (8 + 12 * i) j = A (8 + 12 * i) j) (V : VH A) : VH A' := by
  intro i j hi hj; rw [h8 i hi]; exact V i j hi hj
theorem VO_c {A A' : jHp} (h : ∀ i, i < 8 → ∀ j, (j = 0 ∨ j = 4 ∨ j = 6) → A' (6 + 12 * i) j = A (6 + 12 * i) j) (V : VO A) : VO A' := by
  intro i hi; rw [h i hi 0 (by omega), h i hi 6 (by omega), h i hi 4 (by omega)]; exact V i hi
theorem VV_on {N : Nat} {A : jHp} {i : Nat} {x : Int32} (hi : i < 8) (hx : x = 0 ∨ x = 1) (V : VV N A) : VV N (jm_up A (6 + 12 * i) 6 x) := by
  obtain ⟨v1, v2, v3, v4, v5, v6, v7, v8⟩ := V
  refine ⟨VE_c (fun _ _ _ _ _ => up_k (by omega)) v1, ?_, VS_c (fun i hi => up_k (by omega)) (fun i hi j => up_k (by omega)) v3, VL_c (fun i hi => up_i (by omega)) v4, VH_c (fun i hi j => up_k (by omega)) v5, VC_c (fun r h1 h2 j => up_k (by omega)) v6, VP_c (fun r h1 h2 j => up_k (by omega)) (up_k (by omega)) (fun b => cN_up (by omega) 16 (by omega)) v7, ?_⟩
  · intro i' hi'
    refine ⟨by rw [up_i (by omega)]; exact (v2 i' hi').1, ?_, by rw [up_i (by omega)]; exact (v2 i' hi').2.2⟩
    by_cases h : i' = i
    · subst h; rw [up_s]; exact hx
    · rw [up_k (by omega)]; exact (v2 i' hi').2.1
  · unfold VN; rw [up_k (by omega), up_k (by omega), up_k (by omega)]; exact v8
section
variable {L N t : Nat} {I : jHp} {G : Nat → Nat → Int64}
theorem op_on {x : Int32} (hR : Rel N I) : Pair L N 86 [.ref 2, .int x, .ref 209] 35 [.ref 182, .int x] cvB I G t := by
  by_cases hx : x < 0 ∨ ¬ x < 8
  · exact Pair_no1 (w_onX0 (cN_onX (d := 8) hx (by omega))) (fun t => mT_onX hx) (by decide) hR
  · obtain ⟨i, hi, rfl⟩ := nb_of hx
    refine Pair_ok (w_on (cN_on (d := 8) hi)) (fun G => mT_on hi) ?_ ?_ (Rel_in (RR_on hi (RR_code (RR_fr (fun r hr j => up_k (by omega)) hR.1))) (VV_on hi (Or.inr rfl) (VV_m hR.2 (by omega))) (fun r hr j => ?_)) (fun j => ?_) (fun j => up_k (by omega))
    · rw [up_k (by omega), up_s]
    · rw [up_k (by omega), hR.1.2.1 i hi]
      unfold cvB
      rcases (hR.2.2.1 i hi).2.1 with h | h
      · rw [h]; decide
      · rw [h]; decide
    · rw [up_k (by omega), up_k (by omega)]
    · rw [up_k (by omega), up_k (by omega), up_k (by omega)]
theorem op_off {x : Int32} (hR : Rel N I) : Pair L N 87 [.ref 2, .int x, .ref 209] 36 [.ref 182, .int x] cvB I G t := by
  by_cases hx : x < 0 ∨ ¬ x < 8
  · exact Pair_no1 (w_offX0 (cN_offX (d := 8) hx (by omega))) (fun t => mT_offX hx) (by decide) hR
  · obtain ⟨i, hi, rfl⟩ := nb_of hx
    have e1 : jm_up I (6 + 12 * i) 6 0 183 i = I (6 + 12 * i) 6 := by rw [up_k (by omega)]; exact hR.1.2.1 i hi
    refine Pair_ok (w_off (cN_off (d := 8) hi)) (fun G => mT_off hi (by rw [e1]; exact (hR.2.2.1 i hi).2.1)) ?_ ?_ (Rel_in (RR_on hi (RR_code (RR_fr (fun r hr j => up_k (by omega)) hR.1))) (VV_on hi (Or.inl rfl) (VV_m hR.2 (by omega))) (fun r hr j => ?_)) (fun j => ?_) (fun j => up_k (by omega))
    · rw [up_k (by omega), up_s]
    · rw [e1]
      unfold cvB
      rcases (hR.2.2.1 i hi).2.1 with h | h
      · rw [h]; decide
      · rw [h]; decide
    · rw [up_k (by omega), up_k (by omega)]
    · rw [up_k (by omega), up_k (by omega), up_k (by omega)]
end
