/-! the relation: hear -/
/-- only entries and what was heard change -/
theorem RR_eh {A A' I I' : jHp} (hA : ∀ r s, (∀ i g, i < 8 → g < 8 → r ≠ 10 + 12 * i + g) → (∀ i, i < 8 → r ≠ 8 + 12 * i) → A' r s = A r s) (hI : ∀ r s, (r < 185 ∨ 194 < r) → ¬ (r = 182 ∧ s = 0) → I' r s = I r s) (E : RE A' I') (H : RH A' I') (R : RR A I) : RR A' I' := by
  obtain ⟨r1, r2, r3, r4, r5, r6, r7, r8⟩ := R
  exact ⟨E, RO_c (fun _ _ => hA _ _ (by omega) (by omega)) (fun _ => hI _ _ (by omega) (by omega)) r2, RL_c (fun _ _ => hA _ _ (by omega) (by omega)) (fun _ => hI _ _ (by omega) (by omega)) r3, H, RC_c (fun _ _ _ _ => hA _ _ (by omega) (by omega)) (fun _ _ _ _ => hI _ _ (by omega) (by omega)) r5, RP_c (fun _ _ _ _ => hA _ _ (by omega) (by omega)) (fun _ _ _ _ => hI _ _ (by omega) (by omega)) r6, RW_c (fun _ _ => hA _ _ (by omega) (by omega)) (fun _ _ _ => hA _ _ (by omega) (by omega)) (fun _ _ _ _ => hI _ _ (by omega) (by omega)) r7, RN_c (fun _ => hA _ _ (by omega) (by omega)) (hI _ _ (by omega) (by omega)) (hI _ _ (by omega) (by omega)) (hI _ _ (by omega) (by omega)) r8⟩
theorem VV_eh {N N' : Nat} {A A' : jHp} (hN : N ≤ N') (hA : ∀ r s, (∀ i g, i < 8 → g < 8 → r ≠ 10 + 12 * i + g) → (∀ i, i < 8 → r ≠ 8 + 12 * i) → A' r s = A r s) (E : VE (16 * N') A') (S : VS A') (H : VH A') (V : VV N A) : VV N' A' := by
  obtain ⟨v1, v2, v3, v4, v5, v6, v7, v8⟩ := VV_m V hN
  refine ⟨E, VO_c (fun _ _ _ _ => hA _ _ (by omega) (by omega)) v2, S, VL_c (fun _ _ => hA _ _ (by omega) (by omega)) v4, H, VC_c (fun _ _ _ _ => hA _ _ (by omega) (by omega)) v6, VP_c (fun _ _ _ _ => hA _ _ (by omega) (by omega)) (hA _ _ (by omega) (by omega)) (fun b => cN_c2 (fun _ _ _ _ => hA _ _ (by omega) (by omega)) 16 (by omega)) v7, ?_⟩
  unfold VN; rw [hA _ _ (by omega) (by omega), hA _ _ (by omega) (by omega), hA _ _ (by omega) (by omega)]; exact v8
theorem Vent_t3 {B : Int} {A : jHp} {q : Nat} (h0 : iv (A q 0) 0 B) (h1 : iv (A q 1) (-1) 15) (h2 : A q 2 = -1 ∨ ∃ n, n < 8 ∧ A q 2 = nI n) (h3 : iv (A q 3) (-1) B) (h4 : iv (A q 4) (-1) 15) (h34 : A q 3 = -1 → A q 4 = -1) (h8 : ¬ A q 8 = 0 → ¬ A q 3 = -1) : Vent B (eT3 q A q) := by
  unfold eT3
  split
  · have hn : ¬ A q 0 = -1 := fun e => by
      have := h0.1
      rw [e, tm1] at this; omega
    unfold Vent
    rw [up_s, up_i (by omega), up_i (by omega), up_i (by omega), up_i (by omega), up_i (by omega), up_i (by omega)]
    exact ⟨⟨by have := h0.1; omega, h0.2⟩, h1, h2, h3, h4, h34, h8, fun e => absurd e hn⟩
  · exact Vent_show h0 h1 h2
theorem Vent_take {B : Int} {A : jHp} {q s : Nat} {n m now : Int32} (hs : s < 8) (hn : iv n 0 B) (hm : iv m (-1) 15) (V : Vent B (A q)) : Vent B (eTake q n m (nI s) now A q) := by
  obtain ⟨h0, h1, h2, h3, h4, h34, h8, _⟩ := V
  unfold eTake eT2
  generalize eA : (if n = A q 0 then jm_up A q 6 ((3 * A q 6 + 4 * (now - A q 5)) / 4) else if m = -1 then A else jm_up A q 5 now) = A1
  have k : ∀ j, j ≠ 5 → j ≠ 6 → A1 q j = A q j := by
    intro j h5 h6
    rw [← eA]
    split
    · exact up_i h6
    · split
      · rfl
      · exact up_i h5
  refine Vent_t3 ?_ ?_ ?_ ?_ ?_ ?_ ?_
  · rw [up_i (by omega), up_i (by omega), up_s]; exact hn
  · rw [up_i (by omega), up_s]; exact hm
  · rw [up_s]
    by_cases e : m = -1
    · exact Or.inl (if_pos e)
    · exact Or.inr ⟨s, hs, if_neg e⟩
  · rw [up_i (by omega), up_i (by omega), up_i (by omega), k 3 (by omega) (by omega)]; exact h3
  · rw [up_i (by omega), up_i (by omega), up_i (by omega), k 4 (by omega) (by omega)]; exact h4
  · rw [up_i (by omega), up_i (by omega), up_i (by omega), k 3 (by omega) (by omega), up_i (by omega), up_i (by omega), up_i (by omega), k 4 (by omega) (by omega)]; exact h34
  · rw [up_i (by omega), up_i (by omega), up_i (by omega), k 8 (by omega) (by omega), up_i (by omega), up_i (by omega), up_i (by omega), k 3 (by omega) (by omega)]; exact h8
theorem hM_iv {A : jHp} {c k : Nat} (h : iv (A (105 + 4 * c) k) (-1) 15) : iv (hM A c k) (-1) 16 := by
  unfold hM
  split
  · exact ⟨by rw [tm1]; omega, by rw [tm1]; omega⟩
  · have t := ti1 h.1 (by have := h.2; omega)
    have := h.1
    have := h.2
    exact ⟨by rw [t]; omega, by rw [t]; omega⟩
theorem mM_eq {A I : jHp} {c k : Nat} (h : iv (A (105 + 4 * c) k) (-1) 15) (e : I 199 (8 * c + k) = A (105 + 4 * c) k) : mM I c k = hM A c k := by
  unfold mM hM
  rw [e]
  by_cases c1 : A (105 + 4 * c) k = -1
  · rw [if_pos c1, if_neg (by rw [c1]; decide)]
  · rw [if_neg c1, if_pos (Int32.not_lt.mp (fun z => c1 ((m1_iff h.1).mp z)))]
theorem eBet_15 {A : jHp} {q : Nat} {n m : Int32} (h : ¬ eBet A q n m = 0) : m ≤ 15 := by
  refine Classical.byContradiction fun e => h ?_
  unfold eBet; rw [if_neg e]
/-- what a boat takes of a part -/
theorem hear_ok {B : Int} {c i s z : Nat} {now : Int32} (hc : c < 16) (hi : i < 8) (hs : s < 8) (hz : z ≤ 8) : ∀ r k x (A I : jHp), k + r ≤ z → RE A I → RC A I → VE B A → (∀ k, k < z → (∃ g, g < 8 ∧ A (103 + 4 * c) k = nI g) ∧ iv (A (104 + 4 * c) k) 0 B ∧ iv (A (105 + 4 * c) k) (-1) 15) → I 182 1 = now →
    (nHear i c (nI s) now r k x A).2 = (mHear i c (nI s) r k x I).2 ∧ RE (nHear i c (nI s) now r k x A).1 (mHear i c (nI s) r k x I).1 ∧ VE B (nHear i c (nI s) now r k x A).1 ∧ (∀ q j, (∀ g, g < 8 → g ≠ i → q ≠ 10 + 12 * i + g) → (nHear i c (nI s) now r k x A).1 q j = A q j) ∧ (∀ q j, (q < 186 ∨ 194 < q) → (mHear i c (nI s) r k x I).1 q j = I q j) := by
  intro r
  induction r with
  | zero => intro k x A I _ h1 _ h3 _ _; exact ⟨rfl, h1, h3, fun _ _ _ => rfl, fun _ _ _ => rfl⟩
  | succ r ih =>
    intro k x A I hk h1 h2 h3 h4 h5
    have k8 : k < 8 := by omega
    obtain ⟨⟨g, hg, eg⟩, hn, hm⟩ := h4 k (by omega)
    have eG : hG A c k = g := by unfold hG; rw [eg]; exact nc8 (by omega)
    have r3 := (h2 c hc).2.2
    have i0 : I 197 (8 * c + k) = nI g := by rw [← eg]; exact r3 0 k (by omega) k8
    have i1 : I 198 (8 * c + k) = A (104 + 4 * c) k := r3 1 k (by omega) k8
    have i2 : I 199 (8 * c + k) = A (105 + 4 * c) k := r3 2 k (by omega) k8
    have eM : mG I c k = g := by unfold mG; rw [i0]; exact nc8 (by omega)
    have em := mM_eq hm i2
    have hh := hM_iv hm
    have v := h3 i g hi hg
    rw [nHear, mHear, eM, i1, em]
    have cond : hDoes A i c k ↔ mDoes I i g (A (104 + 4 * c) k) (hM A c k) := by
      unfold hDoes mDoes
      rw [eG, eg, Bet_eq h1 v hi hg hh.1]
      constructor
      · rintro ⟨a, b⟩; exact ⟨fun e => a (by rw [e]), b⟩
      · rintro ⟨a, b⟩; exact ⟨fun e => a ((nI_eq (by omega) (by omega)).mp e).symm, b⟩
    by_cases hd : hDoes A i c k
    · rw [if_pos hd, if_pos (cond.mp hd), eG]
      have gi : g ≠ i := fun e => hd.1 (by rw [eg, e])
      have hb := hd.2
      rw [eG] at hb
      have m15 := eBet_15 hb
      rw [Int32.le_iff_toInt_le, t15] at m15
      have fr : ∀ q j, q ≠ 10 + 12 * i + g → eTake (10 + 12 * i + g) (A (104 + 4 * c) k) (hM A c k) (nI s) now A q j = A q j := fun q j h => eTake_r h
      have fi : ∀ q j, (q < 186 ∨ 194 < q) → mTake i g (A (104 + 4 * c) k) (hM A c k) (nI s) I q j = I q j := fun q j h => mTake_r h
      have q := ih (k + 1) (x + 1) (eTake (10 + 12 * i + g) (A (104 + 4 * c) k) (hM A c k) (nI s) now A) (mTake i g (A (104 + 4 * c) k) (hM A c k) (nI s) I) (by omega) (RE_take h1 v hi hg hh.1 h5) (RC_c (fun _ _ _ _ => fr _ _ (by omega)) (fun _ _ _ _ => fi _ _ (by omega)) h2) (VE_at (fun _ _ _ _ e => funext fun _ => fr _ _ e) (Vent_take hs hn ⟨hh.1, m15⟩ v) h3) (fun k hk => by
        rw [fr _ _ (by omega), fr _ _ (by omega), fr _ _ (by omega)]; exact h4 k hk) (by rw [fi _ _ (by omega)]; exact h5)
      obtain ⟨q1, q2, q3, q4, q5⟩ := q
      exact ⟨q1, q2, q3, fun a j h => by rw [q4 a j h, fr _ _ (h g hg gi)], fun a j h => by rw [q5 a j h, fi _ _ h]⟩
    · rw [if_neg hd, if_neg (fun e => hd (cond.mpr e)), Int32.add_zero]
      exact ih (k + 1) x A I (by omega) h1 h2 h3 h4 h5
section
variable {L N t : Nat} {I : jHp} {G : Nat → Nat → Int64}
theorem Rel_hear {A I : jHp} {c p i s z : Nat} (hN : N ≤ 512) (hc : c < 16) (hi : i < 8) (hs : s < 8) (hne : s ≠ i) (hz : z ≤ 8) (hp : p * 3 ≤ z) (ez : A (102 + 4 * c) 4 = nI z) (R : RR A I) (V : VV N A) :
    (nListen i c p z (nI s) (A 2 5) A).2 = (mListen i c p z s I).2 ∧ RR (nListen i c p z (nI s) (A 2 5) A).1 (mListen i c p z s I).1 ∧ VV (N + 1) (nListen i c p z (nI s) (A 2 5) A).1 ∧ (∀ q j, (q < 2 ∨ 182 ≤ q) → (nListen i c p z (nI s) (A 2 5) A).1 q j = A q j) ∧ (∀ q j, (q < 182) → (mListen i c p z s I).1 q j = I q j) ∧ (mListen i c p z s I).1 182 0 = 0 := by
  obtain ⟨r1, r2, r3, r4, r5, r6, r7, r8⟩ := R
  obtain ⟨v1, v2, v3, v4, v5, v6, v7, v8⟩ := V
  obtain ⟨_, z', hz', ez', hd⟩ := v6 c hc
  have e : z' = z := by rw [ez'] at ez; exact (nI_eq (by omega) (by omega)).mp ez
  subst e
  obtain ⟨⟨t, ht, et⟩, _⟩ := v8
  have hr : hRows z' p ≤ z' - p * 3 := Nat.min_le_right _ _
  have fa : ∀ q j, q ≠ 8 + 12 * i → jm_up A (8 + 12 * i) s (A 2 5) q j = A q j := fun q j h => up_k h
  have fi : ∀ q j, q ≠ 185 → ¬ (q = 182 ∧ j = 0) → jm_up (jm_up I 182 0 0) 185 (8 * i + s) (I 182 1) q j = I q j := fun q j h h2 => by rw [up_k h, code_k h2]
  obtain ⟨q1, q2, q3, q4, q5⟩ := hear_ok (B := 16 * N) (c := c) (i := i) (s := s) (z := z') (now := A 2 5) hc hi hs hz (hRows z' p) (p * 3) 0 (jm_up A (8 + 12 * i) s (A 2 5)) (jm_up (jm_up I 182 0 0) 185 (8 * i + s) (I 182 1)) (by omega) (RE_c (fun _ _ _ _ _ => fa _ _ (by omega)) (fun _ _ _ _ => fi _ _ (by omega) (by omega)) r1) (RC_c (fun _ _ _ _ => fa _ _ (by omega)) (fun _ _ _ _ => fi _ _ (by omega) (by omega)) r5) (VE_c (fun _ _ _ _ _ => fa _ _ (by omega)) v1) (fun k hk => by
    rw [fa _ _ (by omega), fa _ _ (by omega), fa _ _ (by omega)]; exact hd k hk) (by rw [fi _ _ (by omega) (by omega)]; exact r8.1)
  have en : nListen i c p z' (nI s) (A 2 5) A = nHear i c (nI s) (A 2 5) (hRows z' p) (p * 3) 0 (jm_up A (8 + 12 * i) s (A 2 5)) := by
    unfold nListen; rw [nc8 (by omega)]
  have em : mListen i c p z' s I = mHear i c (nI s) (hRows z' p) (p * 3) 0 (jm_up (jm_up I 182 0 0) 185 (8 * i + s) (I 182 1)) := rfl
  rw [en, em]
  generalize nHear i c (nI s) (A 2 5) (hRows z' p) (p * 3) 0 (jm_up A (8 + 12 * i) s (A 2 5)) = X at q1 q2 q3 q4
  generalize mHear i c (nI s) (hRows z' p) (p * 3) 0 (jm_up (jm_up I 182 0 0) 185 (8 * i + s) (I 182 1)) = Y at q1 q2 q5
  have hA : ∀ r s, (∀ i g, i < 8 → g < 8 → r ≠ 10 + 12 * i + g) → (∀ i, i < 8 → r ≠ 8 + 12 * i) → X.1 r s = A r s := fun r s h1 h2 => by rw [q4 r s (fun g hg _ => h1 i g hi hg), fa _ _ (h2 i hi)]
  refine ⟨q1, RR_eh hA (fun r s h1 h2 => by rw [q5 r s (by omega), fi _ _ (by omega) h2]) q2 ?_ ⟨r1, r2, r3, r4, r5, r6, r7, r8⟩, VV_eh (N := N) (by omega) hA (fun i g hi hg => Vent_m (q3 i g hi hg) (by omega)) ?_ ?_ ⟨v1, v2, v3, v4, v5, v6, v7, ⟨t, ht, et⟩, by assumption⟩, fun q j h => hA q j (by omega) (by omega), fun q j h => by rw [q5 q j (by omega), fi _ _ (by omega) (by omega)], ?_⟩
  · intro a b ha hb
    rw [q5 _ _ (by omega), q4 _ _ (by omega)]
    by_cases e : a = i ∧ b = s
    · obtain ⟨rfl, rfl⟩ := e
      rw [up_s, up_s]; exact r8.1
    · rw [up_i (r := 185) (by omega), up_k (by omega)]
      by_cases e2 : a = i
      · rw [up_i (by omega)]; exact r4 a b ha hb
      · rw [up_k (by omega)]; exact r4 a b ha hb
  · intro a ha
    refine ⟨?_, ?_⟩
    · rw [q4 _ _ (by omega), fa _ _ (by omega)]; exact (v3 a ha).1
    · rw [q4 _ _ (by omega)]
      by_cases e : a = i
      · rw [up_i (by omega)]; exact (v3 a ha).2
      · rw [up_k (by omega)]; exact (v3 a ha).2
  · intro a b ha hb
    rw [q4 _ _ (by omega)]
    by_cases e : a = i ∧ b = s
    · obtain ⟨rfl, rfl⟩ := e
      rw [up_s, et, nI_toInt (by omega)]; omega
    · have : jm_up A (8 + 12 * i) s (A 2 5) (8 + 12 * a) b = A (8 + 12 * a) b := by
        by_cases e2 : a = i
        · exact up_i (by omega)
        · exact up_k (by omega)
      rw [this]; exact v5 a b ha hb
  · rw [q5 _ _ (by omega), up_k (by omega), up_s]
theorem op_hear {x p b late : Int32} (hN : N ≤ 512) (hR : Rel N I) : Pair L N 92 [.ref 2, .int x, .int p, .int b, .int late, .ref 209] 46 [.ref 182, .int x, .int p, .int b, .int late] Int32.toInt64 I G t := by
  have rn := hR.1.2.2.2.2.2.2.2
  have rc := hR.1.2.2.2.2.1
  have vc := hR.2.2.2.2.2.2.1
  by_cases hx : x < 0 ∨ I 2 3 ≤ x ∨ ¬ I 2 3 - 16 ≤ x
  · exact Pair_no1 (w_hearX0 (cN_hearY (d := 8) hx (by omega))) (fun t => mC_hearX (Or.inr ((cast_iff rn).mpr hx))) (by decide) hR
  have hm : ¬ mIsCast I x = 0 := fun e => hx ((cast_iff rn).mp e)
  obtain ⟨c, hc, rfl, h1, h2, h3⟩ := cast_of hN hR.2.2.2.2.2.2.2.2 hx
  by_cases hp : p < 0 ∨ ¬ p < cParts I (102 + 4 * (c % 16))
  · by_cases hb : b < 0 ∨ ¬ b < 8
    · exact Pair_no1 (w_hearX0 (cN_hearX (d := 7) hc h1 h2 h3 hp (by omega))) (fun t => mC_hearX (Or.inl hb)) (by decide) hR
    · obtain ⟨i, hi, rfl⟩ := nb_of hb
      exact Pair_no1 (w_hearX0 (cN_hearX (d := 7) hc h1 h2 h3 hp (by omega))) (fun t => mC_hearY hc hi hm ((part_iff rc vc).mpr hp)) (by decide) hR
  have hmp : ¬ mIsPart I c p = 0 := fun e => hp ((part_iff rc vc).mp e)
  have h4 : ¬ p < 0 := fun e => hp (Or.inl e)
  have h5 : p < cParts I (102 + 4 * (c % 16)) := Classical.byContradiction fun e => hp (Or.inr e)
  by_cases hb : b < 0 ∨ ¬ b < 8
  · exact Pair_no1 (w_hearX0 (cN_hearZ (d := 7) hc h1 h2 h3 h4 h5 hb (by omega))) (fun t => mC_hearX (Or.inl hb)) (by decide) hR
  obtain ⟨i, hi, rfl⟩ := nb_of hb
  obtain ⟨⟨s, hs8, es⟩, _⟩ := vc (c % 16) (by omega)
  obtain ⟨q1, q2, q3⟩ := rc (c % 16) (by omega)
  have eo : I 183 i = I (6 + 12 * i) 6 := hR.1.2.1 i hi
  have el : I 184 (8 * i + s) = bLinked I (6 + 12 * i) (nI s) := hR.1.2.2.1 i s hi hs8
  have es' : I 195 (c % 16) = nI s := by rw [q1]; exact es
  by_cases hw : I (6 + 12 * i) 6 = 0 ∨ s = i ∨ (late = 0 ∧ bLinked I (6 + 12 * i) (nI s) = 0)
  · exact Pair_no2 (w_hearX1 (cN_hearW (d := 7) hc h1 h2 h3 h4 h5 hi hs8 es hw (by omega))) (fun t => mC_hearW hc hi hs8 hm hmp es' (by rw [eo, el]; exact hw)) (by decide) hR
  have w1 : ¬ I (6 + 12 * i) 6 = 0 := fun e => hw (Or.inl e)
  have w2 : s ≠ i := fun e => hw (Or.inr (Or.inl e))
  have w3 : ¬ late = 0 ∨ ¬ bLinked I (6 + 12 * i) (nI s) = 0 := by
    by_cases e : late = 0
    · exact Or.inr (fun e2 => hw (Or.inr (Or.inr ⟨e, e2⟩)))
    · exact Or.inl e
  obtain ⟨p', z, rfl, ez, hz, hpz, hp3⟩ := part_of (by omega) vc hp
  obtain ⟨_, z', hz', ez2, hgs⟩ := vc (c % 16) (by omega)
  have ezz : z' = z := by rw [ez2] at ez; exact (nI_eq (by omega) (by omega)).mp ez
  subst ezz
  have hg0 : ∀ k, k < z' → ∃ g, g < 8 ∧ I (103 + 4 * (c % 16)) k = nI g := fun k hk => (hgs k hk).1
  obtain ⟨f0, _, _, f1, _⟩ := Rel_hear (p := p') hN (show c % 16 < 16 by omega) hi hs8 w2 hz hpz ez hR.1 hR.2
  generalize eX : (nListen i (c % 16) p' z' (nI s) (I 2 5) I).1 = X at f1
  have ke : ∀ r s, 182 ≤ r → X r s = I r s := fun r s h => f1 r s (Or.inr h)
  obtain ⟨g0, g1, g2, g3, g4, g5⟩ := Rel_hear (p := p') hN (show c % 16 < 16 by omega) hi hs8 w2 hz hpz ez (RR_fr (I' := X) (fun r hr j => ke r j hr) hR.1) hR.2
  rw [eX] at g1 g2
  have xm : mIsCast X (nI c) = mIsCast I (nI c) := by unfold mIsCast; rw [ke 182 14 (by omega)]
  have xp : mIsPart X c (nI p') = mIsPart I c (nI p') := by unfold mIsPart mParts; rw [ke 196 _ (by omega)]
  refine Pair_ok (I1 := X) (w_hear (v := (nListen i (c % 16) p' z' (nI s) (I 2 5) I).2) ?_) (fun G => mC_hear (d := 9) hc hi hs8 hz hpz (by rw [xm]; exact hm) (by rw [xp]; exact hmp) (by rw [ke 195 _ (by omega)]; exact es') (by rw [ke 196 _ (by omega), q2]; exact ez) (fun k hk => by rw [ke 197 _ (by omega), q3 0 k (by omega) (by omega)]; exact hg0 k hk) (by rw [ke 183 _ (by omega), eo]; exact w1) w2 (by rw [ke 184 _ (by omega), el]; exact w3)) g5 ?_ (Rel_in g1 g2 (fun r hr s => ?_)) (fun s => ?_) (fun s => f1 1 s (by omega))
  · rw [← eX]
    exact cN_hear (d := 7) hc h1 h2 h3 h4 h5 hi w1 hs8 w2 hz hpz (hR.2.2.1 i hi).1 es ez hg0 w3
  · rw [g0]
  · exact g4 r s hr
  · rw [g4 1 s (by omega)]; exact f1 1 s (by omega)
end
