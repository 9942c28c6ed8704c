/-! the relation: tick, clock -/
theorem Vent_lose {B : Int} {A : jHp} {q : Nat} (hB : B < 900000) (V : Vent B (A q)) : Vent (B + 1) (eLose q A q) := by
  have t := ti1 V.1.1 (by have := V.1.2; omega)
  unfold eLose
  refine Vent_show ?_ ?_ ?_
  · rw [up_i (by omega), up_i (by omega), up_s]
    have := V.1.1
    have := V.1.2
    exact ⟨by rw [t]; omega, by rw [t]; omega⟩
  · rw [up_i (by omega), up_s]; exact ⟨by rw [tm1]; omega, by rw [tm1]; omega⟩
  · rw [up_s]; exact Or.inl rfl
theorem Vent_settle {B : Int} {A : jHp} {q : Nat} {now : Int32} (V : Vent B (A q)) : Vent B (eSettle q now A q) := by
  unfold eSettle
  split
  · exact V
  · rename_i h7
    split
    · exact V
    · refine Vent_show ⟨?_, V.1.2⟩ V.2.1 V.2.2.1
      have a1 := V.1.1
      have a2 : ¬ (A q 0).toInt = -1 := fun e => h7 (V.2.2.2.2.2.2.2 (eq_i.mpr (by rw [e, tm1]))).2
      omega
theorem eSet_2 {A : jHp} {q r : Nat} {now : Int32} : eSettle q now A r 2 = A r 2 := by
  by_cases e : r = q
  · subst e
    unfold eSettle
    split
    · rfl
    · split
      · rfl
      · exact eSh_v.2.2.1
  · exact eSettle_r e
theorem lt6 (x : Int32) : x < 6 ↔ x ≤ 5 := by
  rw [Int32.lt_iff_toInt_lt, Int32.le_iff_toInt_le, show (6 : Int32).toInt = 6 from rfl, show (5 : Int32).toInt = 5 from rfl]; omega
/-- what a boat loses over o -/
theorem lose_ok {B : Int} {i o : Nat} (hB : B < 900000) (hi : i < 8) (ho : o < 8) (hne : o ≠ i) : ∀ r g (A I : jHp), g + r = 8 → RE A I → A (10 + 12 * i + i) 2 = nI i → (∀ g', g' < 8 → Vent (if g' < g then B + 1 else B) (A (10 + 12 * i + g'))) →
    RE (bLoseW i (nI o) r g A) (mLoseW i o r g I) ∧ (∀ g', g' < 8 → Vent (B + 1) (bLoseW i (nI o) r g A (10 + 12 * i + g'))) ∧ bLoseW i (nI o) r g A (10 + 12 * i + i) 2 = nI i := by
  intro r
  induction r with
  | zero =>
    intro g A I hg h1 h2 h3
    refine ⟨h1, fun g' hg' => ?_, h2⟩
    have := h3 g' hg'
    rw [if_pos (by omega)] at this; exact this
  | succ r ih =>
    intro g A I hg h1 h2 h3
    have g8 : g < 8 := by omega
    rw [bLoseW, mLoseW, (RE_g h1 hi g8).2.2.1]
    by_cases hn : A (10 + 12 * i + g) 2 = nI o
    · have gi : g ≠ i := by
        intro e; subst e
        rw [h2] at hn
        exact hne ((nI_eq (by omega) (by omega)).mp hn).symm
      rw [if_pos hn, if_pos (show g ≠ i ∧ A (10 + 12 * i + g) 2 = nI o from ⟨gi, hn⟩)]
      refine ih (g + 1) _ _ (by omega) (RE_lose h1 hi g8) (by rw [eLose_r (by omega)]; exact h2) (fun g' hg' => ?_)
      by_cases e : g' = g
      · subst e
        have := h3 g' hg'
        rw [if_neg (by omega)] at this
        rw [if_pos (by omega)]
        exact Vent_lose hB this
      · rw [show eLose (10 + 12 * i + g) A (10 + 12 * i + g') = A (10 + 12 * i + g') from funext fun s => eLose_r (by omega)]
        refine Vent_m (h3 g' hg') ?_
        split
        · rw [if_pos (by omega)]; omega
        · split <;> omega
    · rw [if_neg hn, if_neg (fun e : g ≠ i ∧ A (10 + 12 * i + g) 2 = nI o => hn e.2)]
      refine ih (g + 1) _ _ (by omega) h1 h2 (fun g' hg' => Vent_m (h3 g' hg') ?_)
      split
      · rw [if_pos (by omega)]; omega
      · split <;> omega
theorem bLoseW_o {i : Nat} {o : Int32} {q j r g : Nat} {A : jHp} (hr : g + r ≤ 8) (h : q < 10 + 12 * i ∨ 17 + 12 * i < q) : bLoseW i o r g A q j = A q j := bLoseW_r (by omega) r g A hr
/-- what a boat forgets -/
theorem forget_ok {B : Int} {i : Nat} {now : Int32} (hB : B < 800000) (hi : i < 8) : ∀ (r o : Nat) (A I : jHp), o + r = 8 → RE A I → RH A I → I 182 1 = now → VS A → VH A → (∀ g', g' < 8 → Vent (B + o) (A (10 + 12 * i + g'))) →
    RE (bForget i now r o A) (mForget i r o I) ∧ RH (bForget i now r o A) (mForget i r o I) ∧ VS (bForget i now r o A) ∧ VH (bForget i now r o A) ∧ (∀ g', g' < 8 → Vent (B + 8) (bForget i now r o A (10 + 12 * i + g'))) := by
  intro r
  induction r with
  | zero =>
    intro o A I ho h1 h2 h3 h4 h5 h6
    exact ⟨h1, h2, h4, h5, fun g' hg' => Vent_m (h6 g' hg') (by omega)⟩
  | succ r ih =>
    intro o A I ho h1 h2 h3 h4 h5 h6
    have o8 : o < 8 := by omega
    have rh : I 185 (8 * i + o) = A (8 + 12 * i) o := h2 i o hi o8
    have cond : (I 185 (8 * i + o) < 0 ∨ I 182 1 - I 185 (8 * i + o) ≤ 5) ↔ (A (8 + 12 * i) o = -1 ∨ now - A (8 + 12 * i) o < 6) := by
      rw [rh, h3, m1_iff (h5 i o hi o8), lt6]
    rw [bForget, mForget]
    by_cases hs : A (8 + 12 * i) o = -1 ∨ now - A (8 + 12 * i) o < 6
    · rw [if_pos hs, if_pos (cond.mpr hs)]
      exact ih (o + 1) A I (by omega) h1 h2 h3 h4 h5 (fun g' hg' => Vent_m (h6 g' hg') (by omega))
    · rw [if_neg hs, if_neg (fun e => hs (cond.mp e))]
      have oi : o ≠ i := fun e => hs (Or.inl (by rw [e]; exact (h4 i hi).2))
      generalize eA : jm_up A (8 + 12 * i) o (-1) = A1
      generalize eI : jm_up I 185 (8 * i + o) (-1) = I1
      have ka : ∀ q j, q ≠ 8 + 12 * i → A1 q j = A q j := fun q j h => by rw [← eA]; exact up_k h
      have ki : ∀ q j, q ≠ 185 → I1 q j = I q j := fun q j h => by rw [← eI]; exact up_k h
      have ve : ∀ g', g' < 8 → Vent (B + o) (A1 (10 + 12 * i + g')) := fun g' hg' => by
        rw [show A1 (10 + 12 * i + g') = A (10 + 12 * i + g') from funext fun s => ka _ _ (by omega)]; exact h6 g' hg'
      obtain ⟨q1, q2, q3⟩ := lose_ok (B := B + o) (by omega) hi o8 oi 8 0 A1 I1 rfl (RE_c (fun _ _ _ _ _ => ka _ _ (by omega)) (fun _ _ _ _ => ki _ _ (by omega)) h1) (by rw [ka _ _ (by omega)]; exact (h4 i hi).1) (fun g' hg' => by rw [if_neg (by omega)]; exact ve g' hg')
      have la : ∀ q j, (q < 10 + 12 * i ∨ 17 + 12 * i < q) → bLoseW i (nI o) 8 0 A1 q j = A1 q j := fun q j h => bLoseW_o (by omega) h
      have li : ∀ q j, (q < 186 ∨ 194 < q) → mLoseW i o 8 0 I1 q j = I1 q j := fun q j h => mLoseW_r h 8 0 I1
      refine ih (o + 1) _ _ (by omega) q1 ?_ ?_ ?_ ?_ (fun g' hg' => Vent_m (q2 g' hg') (by omega))
      · intro a b ha hb
        rw [li _ _ (by omega), la _ _ (by omega), ← eA, ← eI]
        by_cases e : a = i ∧ b = o
        · obtain ⟨rfl, rfl⟩ := e
          rw [up_s, up_s]
        · rw [up_i (r := 185) (by omega)]
          by_cases e2 : a = i
          · rw [up_i (by omega)]; exact h2 a b ha hb
          · rw [up_k (by omega)]; exact h2 a b ha hb
      · rw [li _ _ (by omega), ki _ _ (by omega)]; exact h3
      · intro a ha
        refine ⟨?_, ?_⟩
        · by_cases e : a = i
          · rw [e]; exact q3
          · rw [la _ _ (by omega), ka _ _ (by omega)]; exact (h4 a ha).1
        · rw [la _ _ (by omega), ← eA]
          by_cases e : a = i
          · rw [up_i (by omega)]; exact (h4 a ha).2
          · rw [up_k (by omega)]; exact (h4 a ha).2
      · intro a b ha hb
        rw [la _ _ (by omega), ← eA]
        by_cases e : a = i ∧ b = o
        · obtain ⟨rfl, rfl⟩ := e
          rw [up_s, tm1]; omega
        · have : jm_up A (8 + 12 * i) o (-1) (8 + 12 * a) b = A (8 + 12 * a) b := by
            by_cases e2 : a = i
            · exact up_i (by omega)
            · exact up_k (by omega)
          rw [this]; exact h5 a b ha hb
theorem settle_ok {B : Int} {i : Nat} {now : Int32} (hi : i < 8) : ∀ r g (A I : jHp), g + r = 8 → RE A I → I 182 1 = now → (∀ g', g' < 8 → Vent B (A (10 + 12 * i + g'))) →
    RE (bSettle i now r g A) (mSettle i r g I) ∧ (∀ g', g' < 8 → Vent B (bSettle i now r g A (10 + 12 * i + g'))) ∧ (∀ q, bSettle i now r g A q 2 = A q 2) := by
  intro r
  induction r with
  | zero => intro g A I _ h1 _ h3; exact ⟨h1, h3, fun _ => rfl⟩
  | succ r ih =>
    intro g A I hg h1 h2 h3
    have g8 : g < 8 := by omega
    rw [bSettle, mSettle]
    have fi : ∀ q j, (q < 186 ∨ 194 < q) → mSettleE (8 * i + g) I q j = I q j := by
      intro q j h
      unfold mSettleE
      split
      · rfl
      · exact mShow_r h
    obtain ⟨q1, q2, q3⟩ := ih (g + 1) (eSettle (10 + 12 * i + g) now A) (mSettleE (8 * i + g) I) (by omega) (RE_settle h1 hi g8 h2) (by rw [fi _ _ (by omega)]; exact h2) (fun g' hg' => by
      by_cases e : g' = g
      · subst e; exact Vent_settle (h3 g' hg')
      · rw [show eSettle (10 + 12 * i + g) now A (10 + 12 * i + g') = A (10 + 12 * i + g') from funext fun s => eSettle_r (by omega)]; exact h3 g' hg')
    exact ⟨q1, q2, fun q => by rw [q3, eSet_2]⟩
theorem bSettle_o {i : Nat} {o : Int32} {q j r g : Nat} {A : jHp} (hr : g + r ≤ 8) (h : q < 10 + 12 * i ∨ 17 + 12 * i < q) : bSettle i o r g A q j = A q j := bSettle_r (by omega) r g A hr
theorem bForget_o {i : Nat} {o : Int32} {q j r g : Nat} {A : jHp} (hr : g + r ≤ 8) (h : q < 8 + 12 * i ∨ 17 + 12 * i < q ∨ q = 9 + 12 * i) : bForget i o r g A q j = A q j := bForget_r (by omega) (by omega) r g A hr
theorem tick_ok {B : Int} {now : Int32} (hB : B < 800000) : ∀ r i (A I : jHp), i + r = 8 → RE A I → RO A I → RH A I → I 182 1 = now → VS A → VH A → (∀ i' g', i' < 8 → g' < 8 → Vent (if i' < i then B + 8 else B) (A (10 + 12 * i' + g'))) →
    RE (nTick now r i A) (mTick r i I) ∧ RH (nTick now r i A) (mTick r i I) ∧ VS (nTick now r i A) ∧ VH (nTick now r i A) ∧ VE (B + 8) (nTick now r i A) ∧ (∀ q j, (q < 185 ∨ 194 < q) → mTick r i I q j = I q j) := by
  intro r
  induction r with
  | zero =>
    intro i A I hi h1 h2 h3 h4 h5 h6 h7
    refine ⟨h1, h3, h5, h6, fun i' g' hi' hg' => ?_, fun _ _ _ => rfl⟩
    have := h7 i' g' hi' hg'
    rw [if_pos (by omega)] at this; exact this
  | succ r ih =>
    intro i A I hir h1 h2 h3 h4 h5 h6 h7
    have hi : i < 8 := by omega
    rw [nTick, mTick, h2 i hi]
    by_cases ho : A (6 + 12 * i) 6 = 0
    · rw [if_pos ho, if_pos ho]
      refine ih (i + 1) A I (by omega) h1 h2 h3 h4 h5 h6 (fun i' g' hi' hg' => Vent_m (h7 i' g' hi' hg') ?_)
      split
      · rw [if_pos (by omega)]; omega
      · split <;> omega
    · rw [if_neg ho, if_neg ho]
      obtain ⟨q1, q2, q3, q4, q5⟩ := forget_ok (B := B) (i := i) (now := now) hB hi 8 0 A I rfl h1 h3 h4 h5 h6 (fun g' hg' => by
        have := h7 i g' hi hg'
        rw [if_neg (by omega)] at this
        exact Vent_m this (by omega))
      have fI : ∀ q j, (q < 185 ∨ 194 < q) → mForget i 8 0 I q j = I q j := fun q j h => mForget_r h 8 0 I
      obtain ⟨s1, s2, s3⟩ := settle_ok (B := B + 8) (i := i) (now := now) hi 8 0 (bForget i now 8 0 A) (mForget i 8 0 I) rfl q1 (by rw [fI _ _ (by omega)]; exact h4) q5
      have sA : ∀ q j, (q < 10 + 12 * i ∨ 17 + 12 * i < q) → bSettle i now 8 0 (bForget i now 8 0 A) q j = bForget i now 8 0 A q j := fun q j h => bSettle_o (by omega) h
      have fA : ∀ q j, (q < 8 + 12 * i ∨ 17 + 12 * i < q ∨ q = 9 + 12 * i) → bForget i now 8 0 A q j = A q j := fun q j h => bForget_o (by omega) h
      have sI : ∀ q j, (q < 186 ∨ 194 < q) → mSettle i 8 0 (mForget i 8 0 I) q j = mForget i 8 0 I q j := fun q j h => mSettle_r h 8 0 _
      obtain ⟨z1, z2, z3, z4, z5, z6⟩ := ih (i + 1) (bSettle i now 8 0 (bForget i now 8 0 A)) (mSettle i 8 0 (mForget i 8 0 I)) (by omega) s1 (RO_c (fun a ha => by rw [sA _ _ (by omega), fA _ _ (by omega)]) (fun j => by rw [sI _ _ (by omega), fI _ _ (by omega)]) h2) (RH_c (fun a ha j => sA _ _ (by omega)) (fun j => sI _ _ (by omega)) q2) (by rw [sI _ _ (by omega), fI _ _ (by omega)]; exact h4) (VS_c (fun a ha => s3 _) (fun a ha j => sA _ _ (by omega)) q3) (VH_c (fun a ha j => sA _ _ (by omega)) q4) (fun i' g' hi' hg' => by
        by_cases e : i' = i
        · subst e
          rw [if_pos (by omega)]; exact s2 g' hg'
        · rw [show bSettle i now 8 0 (bForget i now 8 0 A) (10 + 12 * i' + g') = A (10 + 12 * i' + g') from funext fun s => by rw [sA _ _ (by omega), fA _ _ (by omega)]]
          refine Vent_m (h7 i' g' hi' hg') ?_
          split
          · rw [if_pos (by omega)]; omega
          · rw [if_neg (by omega)]; omega)
      exact ⟨z1, z2, z3, z4, z5, fun q j h => by rw [z6 q j h, sI q j (by omega), fI q j h]⟩
section
variable {L N t : Nat} {I : jHp} {G : Nat → Nat → Int64}
/-- two answers that the law compares at once -/
def Both (L N ci : Nat) (mi : Nat) (I : jHp) (G : Nat → Nat → Int64) (t : Nat) : Prop :=
  ∃ (b : Int32) (I1 I2 : jHp), jm_F (11, ci, 0, jm_en ci [.ref 2], [], false, jS L I G t) (.inl (some (.int b))) (jS L I1 G t) ∧ jm_F (11, mi, 0, jm_en mi [.ref 182], [], false, jS L I1 G t) (.inl (some (.int b))) (jS L I2 G t) ∧ Rel (N + 1) I2 ∧ (∀ j, I2 1 j = I 1 j)
theorem op_clock (hR : Rel N I) : Both L N 17 59 I G t := by
  refine ⟨I 2 5, I, jm_up I 182 0 0, tN_clock, ?_, Rel_m (Rel_code hR) (by omega), fun j => up_k (by omega)⟩
  have := mC_clock (L := L) (t := t) (d := 11) (I := I) (G := G)
  rw [hR.1.2.2.2.2.2.2.2.1] at this
  exact this
theorem op_tick (hN : N ≤ 512) (hR : Rel N I) : Both L N 8 48 I G t := by
  obtain ⟨r1, r2, r3, r4, r5, r6, r7, r8, r9⟩ := hR.1
  obtain ⟨v1, v2, v3, v4, v5, v6, v7, ⟨t0, ht0, et⟩, v9⟩ := hR.2
  generalize en : I 2 5 + 1 = now
  have enow : now = nI (t0 + 1) := by rw [← en, et, nI_1]
  generalize eA : jm_up I 2 5 now = A0
  have ka : ∀ q j, q ≠ 2 → A0 q j = I q j := fun q j h => by rw [← eA]; exact up_k h
  generalize eX : nTick now 8 0 A0 = X
  have kx : ∀ q j, (∀ i g, i < 8 → g < 8 → q ≠ 10 + 12 * i + g) → (∀ i, i < 8 → q ≠ 8 + 12 * i) → X q j = A0 q j := fun q j h1 h2 => by rw [← eX]; exact nTick_r h1 h2 8 0 A0 (by omega)
  have xI : ∀ q j, 182 ≤ q → X q j = I q j := fun q j h => by rw [kx q j (by omega) (by omega), ka q j (by omega)]
  have x1 : X 182 1 + 1 = now := by rw [xI 182 1 (by omega), r8, en]
  generalize eJ : jm_up (jm_up X 182 0 0) 182 1 now = J0
  have kj : ∀ q j, q ≠ 182 → J0 q j = X q j := fun q j h => by rw [← eJ, up_k h, up_k h]
  have kj2 : ∀ j, j ≠ 0 → j ≠ 1 → J0 182 j = X 182 j := fun j h1 h2 => by rw [← eJ, up_i h2, up_i h1]
  have j1 : J0 182 1 = now := by rw [← eJ, up_s]
  obtain ⟨q1, q2, q3, q4, q5, q6⟩ := tick_ok (B := 16 * N) (now := now) (by omega) 8 0 A0 J0 rfl (RE_c (fun _ _ _ _ _ => ka _ _ (by omega)) (fun _ _ _ _ => by rw [kj _ _ (by omega), xI _ _ (by omega)]) r1) (RO_c (fun _ _ => ka _ _ (by omega)) (fun _ => by rw [kj _ _ (by omega), xI _ _ (by omega)]) r2) (RH_c (fun _ _ _ => ka _ _ (by omega)) (fun _ => by rw [kj _ _ (by omega), xI _ _ (by omega)]) r4) j1 (VS_c (fun _ _ => ka _ _ (by omega)) (fun _ _ _ => ka _ _ (by omega)) v3) (VH_c (fun _ _ _ => ka _ _ (by omega)) v5) (fun i' g' hi' hg' => by
    rw [if_neg (by omega), show A0 (10 + 12 * i' + g') = I (10 + 12 * i' + g') from funext fun s => ka _ _ (by omega)]; exact v1 i' g' hi' hg')
  rw [eX] at q1 q2 q3 q4 q5
  have R0 : RR A0 J0 := by
    refine ⟨RE_c (fun _ _ _ _ _ => ka _ _ (by omega)) (fun _ _ _ _ => by rw [kj _ _ (by omega), xI _ _ (by omega)]) r1, RO_c (fun _ _ => ka _ _ (by omega)) (fun _ => by rw [kj _ _ (by omega), xI _ _ (by omega)]) r2, RL_c (fun _ _ => ka _ _ (by omega)) (fun _ => by rw [kj _ _ (by omega), xI _ _ (by omega)]) r3, RH_c (fun _ _ _ => ka _ _ (by omega)) (fun _ => by rw [kj _ _ (by omega), xI _ _ (by omega)]) r4, RC_c (fun _ _ _ _ => ka _ _ (by omega)) (fun _ _ _ _ => by rw [kj _ _ (by omega), xI _ _ (by omega)]) r5, RP_c (fun _ _ _ _ => ka _ _ (by omega)) (fun _ _ _ _ => by rw [kj _ _ (by omega), xI _ _ (by omega)]) r6, RW_c (fun _ _ => ka _ _ (by omega)) (fun _ _ _ => ka _ _ (by omega)) (fun _ _ _ _ => by rw [kj _ _ (by omega), xI _ _ (by omega)]) r7, ?_, ?_, ?_⟩
    · rw [j1, ← eA, up_s]
    · rw [kj2 _ (by omega) (by omega), xI _ _ (by omega), ← eA, up_i (by omega)]; exact r9.1
    · rw [kj2 _ (by omega) (by omega), xI _ _ (by omega), ← eA, up_i (by omega)]; exact r9.2
  have V0 : VV (N + 1) A0 := by
    obtain ⟨u1, u2, u3, u4, u5, u6, u7, u8⟩ := VV_m hR.2 (N' := N + 1) (by omega)
    refine ⟨VE_c (fun _ _ _ _ _ => ka _ _ (by omega)) u1, VO_c (fun _ _ _ _ => ka _ _ (by omega)) u2, VS_c (fun _ _ => ka _ _ (by omega)) (fun _ _ _ => ka _ _ (by omega)) u3, VL_c (fun _ _ => ka _ _ (by omega)) u4, VH_c (fun _ _ _ => ka _ _ (by omega)) u5, VC_c (fun _ _ _ _ => ka _ _ (by omega)) u6, VP_c (fun _ _ _ _ => ka _ _ (by omega)) (by rw [← eA]; exact up_i (by omega)) (fun b => cN_c2 (fun _ _ _ _ => ka _ _ (by omega)) 16 (by omega)) u7, ⟨t0 + 1, by omega, by rw [← eA, up_s]; exact enow⟩, ?_, ?_⟩
    · obtain ⟨c, hc, ec⟩ := u8.2.1
      exact ⟨c, hc, by rw [← eA, up_i (by omega)]; exact ec⟩
    · obtain ⟨c, hc, ec⟩ := u8.2.2
      exact ⟨c, hc, by rw [← eA, up_i (by omega)]; exact ec⟩
  have R1 : RR X (mTick 8 0 J0) := RR_eh (A := A0) (I := J0) kx (fun q j h _ => q6 q j h) q1 q2 R0
  have V1 : VV (N + 1) X := VV_eh (N := N + 1) (by omega) kx (fun i g hi hg => Vent_m (q5 i g hi hg) (by omega)) q3 q4 V0
  refine ⟨now, X, mTick 8 0 J0, ?_, ?_, Rel_in R1 V1 (fun r hr j => by rw [q6 r j (by omega), kj _ _ (by omega)]), fun j => by rw [q6 1 j (by omega), kj _ _ (by omega), kx _ _ (by omega) (by omega), ka _ _ (by omega)]⟩
  · have := cN_tick (L := L) (t := t) (d := 7) (I := I) (G := G)
    rw [en, eA, eX] at this
    exact this
  · have := mC_tick (L := L) (t := t) (d := 9) (I := X) (G := G)
    rw [x1, eJ] at this
    exact this
end
