/-! the relation, entry by entry -/
theorem t0 : (0 : Int32).toInt = 0 := by decide
theorem tm1 : (-1 : Int32).toInt = -1 := by decide
theorem t15 : (15 : Int32).toInt = 15 := by decide
theorem eq_i {x y : Int32} : x = y ↔ x.toInt = y.toInt := Int32.toInt_inj.symm
theorem m1_iff {x : Int32} (h : -1 ≤ x.toInt) : x < 0 ↔ x = -1 := by
  rw [Int32.lt_iff_toInt_lt, eq_i, t0, tm1]; omega
theorem ti_add {x y : Int32} (h1 : -2147483648 ≤ x.toInt + y.toInt) (h2 : x.toInt + y.toInt < 2147483648) : (x + y).toInt = x.toInt + y.toInt := by
  rw [Int32.toInt_add]
  exact Int.bmod_eq_of_le (by omega) (by omega)
theorem ti1 {x : Int32} (h1 : -1 ≤ x.toInt) (h2 : x.toInt < 1000000) : (x + 1).toInt = x.toInt + 1 := by
  rw [ti_add] <;> rw [show (1 : Int32).toInt = 1 by decide] <;> omega
theorem ti2 {x : Int32} (h1 : -1 ≤ x.toInt) (h2 : x.toInt < 1000000) : (x + 2).toInt = x.toInt + 2 := by
  rw [ti_add] <;> rw [show (2 : Int32).toInt = 2 by decide] <;> omega
theorem up_id {α : Type} {f : Nat → Nat → α} {r j : Nat} : jm_up f r j (f r j) = f := by
  funext k i
  unfold jm_up
  by_cases h : i = j
  · by_cases h2 : k = r
    · simp only [h, h2, if_true]
    · simp only [h, h2, if_true, if_false]
  · simp only [h, if_false]
theorem up_cm {α : Type} {f : Nat → Nat → α} {r j r' j' : Nat} {x y : α} (h : r ≠ r' ∨ j ≠ j') : jm_up (jm_up f r j x) r' j' y = jm_up (jm_up f r' j' y) r j x := by
  funext k i
  unfold jm_up
  by_cases h1 : i = j <;> by_cases h2 : i = j' <;> by_cases h3 : k = r <;> by_cases h4 : k = r' <;> simp only [h1, h2, h3, h4, if_true, if_false] <;> (first | rfl | (exfalso; omega) | skip) <;> simp_all
theorem RE_up {A I : jHp} {i g s : Nat} {x : Int32} (R : RE A I) (hi : i < 8) (hg : g < 8) (hs : s < 9) : RE (jm_up A (10 + 12 * i + g) s x) (jm_up I (mA s) (8 * i + g) x) := by
  intro i' g' s' hi' hg' hs'
  by_cases h : s' = s
  · subst h
    by_cases h2 : 8 * i' + g' = 8 * i + g
    · have h3 : i' = i := by omega
      have h4 : g' = g := by omega
      subst h3
      subst h4
      rw [up_s, up_s]
    · rw [up_i h2, up_k (by omega)]
      exact R i' g' s' hi' hg' hs'
  · rw [up_k (fun z => h (mA_inj s' hs' s hs z)), up_i h]
    exact R i' g' s' hi' hg' hs'
theorem RE_g {A I : jHp} {i g : Nat} (R : RE A I) (hi : i < 8) (hg : g < 8) : I 186 (8 * i + g) = A (10 + 12 * i + g) 0 ∧ I 187 (8 * i + g) = A (10 + 12 * i + g) 1 ∧ I 188 (8 * i + g) = A (10 + 12 * i + g) 2 ∧ I 189 (8 * i + g) = A (10 + 12 * i + g) 3 ∧ I 190 (8 * i + g) = A (10 + 12 * i + g) 4 ∧ I 193 (8 * i + g) = A (10 + 12 * i + g) 5 ∧ I 194 (8 * i + g) = A (10 + 12 * i + g) 6 ∧ I 192 (8 * i + g) = A (10 + 12 * i + g) 7 ∧ I 191 (8 * i + g) = A (10 + 12 * i + g) 8 :=
  ⟨R i g 0 hi hg (by omega), R i g 1 hi hg (by omega), R i g 2 hi hg (by omega), R i g 3 hi hg (by omega), R i g 4 hi hg (by omega), R i g 5 hi hg (by omega), R i g 6 hi hg (by omega), R i g 7 hi hg (by omega), R i g 8 hi hg (by omega)⟩
theorem RE_show {A I : jHp} {i g : Nat} (R : RE A I) (hi : i < 8) (hg : g < 8) : RE (eShow (10 + 12 * i + g) A) (mShow (8 * i + g) I) := by
  obtain ⟨e0, e1, -⟩ := RE_g R hi hg
  unfold eShow mShow
  rw [e0, e1, up_cm (Or.inr (by omega))]
  exact RE_up (RE_up (RE_up (RE_up R hi hg (s := 3) (by omega)) hi hg (s := 4) (by omega)) hi hg (s := 8) (by omega)) hi hg (s := 7) (by omega)
theorem RE_lose {A I : jHp} {i g : Nat} (R : RE A I) (hi : i < 8) (hg : g < 8) : RE (eLose (10 + 12 * i + g) A) (mLoseE (8 * i + g) I) := by
  obtain ⟨e0, -⟩ := RE_g R hi hg
  unfold eLose mLoseE
  rw [e0]
  exact RE_show (RE_up (RE_up (RE_up R hi hg (s := 0) (by omega)) hi hg (s := 1) (by omega)) hi hg (s := 2) (by omega)) hi hg
theorem RE_settle {A I : jHp} {i g : Nat} {now : Int32} (R : RE A I) (hi : i < 8) (hg : g < 8) (hn : I 182 1 = now) : RE (eSettle (10 + 12 * i + g) now A) (mSettleE (8 * i + g) I) := by
  obtain ⟨-, -, -, -, -, e5, e6, e7, -⟩ := RE_g R hi hg
  unfold eSettle mSettleE
  rw [e5, e6, e7, hn]
  by_cases h1 : A (10 + 12 * i + g) 7 = 0
  · rw [if_pos h1, if_pos (Or.inl h1)]; exact R
  · rw [if_neg h1]
    by_cases h2 : 4 * (now - A (10 + 12 * i + g) 5) < 2 * A (10 + 12 * i + g) 6
    · rw [if_pos h2, if_pos (Or.inr h2)]; exact R
    · rw [if_neg h2, if_neg (fun z => z.elim h1 h2)]; exact RE_show R hi hg
theorem RE_t3 {A I : jHp} {i g : Nat} {m : Int32} (R : RE A I) (hi : i < 8) (hg : g < 8) (em : A (10 + 12 * i + g) 1 = m) (h1 : -1 ≤ m.toInt) (h3 : -1 ≤ (A (10 + 12 * i + g) 3).toInt) (h4 : -1 ≤ (A (10 + 12 * i + g) 4).toInt) (h34 : A (10 + 12 * i + g) 3 = -1 → A (10 + 12 * i + g) 4 = -1) : RE (eT3 (10 + 12 * i + g) A) (mT5 (8 * i + g) m I) := by
  obtain ⟨-, -, -, e3, e4, -, e6, -⟩ := RE_g R hi hg
  unfold eT3 mT5 eAt
  rw [e3, e4, e6, em]
  simp only [m1_iff h1, m1_iff h3, m1_iff h4]
  generalize A (10 + 12 * i + g) 3 = a3 at h34
  generalize ha4 : A (10 + 12 * i + g) 4 = a4 at h34
  by_cases c1 : m = -1
  · rw [if_pos c1, if_neg (by decide), if_pos (Or.inl c1)]; exact RE_show R hi hg
  rw [if_neg c1]
  by_cases c2 : a4 = -1
  · rw [if_pos c2, if_neg (by decide), if_pos (Or.inr (Or.inr (Or.inl c2)))]; exact RE_show R hi hg
  rw [if_neg c2]
  by_cases c3 : m ≤ a4
  · rw [if_pos c3, if_neg (by decide), if_pos (Or.inr (Or.inr (Or.inr (Or.inl c3))))]; exact RE_show R hi hg
  rw [if_neg c3]
  by_cases c4 : A (10 + 12 * i + g) 6 = 0
  · rw [if_pos c4, if_neg (by decide), if_pos (Or.inr (Or.inr (Or.inr (Or.inr c4))))]; exact RE_show R hi hg
  rw [if_neg c4, if_pos rfl, if_neg (fun z => z.elim c1 (fun z => z.elim (fun z => c2 (h34 z)) (fun z => z.elim c2 (fun z => z.elim c3 c4))))]
  exact RE_up R hi hg (s := 7) (by omega)
theorem RE_take {A I : jHp} {i g : Nat} {n m f now : Int32} {B : Int} (R : RE A I) (V : Vent B (A (10 + 12 * i + g))) (hi : i < 8) (hg : g < 8) (hm : -1 ≤ m.toInt) (hn : I 182 1 = now) : RE (eTake (10 + 12 * i + g) n m f now A) (mTake i g n m f I) := by
  obtain ⟨e0, -, -, -, -, e5, e6, -⟩ := RE_g R hi hg
  obtain ⟨-, -, -, v3, v4, v34, -⟩ := V
  have fin : ∀ (A1 I1 : jHp), RE A1 I1 → A1 (10 + 12 * i + g) 3 = A (10 + 12 * i + g) 3 → A1 (10 + 12 * i + g) 4 = A (10 + 12 * i + g) 4 → RE (eT2 (10 + 12 * i + g) n m f A1) (mT4 (8 * i + g) n m f I1) := by
    intro A1 I1 R1 a3 a4
    unfold eT2 mT4
    have e : (if 0 ≤ m then f else -1) = (if m = -1 then -1 else f) := by
      by_cases c : m = -1
      · rw [if_pos c, if_neg (fun z => absurd ((m1_iff hm).mpr c) (Int32.not_lt.mpr z))]
      · rw [if_neg c, if_pos (Int32.not_lt.mp (fun z => c ((m1_iff hm).mp z)))]
    rw [e]
    refine RE_t3 (RE_up (RE_up (RE_up R1 hi hg (s := 0) (by omega)) hi hg (s := 1) (by omega)) hi hg (s := 2) (by omega)) hi hg ?_ hm ?_ ?_ ?_
    · rw [up_i (by omega), up_s]
    · rw [up_i (by omega), up_i (by omega), up_i (by omega), a3]; exact v3.1
    · rw [up_i (by omega), up_i (by omega), up_i (by omega), a4]; exact v4.1
    · rw [up_i (by omega), up_i (by omega), up_i (by omega), up_i (by omega), up_i (by omega), up_i (by omega), a3, a4]; exact v34
  unfold eTake mTake mT2 mT3
  by_cases c : n = A (10 + 12 * i + g) 0
  · simp only [e0, if_pos c, show ¬ (1 : Int32) = 0 by decide, if_false]
    rw [up_id, e5, e6, hn]
    refine fin _ _ (RE_up R hi hg (s := 6) (by omega)) (up_i (by omega)) (up_i (by omega))
  · simp only [e0, if_neg c, if_true]
    rw [up_id]
    by_cases c2 : m = -1
    · rw [if_pos ((m1_iff hm).mpr c2), if_pos c2, up_id]
      exact fin _ _ R rfl rfl
    · rw [if_neg (fun z => c2 ((m1_iff hm).mp z)), if_neg c2, hn]
      refine fin _ _ (RE_up R hi hg (s := 5) (by omega)) (up_i (by omega)) (up_i (by omega))
theorem Bet_eq {A I : jHp} {i g : Nat} {n m : Int32} {B : Int} (R : RE A I) (V : Vent B (A (10 + 12 * i + g))) (hi : i < 8) (hg : g < 8) (hm : -1 ≤ m.toInt) : (¬ 15 < m ∧ ¬ mBet I (8 * i + g) n m = 0) ↔ ¬ eBet A (10 + 12 * i + g) n m = 0 := by
  obtain ⟨e0, e1, -⟩ := RE_g R hi hg
  obtain ⟨v0, -⟩ := V
  unfold mBet eBet
  rw [e0, e1]
  simp only [m1_iff hm]
  generalize A (10 + 12 * i + g) 0 = a0 at v0
  generalize A (10 + 12 * i + g) 1 = a1
  by_cases c0 : m ≤ 15
  · have c0' : ¬ 15 < m := Int32.not_lt.mpr c0
    rw [if_pos c0]
    by_cases c1 : a0 = -1
    · rw [if_pos c1, if_neg (fun z => absurd ((m1_iff v0.1).mpr c1) (Int32.not_lt.mpr z))]
      exact ⟨fun z => z.2, fun z => ⟨c0', z⟩⟩
    · rw [if_neg c1, if_pos (Int32.not_lt.mp (fun z => c1 ((m1_iff v0.1).mp z)))]
      by_cases c2 : n = a0
      · rw [if_pos c2, if_neg (fun z => absurd z (by rw [c2]; exact Int32.lt_irrefl)), if_pos c2]
        exact ⟨fun z => z.2, fun z => ⟨c0', z⟩⟩
      · rw [if_neg c2, if_neg c2]
        by_cases c3 : n ≤ a0
        · rw [if_pos c3, if_neg (Int32.not_lt.mpr c3)]
          exact ⟨fun z => z.2, fun z => ⟨c0', z⟩⟩
        · rw [if_neg c3, if_pos (Int32.not_le.mp c3)]
          exact ⟨fun z => z.2, fun z => ⟨c0', z⟩⟩
  · rw [if_neg c0]
    exact ⟨fun z => absurd (Int32.not_le.mp c0) z.1, fun z => absurd rfl z⟩
