/-! the relation: best -/
def St (on : Nat → Bool) (lk : Nat → Nat → Bool) (a : Nat) : Nat → Nat → Bool
  | 0, l => decide (l = a)
  | n + 1, l => St on lk a n l || (on l && (List.range 8).any (fun k => St on lk a n k && lk k l))
section
variable {on : Nat → Bool} {lk : Nat → Nat → Bool} {a : Nat}
theorem St_s {n l : Nat} : St on lk a (n + 1) l = true ↔ St on lk a n l = true ∨ (on l = true ∧ ∃ k, k < 8 ∧ St on lk a n k = true ∧ lk k l = true) := by
  rw [St, Bool.or_eq_true, Bool.and_eq_true, List.any_eq_true]
  constructor
  · rintro (h | ⟨h, k, hk, h2⟩)
    · exact Or.inl h
    · rw [Bool.and_eq_true] at h2
      exact Or.inr ⟨h, k, List.mem_range.mp hk, h2.1, h2.2⟩
  · rintro (h | ⟨h, k, hk, h2, h3⟩)
    · exact Or.inl h
    · exact Or.inr ⟨h, k, List.mem_range.mpr hk, by rw [Bool.and_eq_true]; exact ⟨h2, h3⟩⟩
theorem St_m {n l : Nat} (h : St on lk a n l = true) : ∀ m, n ≤ m → St on lk a m l = true := by
  intro m hm
  induction m with
  | zero => rw [show n = 0 by omega] at h; exact h
  | succ m ih =>
    by_cases e : n = m + 1
    · rw [← e]; exact h
    · exact St_s.mpr (Or.inl (ih (by omega)))
theorem St_f {n l m : Nat} (h : St on lk a n l = false) (hm : m ≤ n) : St on lk a m l = false := by
  cases e : St on lk a m l with
  | false => rfl
  | true => rw [St_m e n hm] at h; exact h
def cS (S : Nat → Bool) : Nat → Nat
  | 0 => 0
  | k + 1 => cS S k + (if S k = true then 1 else 0)
theorem cS_le {S : Nat → Bool} : ∀ k, cS S k ≤ k := by
  intro k
  induction k with
  | zero => exact Nat.le_refl 0
  | succ k ih => rw [cS]; split <;> omega
theorem cS_mono {S T : Nat → Bool} (h : ∀ l, S l = true → T l = true) : ∀ k, cS S k ≤ cS T k := by
  intro k
  induction k with
  | zero => exact Nat.le_refl 0
  | succ k ih =>
    rw [cS, cS]
    by_cases e : S k = true
    · rw [if_pos e, if_pos (h k e)]; omega
    · rw [if_neg e]; omega
theorem cS_lt {S T : Nat → Bool} (h : ∀ l, S l = true → T l = true) {l : Nat} (h1 : S l = false) (h2 : T l = true) : ∀ k, l < k → cS S k + 1 ≤ cS T k := by
  intro k
  induction k with
  | zero => intro q; omega
  | succ k ih =>
    intro q
    rw [cS, cS]
    by_cases e : l = k
    · subst e
      have := cS_mono h l
      rw [if_neg (by rw [h1]; decide), if_pos h2]; omega
    · have := ih (by omega)
      by_cases e2 : S k = true
      · rw [if_pos e2, if_pos (h k e2)]; omega
      · rw [if_neg e2]; omega
/-- a still step stays -/
theorem St_still {n : Nat} (h : ∀ l, l < 8 → St on lk a (n + 1) l = true → St on lk a n l = true) : ∀ m, n ≤ m → ∀ l, l < 8 → St on lk a m l = true → St on lk a n l = true := by
  intro m hm
  induction m with
  | zero => intro l _ q; rw [show n = 0 by omega]; exact q
  | succ m ih =>
    intro l hl q
    by_cases e : n = m + 1
    · rw [e]; exact q
    · rcases St_s.mp q with q | ⟨q1, k, q2, q3, q4⟩
      · exact ih (by omega) l hl q
      · exact h l hl (St_s.mpr (Or.inr ⟨q1, k, q2, ih (by omega) k q2 q3, q4⟩))
theorem St_grow {n b : Nat} (hb : b < 8) (h1 : St on lk a n b = false) (h2 : St on lk a (n + 1) b = true) : ∀ m, m ≤ n + 1 → m ≤ cS (St on lk a m) 8 := by
  intro m
  induction m with
  | zero => intro _; exact Nat.zero_le _
  | succ m ih =>
    intro hm
    have := ih (by omega)
    have ex : ∃ l, l < 8 ∧ St on lk a m l = false ∧ St on lk a (m + 1) l = true := by
      refine Classical.byContradiction fun q => ?_
      have st : ∀ l, l < 8 → St on lk a (m + 1) l = true → St on lk a m l = true := by
        intro l hl e
        cases e2 : St on lk a m l with
        | true => rfl
        | false => exact absurd ⟨l, hl, e2, e⟩ q
      have := St_still st (n + 1) (by omega) b hb h2
      rw [St_m this n (by omega)] at h1
      exact absurd h1 (by decide)
    obtain ⟨l, hl, e1, e2⟩ := ex
    have := cS_lt (S := St on lk a m) (T := St on lk a (m + 1)) (fun l q => St_m q (m + 1) (by omega)) e1 e2 8 hl
    omega
/-- no way of eight links is a shortest one -/
theorem St_8 {b : Nat} (ha : a < 8) (hb : b < 8) (h1 : St on lk a 7 b = false) : St on lk a 8 b = false := by
  cases e : St on lk a 8 b with
  | false => rfl
  | true =>
    exfalso
    have g := St_grow (on := on) (lk := lk) (a := a) hb h1 e
    have g0 : 1 ≤ cS (St on lk a 0) 8 := by
      have := cS_lt (S := fun _ => false) (T := St on lk a 0) (fun l q => absurd q (by decide)) (l := a) rfl (by rw [St]; exact decide_eq_true rfl) 8 ha
      omega
    have step : ∀ m, m ≤ 8 → m + 1 ≤ cS (St on lk a m) 8 := by
      intro m
      induction m with
      | zero => intro _; exact g0
      | succ m ih =>
        intro hm
        have := ih (by omega)
        have ex : ∃ l, l < 8 ∧ St on lk a m l = false ∧ St on lk a (m + 1) l = true := by
          refine Classical.byContradiction fun q => ?_
          have st : ∀ l, l < 8 → St on lk a (m + 1) l = true → St on lk a m l = true := by
            intro l hl e
            cases e2 : St on lk a m l with
            | true => rfl
            | false => exact absurd ⟨l, hl, e2, e⟩ q
          have := St_still st 8 (by omega) b hb e
          rw [St_m this 7 (by omega)] at h1
          exact absurd h1 (by decide)
        obtain ⟨l, hl, e1, e2⟩ := ex
        have := cS_lt (S := St on lk a m) (T := St on lk a (m + 1)) (fun l q => St_m q (m + 1) (by omega)) e1 e2 8 hl
        omega
    have := step 8 (by omega)
    have := cS_le (S := St on lk a 8) 8
    omega
end
/-! the reference's rounds -/
abbrev fC (I : jHp) (rd : Nat) (f : Nat → Int32) (k j : Nat) : Prop := f k = nI rd ∧ ¬ I 184 (8 * k + j) = 0 ∧ ¬ I 183 j = 0 ∧ f j < 0
theorem fL_v {I : jHp} {rd k : Nat} (hrd : rd < 1000) : ∀ r l (f : Nat → Int32) j, fL I rd k r l f j = if (l ≤ j ∧ j < l + r) ∧ fC I rd f k j then nI (rd + 1) else f j := by
  intro r
  induction r with
  | zero => intro l f j; rw [fL, if_neg (by omega)]
  | succ r ih =>
    intro l f j
    rw [fL]
    generalize ef : upd f l (if f k = nI rd ∧ ¬ I 184 (8 * k + l) = 0 ∧ ¬ I 183 l = 0 ∧ f l < 0 then nI (rd + 1) else f l) = f1
    have f1l : f1 l = if fC I rd f k l then nI (rd + 1) else f l := by rw [← ef]; unfold upd; rw [if_pos rfl]
    have f1o : ∀ x, x ≠ l → f1 x = f x := fun x h => by rw [← ef]; unfold upd; rw [if_neg h]
    have f1k : f1 k = nI rd ↔ f k = nI rd := by
      by_cases e : k = l
      · rw [e, f1l]
        by_cases c : fC I rd f k l
        · rw [if_pos c]
          constructor
          · intro q
            have := (nI_eq (by omega) (by omega)).mp q
            omega
          · intro q
            have c4 := c.2.2.2
            rw [q] at c4
            exact absurd c4 (nI_pos (by omega))
        · rw [if_neg c]
      · rw [f1o k e]
    rw [ih]
    by_cases e : j = l
    · subst e
      rw [if_neg (by omega), f1l]
      by_cases c : fC I rd f k j
      · rw [if_pos c, if_pos ⟨by omega, c⟩]
      · rw [if_neg c, if_neg (fun q => c q.2)]
    · have cc : fC I rd f1 k j ↔ fC I rd f k j := by unfold fC; rw [f1k, f1o j e]
      by_cases c : fC I rd f k j
      · by_cases h : l ≤ j ∧ j < l + (r + 1)
        · rw [if_pos ⟨by omega, cc.mpr c⟩, if_pos ⟨h, c⟩]
        · rw [if_neg (fun q => h (by omega)), if_neg (fun q => h q.1), f1o j e]
      · rw [if_neg (fun q => c (cc.mp q.2)), if_neg (fun q => c q.2), f1o j e]
theorem fK_v {I : jHp} {rd : Nat} (hrd : rd < 1000) : ∀ r k (f : Nat → Int32) j, j < 8 → ((∃ k', (k ≤ k' ∧ k' < k + r) ∧ fC I rd f k' j) → fK I rd r k f j = nI (rd + 1)) ∧ ((¬ ∃ k', (k ≤ k' ∧ k' < k + r) ∧ fC I rd f k' j) → fK I rd r k f j = f j) := by
  intro r
  induction r with
  | zero => intro k f j _; exact ⟨fun ⟨k', h, _⟩ => by omega, fun _ => rfl⟩
  | succ r ih =>
    intro k f j hj
    rw [fK]
    generalize ef : fL I rd k 8 0 f = f1
    have f1v : ∀ x, f1 x = if (0 ≤ x ∧ x < 0 + 8) ∧ fC I rd f k x then nI (rd + 1) else f x := fun x => by rw [← ef]; exact fL_v hrd 8 0 f x
    have f1n : ∀ x, f1 x = nI rd ↔ f x = nI rd := by
      intro x
      rw [f1v]
      by_cases c : (0 ≤ x ∧ x < 0 + 8) ∧ fC I rd f k x
      · rw [if_pos c]
        constructor
        · intro q
          have := (nI_eq (by omega) (by omega)).mp q
          omega
        · intro q
          have c4 := c.2.2.2.2
          rw [q] at c4
          exact absurd c4 (nI_pos (by omega))
      · rw [if_neg c]
    obtain ⟨i1, i2⟩ := ih (k + 1) f1 j hj
    by_cases c : fC I rd f k j
    · have e1 : f1 j = nI (rd + 1) := by rw [f1v, if_pos ⟨by omega, c⟩]
      have nn : ¬ ∃ k', (k + 1 ≤ k' ∧ k' < k + 1 + r) ∧ fC I rd f1 k' j := by
        rintro ⟨k', _, q⟩
        have q4 := q.2.2.2
        rw [e1] at q4
        exact absurd q4 (nI_pos (by omega))
      exact ⟨fun _ => by rw [i2 nn, e1], fun q => absurd ⟨k, by omega, c⟩ q⟩
    · have e1 : f1 j = f j := by rw [f1v, if_neg (fun q => c q.2)]
      have cc : ∀ k', fC I rd f1 k' j ↔ fC I rd f k' j := by intro k'; unfold fC; rw [f1n, e1]
      refine ⟨?_, ?_⟩
      · rintro ⟨k', h, q⟩
        by_cases e : k' = k
        · exact absurd (e ▸ q) c
        · exact i1 ⟨k', by omega, (cc k').mpr q⟩
      · intro h
        rw [i2 (fun ⟨k', a, b⟩ => h ⟨k', by omega, (cc k').mp b⟩), e1]
theorem fI_v {I : jHp} {a : Nat} : ∀ r k (f : Nat → Int32) j, fI I a r k f j = if k ≤ j ∧ j < k + r then (if j = a ∧ ¬ I 183 a = 0 then 0 else -1) else f j := by
  intro r
  induction r with
  | zero => intro k f j; rw [fI, if_neg (by omega)]
  | succ r ih =>
    intro k f j
    rw [fI, ih]
    unfold upd
    by_cases e : j = k
    · subst e
      rw [if_neg (show ¬ (j + 1 ≤ j ∧ j < j + 1 + r) by omega), if_pos rfl, if_pos (show j ≤ j ∧ j < j + (r + 1) by omega)]
    · rw [if_neg e]
      by_cases h : k + 1 ≤ j ∧ j < k + 1 + r
      · rw [if_pos h, if_pos (show k ≤ j ∧ j < k + (r + 1) by omega)]
      · rw [if_neg h, if_neg (show ¬ (k ≤ j ∧ j < k + (r + 1)) by omega)]
def Dst (S : Nat → Nat → Bool) (f : Nat → Int32) (rd : Nat) : Prop := ∀ l, l < 8 → (f l = -1 ∧ S rd l = false) ∨ ∃ d, d ≤ rd ∧ f l = nI d ∧ S d l = true ∧ ∀ e, e < d → S e l = false
theorem Dst_s {I : jHp} {on : Nat → Bool} {lk : Nat → Nat → Bool} {a rd : Nat} {f : Nat → Int32} (hrd : rd < 900) (ho : ∀ l, l < 8 → (on l = true ↔ ¬ I 183 l = 0)) (hl : ∀ k l, k < 8 → l < 8 → (lk k l = true ↔ ¬ I 184 (8 * k + l) = 0)) (D : Dst (St on lk a) f rd) : Dst (St on lk a) (fK I rd 8 0 f) (rd + 1) := by
  intro j hj
  obtain ⟨i1, i2⟩ := fK_v (I := I) (rd := rd) (by omega) 8 0 f j hj
  rcases D j hj with ⟨d1, d2⟩ | ⟨d, d1, d2, d3, d4⟩
  · by_cases c : ∃ k', (0 ≤ k' ∧ k' < 0 + 8) ∧ fC I rd f k' j
    · right
      refine ⟨rd + 1, by omega, i1 c, ?_, fun e he => St_f d2 (by omega)⟩
      obtain ⟨k', hk', c1, c2, c3, c4⟩ := c
      rcases D k' (by omega) with ⟨q1, _⟩ | ⟨d, q1, q2, q3, _⟩
      · rw [q1] at c1
        have := congrArg Int32.toInt c1
        rw [tm1, nI_toInt (by omega)] at this
        omega
      · rw [c1] at q2
        have := (nI_eq (by omega) (by omega)).mp q2
        rw [← this] at q3
        exact St_s.mpr (Or.inr ⟨(ho j hj).mpr c3, k', by omega, q3, (hl k' j (by omega) hj).mpr c2⟩)
    · left
      refine ⟨by rw [i2 c]; exact d1, ?_⟩
      cases e : St on lk a (rd + 1) j with
      | false => rfl
      | true =>
        exfalso
        rcases St_s.mp e with q | ⟨q1, k, q2, q3, q4⟩
        · rw [d2] at q; exact absurd q (by decide)
        · rcases D k q2 with ⟨_, z⟩ | ⟨d, z1, z2, z3, _⟩
          · rw [z] at q3; exact absurd q3 (by decide)
          · by_cases ed : d = rd
            · subst ed
              exact c ⟨k, by omega, z2, (hl k j q2 hj).mp q4, (ho j hj).mp q1, by rw [d1]; decide⟩
            · have : St on lk a (d + 1) j = true := St_s.mpr (Or.inr ⟨q1, k, q2, z3, q4⟩)
              rw [St_m this rd (by omega)] at d2
              exact absurd d2 (by decide)
  · right
    refine ⟨d, by omega, ?_, d3, d4⟩
    rw [i2, d2]
    rintro ⟨k', _, _, _, _, c4⟩
    rw [d2] at c4
    exact absurd c4 (nI_pos (by omega))
theorem Dst_R {I : jHp} {on : Nat → Bool} {lk : Nat → Nat → Bool} {a : Nat} (ho : ∀ l, l < 8 → (on l = true ↔ ¬ I 183 l = 0)) (hl : ∀ k l, k < 8 → l < 8 → (lk k l = true ↔ ¬ I 184 (8 * k + l) = 0)) : ∀ r rd f, rd + r = 8 → Dst (St on lk a) f rd → Dst (St on lk a) (fR I r rd f) 8 := by
  intro r
  induction r with
  | zero => intro rd f h D; rw [show rd = 8 by omega] at D; exact D
  | succ r ih => intro rd f h D; exact ih (rd + 1) _ (by omega) (Dst_s (by omega) ho hl D)
theorem off_R {I : jHp} : ∀ r rd (f : Nat → Int32), rd + r = 8 → (∀ j, j < 8 → f j = -1) → ∀ j, j < 8 → fR I r rd f j = -1 := by
  intro r
  induction r with
  | zero => intro rd f _ h; exact h
  | succ r ih =>
    intro rd f hr h
    refine ih (rd + 1) _ (by omega) (fun j hj => ?_)
    rw [(fK_v (I := I) (rd := rd) (by omega) 8 0 f j hj).2, h j hj]
    rintro ⟨k', hk', c1, _⟩
    rw [h k' (by omega)] at c1
    have := congrArg Int32.toInt c1
    rw [tm1, nI_toInt (by omega)] at this
    omega
/-! the class's sets -/
def Bts (x : Int32) (S : Nat → Bool) : Prop := (∀ l, l < 8 → bt x l = S l) ∧ ∀ l, 8 ≤ l → l < 32 → bt x l = false
theorem and0 {y x : Int32} {S : Nat → Bool} (h : Bts x S) : y &&& x = 0 ↔ ∀ k, k < 8 → ¬ (bt y k = true ∧ S k = true) := by
  constructor
  · intro e k hk q
    have : bt (y &&& x) k = false := by rw [e]; exact bt_z k
    rw [bt_and, h.1 k hk, q.1, q.2] at this
    exact absurd this (by decide)
  · intro e
    refine bt_ext (fun l hl => ?_)
    rw [bt_and, bt_z]
    by_cases q : l < 8
    · rw [h.1 l q]
      have := e l q
      revert this
      cases bt y l <;> cases S l <;> simp
    · rw [h.2 l (by omega) hl, Bool.and_false]
theorem nFur_v {A : jHp} {on : Nat → Bool} {lk : Nat → Nat → Bool} {a n : Nat} {x : Int32} (ho : ∀ l, l < 8 → (on l = true ↔ ¬ A (6 + 12 * l) 6 = 0)) (hl : ∀ k l, k < 8 → l < 8 → (lk k l = true ↔ bt (A (6 + 12 * l) 5) k = true)) (hx : Bts x (St on lk a n)) : ∀ r i f, i + r = 8 → Bts f (fun l => if l < i then St on lk a (n + 1) l else St on lk a n l) → Bts (nFur A x r i f) (St on lk a (n + 1)) := by
  intro r
  induction r with
  | zero =>
    intro i f h B
    refine ⟨fun l hl => ?_, B.2⟩
    have q : bt f l = if l < i then St on lk a (n + 1) l else St on lk a n l := B.1 l hl
    rw [if_pos (by omega)] at q
    exact q
  | succ r ih =>
    intro i f h B
    rw [nFur]
    have i8 : i < 8 := by omega
    have keep : (St on lk a (n + 1) i = St on lk a n i) → Bts f (fun l => if l < i + 1 then St on lk a (n + 1) l else St on lk a n l) := by
      intro e
      refine ⟨fun l hl => ?_, B.2⟩
      have q : bt f l = if l < i then St on lk a (n + 1) l else St on lk a n l := B.1 l hl
      show bt f l = if l < i + 1 then St on lk a (n + 1) l else St on lk a n l
      rw [q]
      by_cases e1 : l < i
      · rw [if_pos e1, if_pos (by omega)]
      · rw [if_neg e1]
        by_cases e2 : l = i
        · rw [e2, if_pos (by omega), e]
        · rw [if_neg (by omega)]
    refine ih (i + 1) _ (by omega) ?_
    by_cases c1 : A (6 + 12 * i) 6 = 0
    · rw [if_pos c1]
      refine keep ?_
      cases e : St on lk a (n + 1) i with
      | false => exact (St_f e (by omega)).symm
      | true =>
        rcases St_s.mp e with q | ⟨q, _⟩
        · exact q.symm
        · exact absurd c1 ((ho i i8).mp q)
    · rw [if_neg c1]
      by_cases c2 : A (6 + 12 * i) 5 &&& x = 0
      · rw [if_pos c2]
        refine keep ?_
        cases e : St on lk a (n + 1) i with
        | false => exact (St_f e (by omega)).symm
        | true =>
          rcases St_s.mp e with q | ⟨_, k, q2, q3, q4⟩
          · exact q.symm
          · exact absurd ⟨(hl k i q2 i8).mp q4, q3⟩ ((and0 hx).mp c2 k q2)
      · rw [if_neg c2]
        have e1 : St on lk a (n + 1) i = true := by
          refine Classical.byContradiction fun q => c2 ((and0 hx).mpr fun k hk z => q ?_)
          exact St_s.mpr (Or.inr ⟨(ho i i8).mpr c1, k, hk, z.2, (hl k i hk i8).mpr z.1⟩)
        refine ⟨fun l hl => ?_, fun l h1 h2 => ?_⟩
        · have q : bt f l = if l < i then St on lk a (n + 1) l else St on lk a n l := B.1 l hl
          show bt (f ||| pw i) l = if l < i + 1 then St on lk a (n + 1) l else St on lk a n l
          rw [bt_or, pw_bt i i8 l (by omega), q]
          by_cases e2 : l = i
          · rw [e2, decide_eq_true rfl, Bool.or_true, if_pos (by omega), e1]
          · rw [decide_eq_false e2, Bool.or_false]
            by_cases e3 : l < i
            · rw [if_pos e3, if_pos (by omega)]
            · rw [if_neg e3, if_neg (by omega)]
        · show bt (f ||| pw i) l = _
          rw [bt_or, pw_bt i i8 l h2, B.2 l h1 h2, decide_eq_false (by omega)]; rfl
theorem nBestF_v {A : jHp} {on : Nat → Bool} {lk : Nat → Nat → Bool} {a b : Nat} (hb : b < 8) (ho : ∀ l, l < 8 → (on l = true ↔ ¬ A (6 + 12 * l) 6 = 0)) (hl : ∀ k l, k < 8 → l < 8 → (lk k l = true ↔ bt (A (6 + 12 * l) 5) k = true)) : ∀ r k x, k + r = 8 → Bts x (St on lk a k) → (∀ e, e < k → St on lk a e b = false) → (nBestF A b r k x = -1 ∧ ∀ d, d < 8 → St on lk a d b = false) ∨ ∃ d, d < 8 ∧ nBestF A b r k x = nI d ∧ St on lk a d b = true ∧ ∀ e, e < d → St on lk a e b = false := by
  intro r
  induction r with
  | zero => intro k x hk _ h; exact Or.inl ⟨rfl, fun d hd => h d (by omega)⟩
  | succ r ih =>
    intro k x hk B h
    rw [nBestF]
    by_cases c : x &&& pw b = 0
    · rw [if_pos (show x &&& 1 <<< (nI b &&& 31) = 0 from c)]
      have e : St on lk a k b = false := by rw [← B.1 b hb]; exact (bt_iff hb).mp c
      refine ih (k + 1) _ (by omega) (nFur_v ho hl B 8 0 x rfl ⟨fun l hl => by show bt x l = if l < 0 then St on lk a (k + 1) l else St on lk a k l; rw [if_neg (by omega)]; exact B.1 l hl, B.2⟩) (fun d hd => ?_)
      by_cases q : d = k
      · rw [q]; exact e
      · exact h d (by omega)
    · rw [if_neg (show ¬ x &&& 1 <<< (nI b &&& 31) = 0 from c)]
      refine Or.inr ⟨k, by omega, rfl, ?_, h⟩
      rw [← B.1 b hb]
      cases e : bt x b with
      | true => rfl
      | false => exact absurd ((bt_iff hb).mpr e) c
theorem sF_k {I : jHp} {f : Nat → Int32} {r j : Nat} (h : r ≠ 208) : sF I f r j = I r j := by unfold sF; rw [if_neg h]
theorem best_eq {A I : jHp} {a b : Nat} (ha : a < 8) (hb : b < 8) (R : RR A I) (V : VL A) : mFar I a b = nBest A a b := by
  have ro := R.2.1
  have rl := R.2.2.1
  let on : Nat → Bool := fun l => decide (¬ I 183 l = 0)
  let lk : Nat → Nat → Bool := fun k l => decide (¬ I 184 (8 * k + l) = 0)
  have jo : ∀ j, jm_up I 182 0 0 183 j = I 183 j := fun j => up_k (by omega)
  have jl : ∀ j, jm_up I 182 0 0 184 j = I 184 j := fun j => up_k (by omega)
  have hoJ : ∀ l, l < 8 → (on l = true ↔ ¬ jm_up I 182 0 0 183 l = 0) := fun l _ => by rw [jo]; exact decide_eq_true_iff
  have hlJ : ∀ k l, k < 8 → l < 8 → (lk k l = true ↔ ¬ jm_up I 182 0 0 184 (8 * k + l) = 0) := fun k l _ _ => by rw [jl]; exact decide_eq_true_iff
  have hoA : ∀ l, l < 8 → (on l = true ↔ ¬ A (6 + 12 * l) 6 = 0) := fun l h => by rw [← ro l h]; exact decide_eq_true_iff
  have hlA : ∀ k l, k < 8 → l < 8 → (lk k l = true ↔ bt (A (6 + 12 * l) 5) k = true) := by
    intro k l hk hl
    have e : I 184 (8 * k + l) = if bt (A (6 + 12 * l) 5) k then 1 else 0 := by rw [rl k l hk hl, V k l hk hl, bL_bt hk]
    show decide (¬ I 184 (8 * k + l) = 0) = true ↔ _
    rw [decide_eq_true_iff, e]
    cases bt (A (6 + 12 * l) 5) k <;> decide
  unfold mFar
  have f0 : ∀ j, j < 8 → fI (jm_up I 182 0 0) a 8 0 (I 208) j = if j = a ∧ ¬ I 183 a = 0 then 0 else -1 := fun j hj => by rw [fI_v, if_pos (by omega), jo]
  unfold nBest
  by_cases oa : A (6 + 12 * a) 6 = 0
  · rw [if_pos oa]
    exact off_R 8 0 _ rfl (fun j hj => by rw [f0 j hj, if_neg (fun q => q.2 (by rw [ro a ha]; exact oa))]) b hb
  rw [if_neg oa]
  have oa' : ¬ I 183 a = 0 := by rw [ro a ha]; exact oa
  have D0 : Dst (St on lk a) (fI (jm_up I 182 0 0) a 8 0 (I 208)) 0 := by
    intro l hl
    rw [f0 l hl]
    by_cases e : l = a
    · rw [if_pos ⟨e, oa'⟩]
      exact Or.inr ⟨0, by omega, rfl, by rw [St]; exact decide_eq_true e, fun e he => by omega⟩
    · rw [if_neg (fun q => e q.1)]
      exact Or.inl ⟨rfl, by rw [St]; exact decide_eq_false e⟩
  have D8 := Dst_R hoJ hlJ 8 0 _ rfl D0
  generalize fR (jm_up I 182 0 0) 8 0 (fI (jm_up I 182 0 0) a 8 0 (I 208)) = f8 at D8
  by_cases ob : A (6 + 12 * b) 6 = 0
  · rw [if_pos ob]
    have hf : ∀ n, St on lk a n b = false := by
      intro n
      induction n with
      | zero => rw [St]; exact decide_eq_false (fun e => oa (by rw [← e]; exact ob))
      | succ n ih =>
        cases e : St on lk a (n + 1) b with
        | false => rfl
        | true =>
          rcases St_s.mp e with q | ⟨q, _⟩
          · rw [ih] at q; exact absurd q (by decide)
          · exact absurd ob ((hoA b hb).mp q)
    rcases D8 b hb with ⟨q, _⟩ | ⟨d, _, _, q, _⟩
    · exact q
    · rw [hf d] at q; exact absurd q (by decide)
  rw [if_neg ob]
  rcases nBestF_v (a := a) hb hoA hlA 8 0 (pw a) rfl ⟨fun l hl => by rw [pw_bt a ha l (by omega)]; rfl, fun l h1 h2 => by rw [pw_bt a ha l h2]; exact decide_eq_false (by omega)⟩ (fun e he => by omega) with ⟨n1, n2⟩ | ⟨d, n1, n2, n3, n4⟩
  · refine Eq.trans ?_ n1.symm
    rcases D8 b hb with ⟨q, _⟩ | ⟨d, q1, q2, q3, q4⟩
    · exact q
    · exfalso
      by_cases e : d < 8
      · rw [n2 d e] at q3; exact absurd q3 (by decide)
      · rw [show d = 8 by omega, St_8 ha hb (n2 7 (by omega))] at q3; exact absurd q3 (by decide)
  · refine Eq.trans ?_ n2.symm
    rcases D8 b hb with ⟨_, q⟩ | ⟨d', q1, q2, q3, q4⟩
    · rw [St_m n3 8 (by omega)] at q; exact absurd q (by decide)
    · have : d' = d := by
        rcases Nat.lt_trichotomy d' d with h | h | h
        · rw [n4 d' h] at q3; exact absurd q3 (by decide)
        · exact h
        · rw [q4 d h] at n3; exact absurd n3 (by decide)
      rw [q2, this]
section
variable {L N t : Nat} {I : jHp} {G : Nat → Nat → Int64}
theorem Rel_best {f : Nat → Int32} (h : Rel N I) : Rel N (sF (jm_up I 182 0 0) f) := by
  have k : ∀ r j, r ≠ 208 → ¬ (r = 182 ∧ j = 0) → sF (jm_up I 182 0 0) f r j = I r j := fun r j h1 h2 => by rw [sF_k h1, code_k h2]
  obtain ⟨⟨r1, r2, r3, r4, r5, r6, r7, r8⟩, V⟩ := h
  exact ⟨⟨RE_c (fun _ _ _ _ _ => k _ _ (by omega) (by omega)) (fun _ _ _ _ => k _ _ (by omega) (by omega)) r1, RO_c (fun _ _ => k _ _ (by omega) (by omega)) (fun _ => k _ _ (by omega) (by omega)) r2, RL_c (fun _ _ => k _ _ (by omega) (by omega)) (fun _ => k _ _ (by omega) (by omega)) r3, RH_c (fun _ _ _ => k _ _ (by omega) (by omega)) (fun _ => k _ _ (by omega) (by omega)) r4, RC_c (fun _ _ _ _ => k _ _ (by omega) (by omega)) (fun _ _ _ _ => k _ _ (by omega) (by omega)) r5, RP_c (fun _ _ _ _ => k _ _ (by omega) (by omega)) (fun _ _ _ _ => k _ _ (by omega) (by omega)) r6, RW_c (fun _ _ => k _ _ (by omega) (by omega)) (fun _ _ _ => k _ _ (by omega) (by omega)) (fun _ _ _ _ => k _ _ (by omega) (by omega)) r7, RN_c (fun _ => k _ _ (by omega) (by omega)) (k _ _ (by omega) (by omega)) (k _ _ (by omega) (by omega)) (k _ _ (by omega) (by omega)) r8⟩, VV_c (fun r hr j => k _ _ (by omega) (by omega)) V⟩
theorem op_best {x y : Int32} (hR : Rel N I) : Pair L N 100 [.ref 2, .int x, .int y, .ref 209] 58 [.ref 182, .int x, .int y] Int32.toInt64 I G t := by
  by_cases h : (x < 0 ∨ ¬ x < 8) ∨ (y < 0 ∨ ¬ y < 8)
  · exact Pair_no1 (w_bestX0 (cN_bestX (d := 9) h (by omega))) (fun t => mC_bestX h) (by decide) hR
  · obtain ⟨i, hi, rfl⟩ := nb_of (fun e => h (Or.inl e))
    obtain ⟨j, hj, rfl⟩ := nb_of (fun e => h (Or.inr e))
    refine Pair_ok (I1 := I) (w_best (cN_best (d := 9) hi hj)) (fun G => mC_best (d := 10) hi hj) ?_ ?_ (Rel_m (Rel_best hR) (by omega)) (fun s => ?_) (fun _ => rfl)
    · rw [sF_k (by omega), up_s]
    · rw [best_eq hi hj hR.1 hR.2.2.2.2.1]
    · rw [sF_k (by omega), up_k (by omega)]
end
