/-! the relation between the class's cells (A, below 182) and the reference's (I, from 182 on), and what holds of the class's -/
def mA (s : Nat) : Nat := ([186, 187, 188, 189, 190, 193, 194, 192, 191] : List Nat).getD s 0
def RE (A I : jHp) : Prop := ∀ i g s, i < 8 → g < 8 → s < 9 → I (mA s) (8 * i + g) = A (10 + 12 * i + g) s
def RO (A I : jHp) : Prop := ∀ i, i < 8 → I 183 i = A (6 + 12 * i) 6
def RL (A I : jHp) : Prop := ∀ i j, i < 8 → j < 8 → I 184 (8 * i + j) = bLinked A (6 + 12 * i) (nI j)
def RH (A I : jHp) : Prop := ∀ i j, i < 8 → j < 8 → I 185 (8 * i + j) = A (8 + 12 * i) j
def RC (A I : jHp) : Prop := ∀ c, c < 16 → I 195 c = A (102 + 4 * c) 3 ∧ I 196 c = A (102 + 4 * c) 4 ∧ ∀ s k, s < 3 → k < 8 → I (197 + s) (8 * c + k) = A (103 + s + 4 * c) k
def RP (A I : jHp) : Prop := ∀ p, p < 16 → (I 200 p = if A (166 + p) 0 = 0 then -1 else A (166 + p) 1) ∧ (¬ A (166 + p) 0 = 0 → I 201 p = A (166 + p) 2 ∧ I 202 p = A (166 + p) 3 ∧ I 203 p = A (166 + p) 4 ∧ I 204 p = A (166 + p) 5 ∧ (¬ A (166 + p) 5 = -1 → I 205 p = A (166 + p) 6))
def RW (A I : jHp) : Prop := ∀ i, i < 8 → I 206 i = A (6 + 12 * i) 4 ∧ ∀ k, k < 32 → I 207 (32 * i + k) = A (9 + 12 * i) k
def RN (A I : jHp) : Prop := I 182 1 = A 2 5 ∧ I 182 14 = A 2 3 ∧ I 182 20 = A 2 4
def iv (x : Int32) (a b : Int) : Prop := a ≤ x.toInt ∧ x.toInt ≤ b
/-- what holds of an entry -/
def Vent (B : Int) (e : Nat → Int32) : Prop := iv (e 0) (-1) B ∧ iv (e 1) (-1) 15 ∧ (e 2 = -1 ∨ ∃ n, n < 8 ∧ e 2 = nI n) ∧ iv (e 3) (-1) B ∧ iv (e 4) (-1) 15 ∧ (e 3 = -1 → e 4 = -1) ∧ (¬ e 8 = 0 → ¬ e 3 = -1) ∧ (e 0 = -1 → e 1 = -1 ∧ e 7 = 0)
def VE (B : Int) (A : jHp) : Prop := ∀ i g, i < 8 → g < 8 → Vent B (A (10 + 12 * i + g))
def VO (A : jHp) : Prop := ∀ i, i < 8 → A (6 + 12 * i) 0 = nI i ∧ (A (6 + 12 * i) 6 = 0 ∨ A (6 + 12 * i) 6 = 1) ∧ ∃ n, n ≤ 32 ∧ A (6 + 12 * i) 4 = nI n
def VS (A : jHp) : Prop := ∀ i, i < 8 → A (10 + 12 * i + i) 2 = nI i ∧ A (8 + 12 * i) i = -1
def VL (A : jHp) : Prop := ∀ i j, i < 8 → j < 8 → bLinked A (6 + 12 * i) (nI j) = bLinked A (6 + 12 * j) (nI i)
def VH (A : jHp) : Prop := ∀ i j, i < 8 → j < 8 → -1 ≤ (A (8 + 12 * i) j).toInt
def VC (B : Int) (A : jHp) : Prop := ∀ c, c < 16 → (∃ s, s < 8 ∧ A (102 + 4 * c) 3 = nI s) ∧ ∃ z, z ≤ 8 ∧ A (102 + 4 * c) 4 = nI z ∧ ∀ k, k < z → (∃ g, g < 8 ∧ A (103 + 4 * c) k = nI g) ∧ iv (A (104 + 4 * c) k) 0 B ∧ iv (A (105 + 4 * c) k) (-1) 15
/-- how many packets, of the first k, are at b -/
def cN (A : jHp) (b : Int32) : Nat → Nat
  | 0 => 0
  | k + 1 => cN A b k + (if A (166 + k) 0 = 0 then 0 else if A (166 + k) 2 = b then 1 else 0)
def VP (A : jHp) : Prop := (∀ p, p < 16 → ¬ A (166 + p) 0 = 0 → (∃ a, a < 8 ∧ A (166 + p) 2 = nI a) ∧ (∃ g, g < 8 ∧ A (166 + p) 3 = nI g) ∧ (∃ n m, n < m ∧ m < 1000 ∧ A (166 + p) 1 = nI n ∧ A 2 4 = nI m) ∧ -1 ≤ (A (166 + p) 5).toInt) ∧
  (∀ p q, p < 16 → q < 16 → ¬ A (166 + p) 0 = 0 → ¬ A (166 + q) 0 = 0 → A (166 + p) 1 = A (166 + q) 1 → p = q) ∧ (∀ i, i < 8 → cN A (nI i) 16 ≤ 4)
def VN (N : Nat) (A : jHp) : Prop := (∃ t, t ≤ N ∧ A 2 5 = nI t) ∧ (∃ c, c ≤ N ∧ A 2 3 = nI c) ∧ ∃ p, p ≤ N ∧ A 2 4 = nI p
def RR (A I : jHp) : Prop := RE A I ∧ RO A I ∧ RL A I ∧ RH A I ∧ RC A I ∧ RP A I ∧ RW A I ∧ RN A I
def VV (N : Nat) (A : jHp) : Prop := VE (16 * N) A ∧ VO A ∧ VS A ∧ VL A ∧ VH A ∧ VC (16 * N) A ∧ VP A ∧ VN N A
/-- a heap's two halves agree, after N calls -/
def Rel (N : Nat) (I : jHp) : Prop := RR I I ∧ VV N I
theorem mA_lt {s : Nat} (h : s < 9) : 186 ≤ mA s ∧ mA s ≤ 194 := by
  match s, h with
  | 0, _ => decide
  | 1, _ => decide
  | 2, _ => decide
  | 3, _ => decide
  | 4, _ => decide
  | 5, _ => decide
  | 6, _ => decide
  | 7, _ => decide
  | 8, _ => decide
theorem mA_inj : ∀ s < 9, ∀ s' < 9, mA s = mA s' → s = s' := by decide
theorem bLinked_c {A A' : jHp} {q : Nat} {o : Int32} (h : A' q 5 = A q 5) : bLinked A' q o = bLinked A q o := by
  unfold bLinked; rw [h]
theorem cN_c {A A' : jHp} {b : Int32} (h : ∀ r, r < 182 → ∀ j, A' r j = A r j) : ∀ k, k ≤ 16 → cN A' b k = cN A b k := by
  intro k
  induction k with
  | zero => intro _; rfl
  | succ k ih => intro hk; rw [cN, cN, ih (by omega), h _ (by omega), h _ (by omega)]
theorem RE_c {A A' I I' : jHp} (h : ∀ i g, i < 8 → g < 8 → ∀ j, A' (10 + 12 * i + g) j = A (10 + 12 * i + g) j) (hI : ∀ r, 186 ≤ r → r ≤ 194 → ∀ j, I' r j = I r j) (R : RE A I) : RE A' I' := by
  intro i g s hi hg hs
  rw [hI _ (mA_lt hs).1 (mA_lt hs).2, h i g hi hg, R i g s hi hg hs]
theorem RO_c {A A' I I' : jHp} (h : ∀ i, i < 8 → A' (6 + 12 * i) 6 = A (6 + 12 * i) 6) (hI : ∀ j, I' 183 j = I 183 j) (R : RO A I) : RO A' I' := by
  intro i hi; rw [hI, h i hi, R i hi]
theorem RL_c {A A' I I' : jHp} (h : ∀ i, i < 8 → A' (6 + 12 * i) 5 = A (6 + 12 * i) 5) (hI : ∀ j, I' 184 j = I 184 j) (R : RL A I) : RL A' I' := by
  intro i j hi hj; rw [hI, bLinked_c (h i hi), R i j hi hj]
theorem RH_c {A A' I I' : jHp} (h : ∀ i, i < 8 → ∀ j, A' (8 + 12 * i) j = A (8 + 12 * i) j) (hI : ∀ j, I' 185 j = I 185 j) (R : RH A I) : RH A' I' := by
  intro i j hi hj; rw [hI, h i hi, R i j hi hj]
theorem RC_c {A A' I I' : jHp} (h : ∀ r, 102 ≤ r → r < 166 → ∀ j, A' r j = A r j) (hI : ∀ r, 195 ≤ r → r ≤ 199 → ∀ j, I' r j = I r j) (R : RC A I) : RC A' I' := by
  intro c hc
  obtain ⟨h1, h2, h3⟩ := R c hc
  refine ⟨?_, ?_, fun s k hs hk => ?_⟩
  · rw [hI _ (by omega) (by omega), h _ (by omega) (by omega), h1]
  · rw [hI _ (by omega) (by omega), h _ (by omega) (by omega), h2]
  · rw [hI _ (by omega) (by omega), h _ (by omega) (by omega), h3 s k hs hk]
theorem RP_c {A A' I I' : jHp} (h : ∀ r, 166 ≤ r → r < 182 → ∀ j, A' r j = A r j) (hI : ∀ r, 200 ≤ r → r ≤ 205 → ∀ j, I' r j = I r j) (R : RP A I) : RP A' I' := by
  intro p hp
  obtain ⟨h1, h2⟩ := R p hp
  rw [h _ (by omega) (by omega), h _ (by omega) (by omega), h _ (by omega) (by omega), h _ (by omega) (by omega), h _ (by omega) (by omega), h _ (by omega) (by omega), h _ (by omega) (by omega)]
  rw [hI _ (by omega) (by omega), hI _ (by omega) (by omega), hI _ (by omega) (by omega), hI _ (by omega) (by omega), hI _ (by omega) (by omega), hI _ (by omega) (by omega)]
  exact ⟨h1, h2⟩
theorem RW_c {A A' I I' : jHp} (h : ∀ i, i < 8 → A' (6 + 12 * i) 4 = A (6 + 12 * i) 4) (h9 : ∀ i, i < 8 → ∀ j, A' (9 + 12 * i) j = A (9 + 12 * i) j) (hI : ∀ r, 206 ≤ r → r ≤ 207 → ∀ j, I' r j = I r j) (R : RW A I) : RW A' I' := by
  intro i hi
  obtain ⟨h1, h2⟩ := R i hi
  refine ⟨?_, fun k hk => ?_⟩
  · rw [hI _ (by omega) (by omega), h i hi, h1]
  · rw [hI _ (by omega) (by omega), h9 i hi, h2 k hk]
theorem RN_c {A A' I I' : jHp} (h : ∀ j, A' 2 j = A 2 j) (hI : I' 182 1 = I 182 1) (h14 : I' 182 14 = I 182 14) (h20 : I' 182 20 = I 182 20) (R : RN A I) : RN A' I' := by
  unfold RN; rw [hI, h14, h20, h, h, h]; exact R
theorem RR_c {A A' I I' : jHp} (h : ∀ r, r < 182 → ∀ j, A' r j = A r j) (hI : ∀ r, 182 ≤ r → (r = 182 → False) ∨ True → ∀ j, ¬ (r = 182 ∧ j = 0) → I' r j = I r j) (R : RR A I) : RR A' I' := by
  obtain ⟨r1, r2, r3, r4, r5, r6, r7, r8⟩ := R
  exact ⟨RE_c (fun i g hi hg j => h _ (by omega) j) (fun r h1 h2 j => hI r (by omega) (Or.inr trivial) j (by omega)) r1,
    RO_c (fun i hi => h _ (by omega) _) (fun j => hI _ (by omega) (Or.inr trivial) j (by omega)) r2,
    RL_c (fun i hi => h _ (by omega) _) (fun j => hI _ (by omega) (Or.inr trivial) j (by omega)) r3,
    RH_c (fun i hi => h _ (by omega)) (fun j => hI _ (by omega) (Or.inr trivial) j (by omega)) r4,
    RC_c (fun r h1 h2 => h _ (by omega)) (fun r h1 h2 j => hI r (by omega) (Or.inr trivial) j (by omega)) r5,
    RP_c (fun r h1 h2 => h _ (by omega)) (fun r h1 h2 j => hI r (by omega) (Or.inr trivial) j (by omega)) r6,
    RW_c (fun i hi => h _ (by omega) _) (fun i hi => h _ (by omega)) (fun r h1 h2 j => hI r (by omega) (Or.inr trivial) j (by omega)) r7,
    RN_c (fun j => h _ (by omega) j) (hI _ (by omega) (Or.inr trivial) _ (by omega)) (hI _ (by omega) (Or.inr trivial) _ (by omega)) (hI _ (by omega) (Or.inr trivial) _ (by omega)) r8⟩
theorem VV_c {N : Nat} {A A' : jHp} (h : ∀ r, r < 182 → ∀ j, A' r j = A r j) (V : VV N A) : VV N A' := by
  obtain ⟨v1, v2, v3, v4, v5, v6, v7, v8⟩ := V
  have he : ∀ i g, i < 8 → g < 8 → A' (10 + 12 * i + g) = A (10 + 12 * i + g) := fun i g hi hg => funext (h _ (by omega))
  refine ⟨?_, ?_, ?_, ?_, ?_, ?_, ?_, ?_⟩
  · intro i g hi hg; rw [he i g hi hg]; exact v1 i g hi hg
  · intro i hi; rw [h _ (by omega), h _ (by omega), h _ (by omega)]; exact v2 i hi
  · intro i hi; rw [h _ (by omega), h _ (by omega)]; exact v3 i hi
  · intro i j hi hj; rw [bLinked_c (h _ (by omega) _), bLinked_c (h _ (by omega) _)]; exact v4 i j hi hj
  · intro i j hi hj; rw [h _ (by omega)]; exact v5 i j hi hj
  · intro c hc
    obtain ⟨h1, z, hz, h2, h3⟩ := v6 c hc
    refine ⟨by rw [h _ (by omega)]; exact h1, z, hz, by rw [h _ (by omega)]; exact h2, fun k hk => ?_⟩
    rw [h _ (by omega), h _ (by omega), h _ (by omega)]
    exact h3 k hk
  · obtain ⟨h1, h2, h3⟩ := v7
    refine ⟨fun p hp => ?_, fun p q hp hq => ?_, fun i hi => ?_⟩
    · rw [h _ (by omega), h _ (by omega), h _ (by omega), h _ (by omega), h _ (by omega), h (166 + p) (by omega)]; exact h1 p hp
    · rw [h _ (by omega), h _ (by omega), h _ (by omega), h _ (by omega)]; exact h2 p q hp hq
    · rw [cN_c h 16 (by omega)]; exact h3 i hi
  · unfold VN; rw [h _ (by omega), h _ (by omega), h _ (by omega)]; exact v8
/-- of two heaps, one -/
theorem Rel_of {N : Nat} {A I J : jHp} (R : RR A I) (V : VV N A) (h : ∀ r, r < 182 → ∀ j, J r j = A r j) (hI : ∀ r, 182 ≤ r → ∀ j, ¬ (r = 182 ∧ j = 0) → J r j = I r j) : Rel N J :=
  ⟨RR_c h (fun r h1 _ j h2 => hI r h1 j h2) R, VV_c h V⟩
theorem iv_m {x : Int32} {a b b' : Int} (h : iv x a b) (hb : b ≤ b') : iv x a b' := ⟨h.1, Int.le_trans h.2 hb⟩
theorem Vent_m {B B' : Int} {e : Nat → Int32} (h : Vent B e) (hb : B ≤ B') : Vent B' e := ⟨iv_m h.1 hb, h.2.1, h.2.2.1, iv_m h.2.2.2.1 hb, h.2.2.2.2⟩
theorem VV_m {N N' : Nat} {A : jHp} (h : VV N A) (hN : N ≤ N') : VV N' A := by
  obtain ⟨v1, v2, v3, v4, v5, v6, v7, ⟨t, ht, e1⟩, ⟨c, hc, e2⟩, p, hp, e3⟩ := h
  refine ⟨fun i g hi hg => Vent_m (v1 i g hi hg) (by omega), v2, v3, v4, v5, fun c hc => ?_, v7, ⟨t, by omega, e1⟩, ⟨c, by omega, e2⟩, p, by omega, e3⟩
  obtain ⟨h1, z, hz, h2, h3⟩ := v6 c hc
  exact ⟨h1, z, hz, h2, fun k hk => ⟨(h3 k hk).1, iv_m (h3 k hk).2.1 (by omega), (h3 k hk).2.2⟩⟩
theorem Rel_m {N N' : Nat} {I : jHp} (h : Rel N I) (hN : N ≤ N') : Rel N' I := ⟨h.1, VV_m h.2 hN⟩
/-- a write of the reference's code alone -/
theorem Rel_code {N : Nat} {I : jHp} {x : Int32} (h : Rel N I) : Rel N (jm_up I 182 0 x) := Rel_of h.1 h.2 (fun r hr j => up_k (by omega)) (fun r hr j hn => by
  by_cases h : r = 182
  · exact up_i (by omega)
  · exact up_k h)
