/-! runs of the small machine: packets (0 underWay, 1 number, 2 at, 3 goal, 4 word, 5 boundNumber, 6 boundMetric), casts (3 sender, 4 size), Math, a boat's own small methods -/
def pStart (q : Nat) (n a g x : Int32) (I : jHp) : jHp := jm_up (jm_up (jm_up (jm_up (jm_up (jm_up I q 0 1) q 1 n) q 2 a) q 3 g) q 4 x) q 5 (-1)
theorem tP_start {d q : Nat} {n a g x : Int32} {σ : jm_S} (hq : jm_ok σ q 3) : jm_E (d, 83, 0, jm_en 83 [.ref q, .int n, .int a, .int g, .int x], [], false, σ) (.inl none, jm_sI σ (pStart q n a g x (jI σ)), true) := by
  repeat (first | refine jE_step rfl trivial ?_ | refine jE_step rfl rfl ?_ | refine jE_step rfl hq ?_ | refine jE_step rfl ⟨hq, Or.inl rfl⟩ ?_ | refine jE_step rfl ⟨hq, Or.inr rfl⟩ ?_)
  exact jE_ret rfl trivial
def pDrawn (I : jHp) (q e : Nat) : Int32 := if I e 1 = -1 then 0 else if I q 5 < I e 0 then 1 else if I e 0 = I q 5 then (if I q 6 ≤ I e 1 then 0 else 1) else 0
theorem tP_drawn {d q e : Nat} {σ : jm_S} (hq : jm_ok σ q 3) (he : jm_ok σ e 4) : jm_E (d, 84, 0, jm_en 84 [.ref q, .ref e], [], false, σ) (.inl (some (.int (pDrawn (jI σ) q e))), σ, false) := by
  unfold pDrawn
  repeat' (first | refine jE_step rfl trivial ?_ | refine jE_step rfl rfl ?_ | refine jE_step rfl hq ?_ | refine jE_step rfl ⟨hq, Or.inl rfl⟩ ?_ | refine jE_step rfl ⟨hq, Or.inr rfl⟩ ?_ | refine jE_step rfl he ?_ | refine jE_step rfl ⟨he, Or.inl rfl⟩ ?_ | refine jE_step rfl ⟨he, Or.inr rfl⟩ ?_ | exact jE_ret rfl trivial | exact jE_ret rfl (Or.inl rfl) | exact jE_ret rfl (Or.inr rfl) | (split <;> rename_i hb <;> first | simp only [if_pos hb] | simp only [if_neg hb] | skip))
def pGo (q : Nat) (b : Int32) (e : Nat) (I : jHp) : jHp := jm_up (jm_up (jm_up I q 2 b) q 5 (I e 0)) q 6 (I e 1)
theorem tP_go {d q e : Nat} {b : Int32} {σ : jm_S} (hq : jm_ok σ q 3) (he : jm_ok σ e 4) : jm_E (d, 85, 0, jm_en 85 [.ref q, .int b, .ref e], [], false, σ) (.inl none, jm_sI σ (pGo q b e (jI σ)), true) := by
  repeat (first | refine jE_step rfl trivial ?_ | refine jE_step rfl rfl ?_ | refine jE_step rfl hq ?_ | refine jE_step rfl ⟨hq, Or.inl rfl⟩ ?_ | refine jE_step rfl ⟨hq, Or.inr rfl⟩ ?_ | refine jE_step rfl he ?_ | refine jE_step rfl ⟨he, Or.inl rfl⟩ ?_ | refine jE_step rfl ⟨he, Or.inr rfl⟩ ?_)
  exact jE_ret rfl trivial
def mMin (a b : Int32) : Int32 := if b < a then b else a
theorem tM_min {d : Nat} {a b : Int32} {σ : jm_S} : jm_E (d, 102, 0, jm_en 102 [.int a, .int b], [], false, σ) (.inl (some (.int (mMin a b))), σ, false) := by
  unfold mMin
  repeat' (first | refine jE_step rfl trivial ?_ | refine jE_step rfl rfl ?_ | exact jE_ret rfl trivial | exact jE_ret rfl (Or.inl rfl) | exact jE_ret rfl (Or.inr rfl) | (split <;> rename_i hb <;> first | simp only [if_pos hb] | simp only [if_neg hb] | skip))
def mMod (x y : Int32) : Int32 := if 0 ≤ x ^^^ y then x - x / y * y else if x - x / y * y = 0 then x - x / y * y else x - x / y * y + y
theorem tM_mod {d : Nat} {x y : Int32} {σ : jm_S} (hy : ¬ y = 0) : jm_E (d, 103, 0, jm_en 103 [.int x, .int y], [], false, σ) (.inl (some (.int (mMod x y))), σ, false) := by
  unfold mMod
  repeat' (first | refine jE_step rfl trivial ?_ | refine jE_step rfl rfl ?_ | refine jE_step rfl hy ?_ | refine jE_step rfl ⟨hy, Or.inl rfl⟩ ?_ | refine jE_step rfl ⟨hy, Or.inr rfl⟩ ?_ | exact jE_ret rfl trivial | exact jE_ret rfl (Or.inl rfl) | exact jE_ret rfl (Or.inr rfl) | (split <;> rename_i hb <;> first | simp only [if_pos hb] | simp only [if_neg hb] | skip))
def cParts (I : jHp) (q : Nat) : Int32 := if I q 4 = 0 then 1 else (I q 4 + 3 - 1) / 3
theorem tC_parts {d q : Nat} {σ : jm_S} (hq : jm_ok σ q 2) : jm_E (d, 71, 0, jm_en 71 [.ref q], [], false, σ) (.inl (some (.int (cParts (jI σ) q))), σ, false) := by
  unfold cParts
  repeat' (first | refine jE_step rfl trivial ?_ | refine jE_step rfl rfl ?_ | refine jE_step rfl hq ?_ | refine jE_step rfl ⟨hq, Or.inl rfl⟩ ?_ | refine jE_step rfl ⟨hq, Or.inr rfl⟩ ?_ | refine jE_step rfl (by decide) ?_ | exact jE_ret rfl trivial | exact jE_ret rfl (Or.inl rfl) | exact jE_ret rfl (Or.inr rfl) | (split <;> rename_i hb <;> first | simp only [if_pos hb] | simp only [if_neg hb] | skip))
def cSize (I : jHp) (q : Nat) (p : Int32) : Int32 := mMin 3 (I q 4 - p * 3)
theorem tC_size {d q : Nat} {p : Int32} {σ : jm_S} (hq : jm_ok σ q 2) : jm_E (d + 1, 72, 0, jm_en 72 [.ref q, .int p], [], false, σ) (.inl (some (.int (cSize (jI σ) q p))), σ, false) := by
  repeat (first | refine jE_step rfl trivial ?_ | refine jE_step rfl rfl ?_ | refine jE_step rfl hq ?_ | refine jE_step rfl ⟨hq, Or.inl rfl⟩ ?_ | refine jE_step rfl ⟨hq, Or.inr rfl⟩ ?_)
  refine jE_call rfl ⟨Nat.le_of_ble_eq_true rfl, Nat.le_of_ble_eq_true rfl⟩ tM_min ?_
  exact jE_ret rfl trivial
def bLinked (I : jHp) (q : Nat) (o : Int32) : Int32 := if I q 5 &&& 1 <<< (o &&& 31) = 0 then 0 else 1
theorem tB_linked {d q : Nat} {o : Int32} {σ : jm_S} (hq : jm_ok σ q 1) : jm_E (d, 61, 0, jm_en 61 [.ref q, .int o], [], false, σ) (.inl (some (.int (bLinked (jI σ) q o))), σ, false) := by
  unfold bLinked
  repeat' (first | refine jE_step rfl trivial ?_ | refine jE_step rfl rfl ?_ | refine jE_step rfl hq ?_ | refine jE_step rfl ⟨hq, Or.inl rfl⟩ ?_ | refine jE_step rfl ⟨hq, Or.inr rfl⟩ ?_ | exact jE_ret rfl trivial | exact jE_ret rfl (Or.inl rfl) | exact jE_ret rfl (Or.inr rfl) | (split <;> rename_i hb <;> first | simp only [if_pos hb] | simp only [if_neg hb] | skip))
def bFlip (q : Nat) (o : Int32) (I : jHp) : jHp := jm_up I q 5 (I q 5 ^^^ 1 <<< (o &&& 31))
theorem tB_flip {d q : Nat} {o : Int32} {σ : jm_S} (hq : jm_ok σ q 1) : jm_E (d, 62, 0, jm_en 62 [.ref q, .int o], [], false, σ) (.inl none, jm_sI σ (bFlip q o (jI σ)), true) := by
  repeat (first | refine jE_step rfl trivial ?_ | refine jE_step rfl rfl ?_ | refine jE_step rfl hq ?_ | refine jE_step rfl ⟨hq, Or.inl rfl⟩ ?_ | refine jE_step rfl ⟨hq, Or.inr rfl⟩ ?_)
  exact jE_ret rfl trivial
theorem tB_heard0 {d q : Nat} {o : Int32} {σ : jm_S} (hq : jm_ok σ q 1) (hx : jm_ix σ (σ.2.2.1 q 2) 10 o) : jm_E (d, 63, 0, jm_en 63 [.ref q, .int o], [], false, σ) (.inl (some (.int (if jI σ (σ.2.2.1 q 2) o.toNatClampNeg = -1 then 0 else 1))), σ, false) := by
  repeat' (first | refine jE_step rfl trivial ?_ | refine jE_step rfl rfl ?_ | refine jE_step rfl hq ?_ | refine jE_step rfl ⟨hq, Or.inl rfl⟩ ?_ | refine jE_step rfl ⟨hq, Or.inr rfl⟩ ?_ | refine jE_step rfl hx ?_ | refine jE_step rfl ⟨hx, Or.inl rfl⟩ ?_ | refine jE_step rfl ⟨hx, Or.inr rfl⟩ ?_ | exact jE_ret rfl trivial | exact jE_ret rfl (Or.inl rfl) | exact jE_ret rfl (Or.inr rfl) | (split <;> rename_i hb <;> first | simp only [if_pos hb] | simp only [if_neg hb] | skip))
theorem tB_keep0 {d q : Nat} {x : Int32} {σ : jm_S} (hq : jm_ok σ q 1) (hx : ¬ 32 ≤ jI σ q 4 → jm_iw σ (σ.2.2.1 q 3) 10 (jI σ q 4)) : jm_F (d, 64, 0, jm_en 64 [.ref q, .int x], [], false, σ) (.inl none) (jm_sI σ (if 32 ≤ jI σ q 4 then jI σ else jm_up (jm_up (jI σ) (σ.2.2.1 q 3) (jI σ q 4).toNatClampNeg x) q 4 (jm_up (jI σ) (σ.2.2.1 q 3) (jI σ q 4).toNatClampNeg x q 4 + 1))) := by
  repeat' (first | refine jF_step rfl trivial ?_ | refine jF_step rfl rfl ?_ | refine jF_step rfl hq ?_ | refine jF_step rfl ⟨hq, Or.inl rfl⟩ ?_ | refine jF_step rfl ⟨hq, Or.inr rfl⟩ ?_ | refine jF_step rfl (hx hb) ?_ | exact jF_ret rfl trivial | exact jF_ret rfl (Or.inl rfl) | exact jF_ret rfl (Or.inr rfl) | (split <;> rename_i hb <;> first | simp only [if_pos hb] | simp only [if_neg hb] | skip))
