/-! runs of the small machine: the reference sends and moves -/
def mFind (I : jHp) (x : Int32) : Nat → Int32
  | 0 => -1
  | k + 1 => if I 200 k < 0 then mFind I x k else if I 200 k = x then nI k else mFind I x k
def mFalls (I : jHp) (p k : Nat) : Int32 := if I 204 p < 0 then 1 else if I 204 p < I 186 k then 1 else if I 186 k = I 204 p then (if I 205 p ≤ I 187 k then 0 else 1) else 0
def mRoom (I : jHp) (y g : Nat) : Int32 := if y = g then (if 32 ≤ I 206 y then 0 else 1) else if 4 ≤ mCnt I (nI y) 16 then 0 else 1
def mGoes (I : jHp) (p x y g : Nat) : Int32 := if I 183 y = 0 then 0 else if I 184 (8 * x + y) = 0 then 0 else if I 186 (8 * y + g) < 0 then 0 else if 0 ≤ I 187 (8 * y + g) then (if mFalls I p (8 * y + g) = 0 then 0 else mRoom I y g) else 0
def mSend (p : Nat) (i j z : Int32) (I : jHp) : jHp := jm_up (jm_up (jm_up (jm_up (jm_up (jm_up (jm_up I 182 0 0) 200 p (I 182 20)) 201 p i) 202 p j) 203 p z) 204 p (-1)) 182 20 (I 182 20 + 1)
def mMove (p g y n : Nat) (I : jHp) : jHp :=
  if y = g then jm_up (jm_up (jm_up (jm_up (jm_up (jm_up (jm_up I 182 0 0) 204 p (I 186 (8 * y + g))) 205 p (I 187 (8 * y + g))) 201 p (nI y)) 200 p (-1)) 207 (32 * y + n) (I 203 p)) 206 y (nI (n + 1))
  else jm_up (jm_up (jm_up (jm_up I 182 0 0) 204 p (I 186 (8 * y + g))) 205 p (I 187 (8 * y + g))) 201 p (nI y)
section
variable {L t d : Nat} {I : jHp} {G : Nat → Nat → Int64}
theorem mC_sendX {x y z : Int32} (h : (x < 0 ∨ ¬ x < 8) ∨ (y < 0 ∨ ¬ y < 8) ∨ x = y) : jm_F (d + 1, 52, 0, jm_en 52 [.ref 182, .int x, .int y, .int z], [], false, jS L I G t) (.inl (some (.int 0))) (jS L (jm_up I 182 0 1) G t) := by
  repeat (first | refine jF_step rfl trivial ?_ | refine jF_step rfl rfl ?_)
  by_cases hx : x < 0 ∨ ¬ x < 8
  · refine jF_callE rfl ⟨Nat.le_of_ble_eq_true rfl, Nat.le_of_ble_eq_true rfl⟩ (mT_boatX hx) ?_
    repeat (first | refine jF_step rfl trivial ?_ | refine jF_step rfl rfl ?_ | refine jF_step rfl lo_mod ?_ | refine jF_step rfl ⟨lo_mod, Or.inl rfl⟩ ?_ | refine jF_step rfl ⟨lo_mod, Or.inr rfl⟩ ?_ | simp (disch := omega) only [jS, jm_sI, jm_aft, jm_en, jI, nc8, up_s, up_k, up_i, k8, k9, k32, k3, r16, nI_add, rm2, rm3, rm4, rm5, rm6, rm7, rm8, rm9, rm10, rm11, rm12, rm13, rm15, rm16, rm17, rm18, rm19, rm21, rm22, rm23, rm24, rm25, rm26, rm27, rm28, rm29])
    exact jF_ret rfl trivial
  · obtain ⟨i, hi, rfl⟩ := nb_of hx
    refine jF_callE rfl ⟨Nat.le_of_ble_eq_true rfl, Nat.le_of_ble_eq_true rfl⟩ (mT_boat hi) ?_
    repeat (first | refine jF_step rfl trivial ?_ | refine jF_step rfl rfl ?_)
    by_cases hy : y < 0 ∨ ¬ y < 8
    · refine jF_callE rfl ⟨Nat.le_of_ble_eq_true rfl, Nat.le_of_ble_eq_true rfl⟩ (mT_boatX hy) ?_
      repeat (first | refine jF_step rfl trivial ?_ | refine jF_step rfl rfl ?_ | refine jF_step rfl lo_mod ?_ | refine jF_step rfl ⟨lo_mod, Or.inl rfl⟩ ?_ | refine jF_step rfl ⟨lo_mod, Or.inr rfl⟩ ?_ | simp (disch := omega) only [jS, jm_sI, jm_aft, jm_en, jI, nc8, up_s, up_k, up_i, k8, k9, k32, k3, r16, nI_add, rm2, rm3, rm4, rm5, rm6, rm7, rm8, rm9, rm10, rm11, rm12, rm13, rm15, rm16, rm17, rm18, rm19, rm21, rm22, rm23, rm24, rm25, rm26, rm27, rm28, rm29])
      exact jF_ret rfl trivial
    · obtain ⟨j, hj, rfl⟩ := nb_of hy
      refine jF_callE rfl ⟨Nat.le_of_ble_eq_true rfl, Nat.le_of_ble_eq_true rfl⟩ (mT_boat hj) ?_
      repeat (first | refine jF_step rfl trivial ?_ | refine jF_step rfl rfl ?_)
      rw [if_pos (h.elim (fun z => absurd z hx) (fun z => z.elim (fun z => absurd z hy) id))]
      repeat (first | refine jF_step rfl trivial ?_ | refine jF_step rfl rfl ?_ | refine jF_step rfl lo_mod ?_ | refine jF_step rfl ⟨lo_mod, Or.inl rfl⟩ ?_ | refine jF_step rfl ⟨lo_mod, Or.inr rfl⟩ ?_ | simp (disch := omega) only [jS, jm_sI, jm_aft, jm_en, jI, nc8, up_s, up_k, up_i, k8, k9, k32, k3, r16, nI_add, rm2, rm3, rm4, rm5, rm6, rm7, rm8, rm9, rm10, rm11, rm12, rm13, rm15, rm16, rm17, rm18, rm19, rm21, rm22, rm23, rm24, rm25, rm26, rm27, rm28, rm29])
      exact jF_ret rfl trivial
theorem mC_sendY {i j : Nat} {z : Int32} (hi : i < 8) (hj : j < 8) (hne : i ≠ j) (h : I 183 i = 0 ∨ I 186 (8 * i + j) < 0 ∨ mCnt I (nI i) 16 = 4 ∨ mCnt I (-1) 16 = 16) : jm_F (d + 1, 52, 0, jm_en 52 [.ref 182, .int (nI i), .int (nI j), .int z], [], false, jS L I G t) (.inl (some (.int 0))) (jS L (jm_up (jm_up I 182 0 0) 182 0 2) G t) := by
  have e1 := fun b => mCnt_up (I := I) (b := b) (x := 0) (r := 182) (j := 0) (by omega) (by omega) 16
  repeat (first | refine jF_step rfl trivial ?_ | refine jF_step rfl rfl ?_)
  refine jF_callE rfl ⟨Nat.le_of_ble_eq_true rfl, Nat.le_of_ble_eq_true rfl⟩ (mT_boat hi) ?_
  repeat (first | refine jF_step rfl trivial ?_ | refine jF_step rfl rfl ?_)
  refine jF_callE rfl ⟨Nat.le_of_ble_eq_true rfl, Nat.le_of_ble_eq_true rfl⟩ (mT_boat hj) ?_
  repeat (first | refine jF_step rfl trivial ?_ | refine jF_step rfl rfl ?_)
  rw [if_neg (fun z => hne ((nI_eq (by omega) (by omega)).mp z))]
  repeat (first | refine jF_step rfl trivial ?_ | refine jF_step rfl rfl ?_ | refine jF_step rfl lo_mod ?_ | refine jF_step rfl ⟨lo_mod, Or.inl rfl⟩ ?_ | refine jF_step rfl ⟨lo_mod, Or.inr rfl⟩ ?_ | refine jF_step rfl (mw2  hi) ?_ | refine jF_step rfl ⟨mw2  hi, Or.inl rfl⟩ ?_ | refine jF_step rfl ⟨mw2  hi, Or.inr rfl⟩ ?_ | simp (disch := omega) only [jS, jm_sI, jm_aft, jm_en, jI, nc8, up_s, up_k, up_i, k8, k9, k32, k3, r16, nI_add, rm2, rm3, rm4, rm5, rm6, rm7, rm8, rm9, rm10, rm11, rm12, rm13, rm15, rm16, rm17, rm18, rm19, rm21, rm22, rm23, rm24, rm25, rm26, rm27, rm28, rm29])
  by_cases h1 : I 183 i = 0
  · rw [if_pos h1]
    repeat (first | refine jF_step rfl trivial ?_ | refine jF_step rfl rfl ?_ | refine jF_step rfl lo_mod ?_ | refine jF_step rfl ⟨lo_mod, Or.inl rfl⟩ ?_ | refine jF_step rfl ⟨lo_mod, Or.inr rfl⟩ ?_ | simp (disch := omega) only [jS, jm_sI, jm_aft, jm_en, jI, nc8, up_s, up_k, up_i, k8, k9, k32, k3, r16, nI_add, rm2, rm3, rm4, rm5, rm6, rm7, rm8, rm9, rm10, rm11, rm12, rm13, rm15, rm16, rm17, rm18, rm19, rm21, rm22, rm23, rm24, rm25, rm26, rm27, rm28, rm29])
    exact jF_ret rfl trivial
  rw [if_neg h1]
  repeat (first | refine jF_step rfl trivial ?_ | refine jF_step rfl rfl ?_ | refine jF_step rfl lo_mod ?_ | refine jF_step rfl ⟨lo_mod, Or.inl rfl⟩ ?_ | refine jF_step rfl ⟨lo_mod, Or.inr rfl⟩ ?_ | refine jF_step rfl (mx5  (show 8 * i + j < 64 by omega)) ?_ | refine jF_step rfl (mw5  (show 8 * i + j < 64 by omega)) ?_ | simp (disch := omega) only [jS, jm_sI, jm_aft, jm_en, jI, nc8, up_s, up_k, up_i, k8, k9, k32, k3, r16, nI_add, rm2, rm3, rm4, rm5, rm6, rm7, rm8, rm9, rm10, rm11, rm12, rm13, rm15, rm16, rm17, rm18, rm19, rm21, rm22, rm23, rm24, rm25, rm26, rm27, rm28, rm29])
  by_cases h2 : I 186 (8 * i + j) < 0
  · rw [if_pos h2]
    repeat (first | refine jF_step rfl trivial ?_ | refine jF_step rfl rfl ?_ | refine jF_step rfl lo_mod ?_ | refine jF_step rfl ⟨lo_mod, Or.inl rfl⟩ ?_ | refine jF_step rfl ⟨lo_mod, Or.inr rfl⟩ ?_ | simp (disch := omega) only [jS, jm_sI, jm_aft, jm_en, jI, nc8, up_s, up_k, up_i, k8, k9, k32, k3, r16, nI_add, rm2, rm3, rm4, rm5, rm6, rm7, rm8, rm9, rm10, rm11, rm12, rm13, rm15, rm16, rm17, rm18, rm19, rm21, rm22, rm23, rm24, rm25, rm26, rm27, rm28, rm29])
    exact jF_ret rfl trivial
  rw [if_neg h2]
  repeat (first | refine jF_step rfl trivial ?_ | refine jF_step rfl rfl ?_)
  refine jF_callE rfl ⟨Nat.le_of_ble_eq_true rfl, lo_mod⟩ mT_cnt ?_
  rw [e1]
  by_cases h3 : mCnt I (nI i) 16 = 4
  · rw [h3]
    repeat (first | refine jF_step rfl trivial ?_ | refine jF_step rfl rfl ?_ | refine jF_step rfl lo_mod ?_ | refine jF_step rfl ⟨lo_mod, Or.inl rfl⟩ ?_ | refine jF_step rfl ⟨lo_mod, Or.inr rfl⟩ ?_ | simp (disch := omega) only [jS, jm_sI, jm_aft, jm_en, jI, nc8, up_s, up_k, up_i, k8, k9, k32, k3, r16, nI_add, rm2, rm3, rm4, rm5, rm6, rm7, rm8, rm9, rm10, rm11, rm12, rm13, rm15, rm16, rm17, rm18, rm19, rm21, rm22, rm23, rm24, rm25, rm26, rm27, rm28, rm29])
    exact jF_ret rfl trivial
  have h4 := h.elim (fun z => absurd z h1) (fun z => z.elim (fun z => absurd z h2) (fun z => z.elim (fun z => absurd z h3) id))
  generalize mCnt I (nI i) 16 = r at h3 ⊢
  repeat (first | refine jF_step rfl trivial ?_ | refine jF_step rfl rfl ?_)
  rw [if_neg h3]
  repeat (first | refine jF_step rfl trivial ?_ | refine jF_step rfl rfl ?_)
  refine jF_callE rfl ⟨Nat.le_of_ble_eq_true rfl, lo_mod⟩ mT_cnt ?_
  rw [e1, h4]
  repeat (first | refine jF_step rfl trivial ?_ | refine jF_step rfl rfl ?_ | refine jF_step rfl lo_mod ?_ | refine jF_step rfl ⟨lo_mod, Or.inl rfl⟩ ?_ | refine jF_step rfl ⟨lo_mod, Or.inr rfl⟩ ?_ | simp (disch := omega) only [jS, jm_sI, jm_aft, jm_en, jI, nc8, up_s, up_k, up_i, k8, k9, k32, k3, r16, nI_add, rm2, rm3, rm4, rm5, rm6, rm7, rm8, rm9, rm10, rm11, rm12, rm13, rm15, rm16, rm17, rm18, rm19, rm21, rm22, rm23, rm24, rm25, rm26, rm27, rm28, rm29])
  exact jF_ret rfl trivial
theorem mT_free0 {p : Nat} {i j z : Int32} {out : Option Value ⊕ Nat} {σ : jm_S} (hp : p < 16) (h : I 200 p < 0) (hq : ∀ q, q < p → ¬ I 200 q < 0) (fin : ∀ w, jm_F (d, 52, 116, [some (.ref 182), some (.int i), some (.int j), some (.int z), some (.int (nI p))], [], w, jS L I G t) out σ) : ∀ r k (w : Bool), k + r = p → jm_F (d, 52, 100, [some (.ref 182), some (.int i), some (.int j), some (.int z), some (.int (nI k))], [], w, jS L I G t) out σ := by
  intro r
  induction r with
  | zero =>
    intro k w hk
    have : k = p := by omega
    subst this
    repeat (first | refine jF_step rfl trivial ?_ | refine jF_step rfl rfl ?_ | refine jF_step rfl lo_mod ?_ | refine jF_step rfl ⟨lo_mod, Or.inl rfl⟩ ?_ | refine jF_step rfl ⟨lo_mod, Or.inr rfl⟩ ?_ | refine jF_step rfl (mx21  hp) ?_ | refine jF_step rfl (mw21  hp) ?_)
    simp (disch := omega) only [jS, jm_sI, jm_aft, jm_en, jI, nc8, up_s, up_k, up_i, k8, k9, k32, k3, r16, nI_add, rm2, rm3, rm4, rm5, rm6, rm7, rm8, rm9, rm10, rm11, rm12, rm13, rm15, rm16, rm17, rm18, rm19, rm21, rm22, rm23, rm24, rm25, rm26, rm27, rm28, rm29]
    rw [if_pos h]
    exact fin _
  | succ r ih =>
    intro k w hk
    have k1 := fun w => ih (k + 1) w (by omega)
    simp only [← nI_1 (a := k)] at k1
    repeat (first | refine jF_step rfl trivial ?_ | refine jF_step rfl rfl ?_ | refine jF_step rfl lo_mod ?_ | refine jF_step rfl ⟨lo_mod, Or.inl rfl⟩ ?_ | refine jF_step rfl ⟨lo_mod, Or.inr rfl⟩ ?_ | refine jF_step rfl (mx21  (show k < 16 by omega)) ?_ | refine jF_step rfl (mw21  (show k < 16 by omega)) ?_)
    simp (disch := omega) only [jS, jm_sI, jm_aft, jm_en, jI, nc8, up_s, up_k, up_i, k8, k9, k32, k3, r16, nI_add, rm2, rm3, rm4, rm5, rm6, rm7, rm8, rm9, rm10, rm11, rm12, rm13, rm15, rm16, rm17, rm18, rm19, rm21, rm22, rm23, rm24, rm25, rm26, rm27, rm28, rm29]
    rw [if_neg (hq k (by omega))]
    repeat (first | exact k1 _ | refine jF_step rfl trivial ?_ | refine jF_step rfl rfl ?_)
theorem mC_send {i j p : Nat} {z : Int32} (hi : i < 8) (hj : j < 8) (hne : i ≠ j) (h1 : ¬ I 183 i = 0) (h2 : ¬ I 186 (8 * i + j) < 0) (h3 : ¬ mCnt I (nI i) 16 = 4) (h4 : ¬ mCnt I (-1) 16 = 16) (hp : p < 16) (h5 : I 200 p < 0) (hq : ∀ q, q < p → ¬ I 200 q < 0) : jm_F (d + 1, 52, 0, jm_en 52 [.ref 182, .int (nI i), .int (nI j), .int z], [], false, jS L I G t) (.inl (some (.int (I 182 20 + 1 - 1)))) (jS L (mSend p (nI i) (nI j) z I) G t) := by
  have e1 := fun b => mCnt_up (I := I) (b := b) (x := 0) (r := 182) (j := 0) (by omega) (by omega) 16
  unfold mSend
  repeat (first | refine jF_step rfl trivial ?_ | refine jF_step rfl rfl ?_)
  refine jF_callE rfl ⟨Nat.le_of_ble_eq_true rfl, Nat.le_of_ble_eq_true rfl⟩ (mT_boat hi) ?_
  repeat (first | refine jF_step rfl trivial ?_ | refine jF_step rfl rfl ?_)
  refine jF_callE rfl ⟨Nat.le_of_ble_eq_true rfl, Nat.le_of_ble_eq_true rfl⟩ (mT_boat hj) ?_
  repeat (first | refine jF_step rfl trivial ?_ | refine jF_step rfl rfl ?_)
  rw [if_neg (fun z => hne ((nI_eq (by omega) (by omega)).mp z))]
  repeat (first | refine jF_step rfl trivial ?_ | refine jF_step rfl rfl ?_ | refine jF_step rfl lo_mod ?_ | refine jF_step rfl ⟨lo_mod, Or.inl rfl⟩ ?_ | refine jF_step rfl ⟨lo_mod, Or.inr rfl⟩ ?_ | refine jF_step rfl (mw2  hi) ?_ | refine jF_step rfl ⟨mw2  hi, Or.inl rfl⟩ ?_ | refine jF_step rfl ⟨mw2  hi, Or.inr rfl⟩ ?_ | simp (disch := omega) only [jS, jm_sI, jm_aft, jm_en, jI, nc8, up_s, up_k, up_i, k8, k9, k32, k3, r16, nI_add, rm2, rm3, rm4, rm5, rm6, rm7, rm8, rm9, rm10, rm11, rm12, rm13, rm15, rm16, rm17, rm18, rm19, rm21, rm22, rm23, rm24, rm25, rm26, rm27, rm28, rm29])
  rw [if_neg h1]
  repeat (first | refine jF_step rfl trivial ?_ | refine jF_step rfl rfl ?_ | refine jF_step rfl lo_mod ?_ | refine jF_step rfl ⟨lo_mod, Or.inl rfl⟩ ?_ | refine jF_step rfl ⟨lo_mod, Or.inr rfl⟩ ?_ | refine jF_step rfl (mx5  (show 8 * i + j < 64 by omega)) ?_ | refine jF_step rfl (mw5  (show 8 * i + j < 64 by omega)) ?_ | simp (disch := omega) only [jS, jm_sI, jm_aft, jm_en, jI, nc8, up_s, up_k, up_i, k8, k9, k32, k3, r16, nI_add, rm2, rm3, rm4, rm5, rm6, rm7, rm8, rm9, rm10, rm11, rm12, rm13, rm15, rm16, rm17, rm18, rm19, rm21, rm22, rm23, rm24, rm25, rm26, rm27, rm28, rm29])
  rw [if_neg h2]
  repeat (first | refine jF_step rfl trivial ?_ | refine jF_step rfl rfl ?_)
  refine jF_callE rfl ⟨Nat.le_of_ble_eq_true rfl, lo_mod⟩ mT_cnt ?_
  rw [e1]
  generalize mCnt I (nI i) 16 = r at h3 ⊢
  repeat (first | refine jF_step rfl trivial ?_ | refine jF_step rfl rfl ?_)
  rw [if_neg h3]
  repeat (first | refine jF_step rfl trivial ?_ | refine jF_step rfl rfl ?_)
  refine jF_callE rfl ⟨Nat.le_of_ble_eq_true rfl, lo_mod⟩ mT_cnt ?_
  rw [e1]
  generalize mCnt I (-1) 16 = r2 at h4 ⊢
  repeat (first | refine jF_step rfl trivial ?_ | refine jF_step rfl rfl ?_)
  rw [if_neg h4]
  iterate 5 (first | refine jF_step rfl trivial ?_ | refine jF_step rfl rfl ?_ | refine jF_step rfl lo_mod ?_ | refine jF_step rfl ⟨lo_mod, Or.inl rfl⟩ ?_ | refine jF_step rfl ⟨lo_mod, Or.inr rfl⟩ ?_)
  simp (disch := omega) only [jS, jm_sI, jm_aft, jm_en, jI, nc8, up_s, up_k, up_i, k8, k9, k32, k3, r16, nI_add, rm2, rm3, rm4, rm5, rm6, rm7, rm8, rm9, rm10, rm11, rm12, rm13, rm15, rm16, rm17, rm18, rm19, rm21, rm22, rm23, rm24, rm25, rm26, rm27, rm28, rm29, up2]
  iterate 2 (first | refine jF_step rfl trivial ?_ | refine jF_step rfl rfl ?_ | refine jF_step rfl lo_mod ?_ | refine jF_step rfl ⟨lo_mod, Or.inl rfl⟩ ?_ | refine jF_step rfl ⟨lo_mod, Or.inr rfl⟩ ?_)
  refine mT_free0 (I := jm_up I 182 0 0) hp (by rw [up_k (by omega)]; exact h5) (fun q hqp => by rw [up_k (by omega)]; exact hq q hqp) (fun w => ?_) p 0 _ (by omega)
  repeat (first | refine jF_step rfl trivial ?_ | refine jF_step rfl rfl ?_ | refine jF_step rfl lo_mod ?_ | refine jF_step rfl ⟨lo_mod, Or.inl rfl⟩ ?_ | refine jF_step rfl ⟨lo_mod, Or.inr rfl⟩ ?_ | refine jF_step rfl (mx21  hp) ?_ | refine jF_step rfl (mw21  hp) ?_ | refine jF_step rfl (mx22  hp) ?_ | refine jF_step rfl (mw22  hp) ?_ | refine jF_step rfl (mx23  hp) ?_ | refine jF_step rfl (mw23  hp) ?_ | refine jF_step rfl (mx24  hp) ?_ | refine jF_step rfl (mw24  hp) ?_ | refine jF_step rfl (mx25  hp) ?_ | refine jF_step rfl (mw25  hp) ?_ | simp (disch := omega) only [jS, jm_sI, jm_aft, jm_en, jI, nc8, up_s, up_k, up_i, k8, k9, k32, k3, r16, nI_add, rm2, rm3, rm4, rm5, rm6, rm7, rm8, rm9, rm10, rm11, rm12, rm13, rm15, rm16, rm17, rm18, rm19, rm21, rm22, rm23, rm24, rm25, rm26, rm27, rm28, rm29])
  exact jF_ret rfl trivial
theorem mT_goes1 {p x y g : Nat} {f : Int32} {x5 x6 : Option Value} (hp : p < 16) (hy : y < 8) (hg : g < 8) : jm_E (d + 1, 53, 124, [some (.ref 182), some (.int (nI p)), some (.int (nI x)), some (.int (nI y)), some (.int (nI g)), x5, x6], [.int f], false, jS L I G t) (.inl (some (.int (if f = 0 then 0 else mRoom I y g))), jS L I G t, false) := by
  unfold mRoom
  repeat (first | refine jE_step rfl trivial ?_ | refine jE_step rfl rfl ?_)
  by_cases h : f = 0
  · rw [if_pos h, if_pos h]
    repeat (first | refine jE_step rfl trivial ?_ | refine jE_step rfl rfl ?_)
    exact jE_ret rfl (Or.inl rfl)
  rw [if_neg h, if_neg h]
  repeat (first | refine jE_step rfl trivial ?_ | refine jE_step rfl rfl ?_)
  by_cases h1 : y = g
  · rw [if_pos (congrArg nI h1), if_pos h1]
    repeat (first | refine jE_step rfl trivial ?_ | refine jE_step rfl rfl ?_ | refine jE_step rfl lo_mod ?_ | refine jE_step rfl ⟨lo_mod, Or.inl rfl⟩ ?_ | refine jE_step rfl ⟨lo_mod, Or.inr rfl⟩ ?_ | refine jE_step rfl (mx27  hy) ?_ | refine jE_step rfl (mw27  hy) ?_ | simp (disch := omega) only [jS, jm_sI, jm_aft, jm_en, jI, nc8, up_s, up_k, up_i, k8, k9, k32, k3, r16, nI_add, rm2, rm3, rm4, rm5, rm6, rm7, rm8, rm9, rm10, rm11, rm12, rm13, rm15, rm16, rm17, rm18, rm19, rm21, rm22, rm23, rm24, rm25, rm26, rm27, rm28, rm29])
    split
    · repeat (first | refine jE_step rfl trivial ?_ | refine jE_step rfl rfl ?_)
      exact jE_ret rfl (Or.inl rfl)
    · repeat (first | refine jE_step rfl trivial ?_ | refine jE_step rfl rfl ?_)
      exact jE_ret rfl (Or.inr rfl)
  · rw [if_neg (fun z => h1 ((nI_eq (by omega) (by omega)).mp z)), if_neg h1]
    repeat (first | refine jE_step rfl trivial ?_ | refine jE_step rfl rfl ?_)
    refine jE_call rfl ⟨Nat.le_of_ble_eq_true rfl, lo_mod⟩ mT_cnt ?_
    generalize mCnt I (nI y) 16 = r
    repeat (first | refine jE_step rfl trivial ?_ | refine jE_step rfl rfl ?_)
    split
    · repeat (first | refine jE_step rfl trivial ?_ | refine jE_step rfl rfl ?_)
      exact jE_ret rfl (Or.inl rfl)
    · repeat (first | refine jE_step rfl trivial ?_ | refine jE_step rfl rfl ?_)
      exact jE_ret rfl (Or.inr rfl)
theorem mT_goes {p x y g : Nat} (hp : p < 16) (hx : x < 8) (hy : y < 8) (hg : g < 8) (eg : I 202 p = nI g) : jm_E (d + 1, 53, 0, jm_en 53 [.ref 182, .int (nI p), .int (nI x), .int (nI y)], [], false, jS L I G t) (.inl (some (.int (mGoes I p x y g))), jS L I G t, false) := by
  have hk : 8 * y + g < 64 := by omega
  have fin := fun f => mT_goes1 (L := L) (t := t) (d := d) (I := I) (G := G) (x := x) (f := f) (x5 := some (.int (nI (8 * y + g)))) (x6 := none) hp hy hg
  unfold mGoes mFalls
  repeat (first | refine jE_step rfl trivial ?_ | refine jE_step rfl rfl ?_ | refine jE_step rfl lo_mod ?_ | refine jE_step rfl ⟨lo_mod, Or.inl rfl⟩ ?_ | refine jE_step rfl ⟨lo_mod, Or.inr rfl⟩ ?_ | refine jE_step rfl (mx23  hp) ?_ | refine jE_step rfl (mw23  hp) ?_)
  simp (disch := omega) only [jS, jm_sI, jm_aft, jm_en, jI, nc8, up_s, up_k, up_i, k8, k9, k32, k3, r16, nI_add, rm2, rm3, rm4, rm5, rm6, rm7, rm8, rm9, rm10, rm11, rm12, rm13, rm15, rm16, rm17, rm18, rm19, rm21, rm22, rm23, rm24, rm25, rm26, rm27, rm28, rm29, eg]
  repeat (first | refine jE_step rfl trivial ?_ | refine jE_step rfl rfl ?_ | refine jE_step rfl lo_mod ?_ | refine jE_step rfl ⟨lo_mod, Or.inl rfl⟩ ?_ | refine jE_step rfl ⟨lo_mod, Or.inr rfl⟩ ?_ | refine jE_step rfl (mw2  hy) ?_ | refine jE_step rfl ⟨mw2  hy, Or.inl rfl⟩ ?_ | refine jE_step rfl ⟨mw2  hy, Or.inr rfl⟩ ?_)
  simp (disch := omega) only [jS, jm_sI, jm_aft, jm_en, jI, nc8, up_s, up_k, up_i, k8, k9, k32, k3, r16, nI_add, rm2, rm3, rm4, rm5, rm6, rm7, rm8, rm9, rm10, rm11, rm12, rm13, rm15, rm16, rm17, rm18, rm19, rm21, rm22, rm23, rm24, rm25, rm26, rm27, rm28, rm29]
  by_cases h1 : I 183 y = 0
  · rw [if_pos h1, if_pos h1]
    repeat (first | refine jE_step rfl trivial ?_ | refine jE_step rfl rfl ?_)
    exact jE_ret rfl (Or.inl rfl)
  rw [if_neg h1, if_neg h1]
  repeat (first | refine jE_step rfl trivial ?_ | refine jE_step rfl rfl ?_ | refine jE_step rfl lo_mod ?_ | refine jE_step rfl ⟨lo_mod, Or.inl rfl⟩ ?_ | refine jE_step rfl ⟨lo_mod, Or.inr rfl⟩ ?_)
  simp (disch := omega) only [jS, jm_sI, jm_aft, jm_en, jI, nc8, up_s, up_k, up_i, k8, k9, k32, k3, r16, nI_add, rm2, rm3, rm4, rm5, rm6, rm7, rm8, rm9, rm10, rm11, rm12, rm13, rm15, rm16, rm17, rm18, rm19, rm21, rm22, rm23, rm24, rm25, rm26, rm27, rm28, rm29]
  repeat (first | refine jE_step rfl trivial ?_ | refine jE_step rfl rfl ?_ | refine jE_step rfl (mw3  (show 8 * x + y < 64 by omega)) ?_ | refine jE_step rfl ⟨mw3  (show 8 * x + y < 64 by omega), Or.inl rfl⟩ ?_ | refine jE_step rfl ⟨mw3  (show 8 * x + y < 64 by omega), Or.inr rfl⟩ ?_)
  simp (disch := omega) only [jS, jm_sI, jm_aft, jm_en, jI, nc8, up_s, up_k, up_i, k8, k9, k32, k3, r16, nI_add, rm2, rm3, rm4, rm5, rm6, rm7, rm8, rm9, rm10, rm11, rm12, rm13, rm15, rm16, rm17, rm18, rm19, rm21, rm22, rm23, rm24, rm25, rm26, rm27, rm28, rm29]
  by_cases h2 : I 184 (8 * x + y) = 0
  · rw [if_pos h2, if_pos h2]
    repeat (first | refine jE_step rfl trivial ?_ | refine jE_step rfl rfl ?_)
    exact jE_ret rfl (Or.inl rfl)
  rw [if_neg h2, if_neg h2]
  repeat (first | refine jE_step rfl trivial ?_ | refine jE_step rfl rfl ?_ | refine jE_step rfl lo_mod ?_ | refine jE_step rfl ⟨lo_mod, Or.inl rfl⟩ ?_ | refine jE_step rfl ⟨lo_mod, Or.inr rfl⟩ ?_ | refine jE_step rfl (mx5  hk) ?_ | refine jE_step rfl (mw5  hk) ?_)
  simp (disch := omega) only [jS, jm_sI, jm_aft, jm_en, jI, nc8, up_s, up_k, up_i, k8, k9, k32, k3, r16, nI_add, rm2, rm3, rm4, rm5, rm6, rm7, rm8, rm9, rm10, rm11, rm12, rm13, rm15, rm16, rm17, rm18, rm19, rm21, rm22, rm23, rm24, rm25, rm26, rm27, rm28, rm29]
  by_cases h3 : I 186 (8 * y + g) < 0
  · rw [if_pos h3, if_pos h3]
    repeat (first | refine jE_step rfl trivial ?_ | refine jE_step rfl rfl ?_)
    exact jE_ret rfl (Or.inl rfl)
  rw [if_neg h3, if_neg h3]
  repeat (first | refine jE_step rfl trivial ?_ | refine jE_step rfl rfl ?_ | refine jE_step rfl lo_mod ?_ | refine jE_step rfl ⟨lo_mod, Or.inl rfl⟩ ?_ | refine jE_step rfl ⟨lo_mod, Or.inr rfl⟩ ?_ | refine jE_step rfl (mx6  hk) ?_ | refine jE_step rfl (mw6  hk) ?_)
  simp (disch := omega) only [jS, jm_sI, jm_aft, jm_en, jI, nc8, up_s, up_k, up_i, k8, k9, k32, k3, r16, nI_add, rm2, rm3, rm4, rm5, rm6, rm7, rm8, rm9, rm10, rm11, rm12, rm13, rm15, rm16, rm17, rm18, rm19, rm21, rm22, rm23, rm24, rm25, rm26, rm27, rm28, rm29]
  by_cases h4 : 0 ≤ I 187 (8 * y + g)
  · rw [if_pos h4, if_pos h4]
    repeat (first | refine jE_step rfl trivial ?_ | refine jE_step rfl rfl ?_ | refine jE_step rfl lo_mod ?_ | refine jE_step rfl ⟨lo_mod, Or.inl rfl⟩ ?_ | refine jE_step rfl ⟨lo_mod, Or.inr rfl⟩ ?_ | refine jE_step rfl (mx25  hp) ?_ | refine jE_step rfl (mw25  hp) ?_)
    simp (disch := omega) only [jS, jm_sI, jm_aft, jm_en, jI, nc8, up_s, up_k, up_i, k8, k9, k32, k3, r16, nI_add, rm2, rm3, rm4, rm5, rm6, rm7, rm8, rm9, rm10, rm11, rm12, rm13, rm15, rm16, rm17, rm18, rm19, rm21, rm22, rm23, rm24, rm25, rm26, rm27, rm28, rm29]
    have f1 := fin 1
    have f0 := fin 0
    rw [if_neg (by decide)] at f1
    rw [if_pos rfl] at f0
    by_cases h5 : I 204 p < 0
    · rw [if_pos h5, if_pos h5, if_neg (by decide)]
      repeat (first | exact f1 | refine jE_step rfl trivial ?_ | refine jE_step rfl rfl ?_)
    rw [if_neg h5, if_neg h5]
    repeat (first | refine jE_step rfl trivial ?_ | refine jE_step rfl rfl ?_ | refine jE_step rfl lo_mod ?_ | refine jE_step rfl ⟨lo_mod, Or.inl rfl⟩ ?_ | refine jE_step rfl ⟨lo_mod, Or.inr rfl⟩ ?_ | refine jE_step rfl (mx25  hp) ?_ | refine jE_step rfl (mw25  hp) ?_ | refine jE_step rfl (mx5  hk) ?_ | refine jE_step rfl (mw5  hk) ?_)
    simp (disch := omega) only [jS, jm_sI, jm_aft, jm_en, jI, nc8, up_s, up_k, up_i, k8, k9, k32, k3, r16, nI_add, rm2, rm3, rm4, rm5, rm6, rm7, rm8, rm9, rm10, rm11, rm12, rm13, rm15, rm16, rm17, rm18, rm19, rm21, rm22, rm23, rm24, rm25, rm26, rm27, rm28, rm29]
    by_cases h6 : I 204 p < I 186 (8 * y + g)
    · rw [if_pos h6, if_pos h6, if_neg (by decide)]
      repeat (first | exact f1 | refine jE_step rfl trivial ?_ | refine jE_step rfl rfl ?_)
    rw [if_neg h6, if_neg h6]
    repeat (first | refine jE_step rfl trivial ?_ | refine jE_step rfl rfl ?_ | refine jE_step rfl lo_mod ?_ | refine jE_step rfl ⟨lo_mod, Or.inl rfl⟩ ?_ | refine jE_step rfl ⟨lo_mod, Or.inr rfl⟩ ?_ | refine jE_step rfl (mx25  hp) ?_ | refine jE_step rfl (mw25  hp) ?_ | refine jE_step rfl (mx5  hk) ?_ | refine jE_step rfl (mw5  hk) ?_)
    simp (disch := omega) only [jS, jm_sI, jm_aft, jm_en, jI, nc8, up_s, up_k, up_i, k8, k9, k32, k3, r16, nI_add, rm2, rm3, rm4, rm5, rm6, rm7, rm8, rm9, rm10, rm11, rm12, rm13, rm15, rm16, rm17, rm18, rm19, rm21, rm22, rm23, rm24, rm25, rm26, rm27, rm28, rm29]
    by_cases h7 : I 186 (8 * y + g) = I 204 p
    · rw [if_pos h7, if_pos h7]
      repeat (first | refine jE_step rfl trivial ?_ | refine jE_step rfl rfl ?_ | refine jE_step rfl lo_mod ?_ | refine jE_step rfl ⟨lo_mod, Or.inl rfl⟩ ?_ | refine jE_step rfl ⟨lo_mod, Or.inr rfl⟩ ?_ | refine jE_step rfl (mx26  hp) ?_ | refine jE_step rfl (mw26  hp) ?_ | refine jE_step rfl (mx6  hk) ?_ | refine jE_step rfl (mw6  hk) ?_)
      simp (disch := omega) only [jS, jm_sI, jm_aft, jm_en, jI, nc8, up_s, up_k, up_i, k8, k9, k32, k3, r16, nI_add, rm2, rm3, rm4, rm5, rm6, rm7, rm8, rm9, rm10, rm11, rm12, rm13, rm15, rm16, rm17, rm18, rm19, rm21, rm22, rm23, rm24, rm25, rm26, rm27, rm28, rm29]
      by_cases h8 : I 205 p ≤ I 187 (8 * y + g)
      · rw [if_pos h8, if_pos h8, if_pos rfl]
        repeat (first | exact f0 | refine jE_step rfl trivial ?_ | refine jE_step rfl rfl ?_)
      · rw [if_neg h8, if_neg h8, if_neg (by decide)]
        repeat (first | exact f1 | refine jE_step rfl trivial ?_ | refine jE_step rfl rfl ?_)
    · rw [if_neg h7, if_neg h7, if_pos rfl]
      repeat (first | exact f0 | refine jE_step rfl trivial ?_ | refine jE_step rfl rfl ?_)
  · rw [if_neg h4, if_neg h4]
    repeat (first | refine jE_step rfl trivial ?_ | refine jE_step rfl rfl ?_)
    exact jE_ret rfl (Or.inl rfl)
theorem mT_find0 {x : Int32} {out : Option Value ⊕ Nat} {σ : jm_S} {y : Option Value} (fin : ∀ w, jm_F (d, 54, 41, [some (.ref 182), some (.int x), some (.int (mFind I x 16)), some (.int (nI 16)), y], [], w, jS L I G t) out σ) : ∀ r k (w : Bool), k + r = 16 → jm_F (d, 54, 4, [some (.ref 182), some (.int x), some (.int (mFind I x k)), some (.int (nI k)), y], [], w, jS L I G t) out σ := by
  intro r
  induction r with
  | zero =>
    intro k w hk
    have : k = 16 := by omega
    subst this
    generalize mFind I x 16 = z at fin ⊢
    repeat (first | exact fin _ | refine jF_step rfl trivial ?_ | refine jF_step rfl rfl ?_)
  | succ r ih =>
    intro k w hk
    have hk16 : k < 16 := by omega
    have k1 := fun w => ih (k + 1) w (by omega)
    rw [mFind] at k1
    simp only [← nI_1 (a := k)] at k1
    generalize mFind I x k = z at k1 ⊢
    repeat (first | refine jF_step rfl trivial ?_ | refine jF_step rfl rfl ?_)
    rw [if_neg (n16 hk16)]
    repeat (first | refine jF_step rfl trivial ?_ | refine jF_step rfl rfl ?_ | refine jF_step rfl lo_mod ?_ | refine jF_step rfl ⟨lo_mod, Or.inl rfl⟩ ?_ | refine jF_step rfl ⟨lo_mod, Or.inr rfl⟩ ?_ | refine jF_step rfl (mx21  hk16) ?_ | refine jF_step rfl (mw21  hk16) ?_ | simp (disch := omega) only [jS, jm_sI, jm_aft, jm_en, jI, nc8, up_s, up_k, up_i, k8, k9, k32, k3, r16, nI_add, rm2, rm3, rm4, rm5, rm6, rm7, rm8, rm9, rm10, rm11, rm12, rm13, rm15, rm16, rm17, rm18, rm19, rm21, rm22, rm23, rm24, rm25, rm26, rm27, rm28, rm29])
    by_cases h1 : I 200 k < 0
    · rw [if_pos h1] at k1 ⊢
      repeat (first | exact k1 _ | refine jF_step rfl trivial ?_ | refine jF_step rfl rfl ?_)
    · rw [if_neg h1] at k1 ⊢
      repeat (first | refine jF_step rfl trivial ?_ | refine jF_step rfl rfl ?_ | refine jF_step rfl lo_mod ?_ | refine jF_step rfl ⟨lo_mod, Or.inl rfl⟩ ?_ | refine jF_step rfl ⟨lo_mod, Or.inr rfl⟩ ?_ | refine jF_step rfl (mx21  hk16) ?_ | refine jF_step rfl (mw21  hk16) ?_ | simp (disch := omega) only [jS, jm_sI, jm_aft, jm_en, jI, nc8, up_s, up_k, up_i, k8, k9, k32, k3, r16, nI_add, rm2, rm3, rm4, rm5, rm6, rm7, rm8, rm9, rm10, rm11, rm12, rm13, rm15, rm16, rm17, rm18, rm19, rm21, rm22, rm23, rm24, rm25, rm26, rm27, rm28, rm29])
      by_cases h2 : I 200 k = x
      · rw [if_pos h2] at k1 ⊢
        repeat (first | exact k1 _ | refine jF_step rfl trivial ?_ | refine jF_step rfl rfl ?_)
      · rw [if_neg h2] at k1 ⊢
        repeat (first | exact k1 _ | refine jF_step rfl trivial ?_ | refine jF_step rfl rfl ?_)
theorem mC_moveX {x : Int32} (h : mFind I x 16 = -1) : jm_F (d, 54, 0, jm_en 54 [.ref 182, .int x], [], false, jS L I G t) (.inl (some (.int 0))) (jS L (jm_up I 182 0 1) G t) := by
  have k1 := fun fin w => mT_find0 (L := L) (t := t) (d := d) (I := I) (G := G) (x := x) (y := none) (out := .inl (some (.int 0))) (σ := jS L (jm_up I 182 0 1) G t) fin 16 0 w rfl
  rw [h] at k1
  have fin : ∀ w, jm_F (d, 54, 41, [some (.ref 182), some (.int x), some (.int (-1)), some (.int (nI 16)), none], [], w, jS L I G t) (.inl (some (.int 0))) (jS L (jm_up I 182 0 1) G t) := by
    intro w
    repeat (first | refine jF_step rfl trivial ?_ | refine jF_step rfl rfl ?_ | refine jF_step rfl lo_mod ?_ | refine jF_step rfl ⟨lo_mod, Or.inl rfl⟩ ?_ | refine jF_step rfl ⟨lo_mod, Or.inr rfl⟩ ?_ | simp (disch := omega) only [jS, jm_sI, jm_aft, jm_en, jI, nc8, up_s, up_k, up_i, k8, k9, k32, k3, r16, nI_add, rm2, rm3, rm4, rm5, rm6, rm7, rm8, rm9, rm10, rm11, rm12, rm13, rm15, rm16, rm17, rm18, rm19, rm21, rm22, rm23, rm24, rm25, rm26, rm27, rm28, rm29])
    exact jF_ret rfl trivial
  repeat (first | exact k1 fin _ | refine jF_step rfl trivial ?_ | refine jF_step rfl rfl ?_)
theorem mC_moveY {x : Int32} {p a : Nat} (hp : p < 16) (ha : a < 8) (h : mFind I x 16 = nI p) (ea : I 201 p = nI a) (ho : I 183 a = 0) : jm_F (d, 54, 0, jm_en 54 [.ref 182, .int x], [], false, jS L I G t) (.inl (some (.int 0))) (jS L (jm_up I 182 0 2) G t) := by
  have k1 := fun fin w => mT_find0 (L := L) (t := t) (d := d) (I := I) (G := G) (x := x) (y := none) (out := .inl (some (.int 0))) (σ := jS L (jm_up I 182 0 2) G t) fin 16 0 w rfl
  rw [h] at k1
  have fin : ∀ w, jm_F (d, 54, 41, [some (.ref 182), some (.int x), some (.int (nI p)), some (.int (nI 16)), none], [], w, jS L I G t) (.inl (some (.int 0))) (jS L (jm_up I 182 0 2) G t) := by
    intro w
    repeat (first | refine jF_step rfl trivial ?_ | refine jF_step rfl rfl ?_)
    rw [if_pos (nI_pos' (by omega))]
    repeat (first | refine jF_step rfl trivial ?_ | refine jF_step rfl rfl ?_ | refine jF_step rfl lo_mod ?_ | refine jF_step rfl ⟨lo_mod, Or.inl rfl⟩ ?_ | refine jF_step rfl ⟨lo_mod, Or.inr rfl⟩ ?_)
    iterate 1 (first | refine jF_step rfl trivial ?_ | refine jF_step rfl rfl ?_ | refine jF_step rfl (mx22  hp) ?_ | refine jF_step rfl (mw22  hp) ?_)
    simp (disch := omega) only [jS, jm_sI, jm_aft, jm_en, jI, nc8, up_s, up_k, up_i, k8, k9, k32, k3, r16, nI_add, rm2, rm3, rm4, rm5, rm6, rm7, rm8, rm9, rm10, rm11, rm12, rm13, rm15, rm16, rm17, rm18, rm19, rm21, rm22, rm23, rm24, rm25, rm26, rm27, rm28, rm29, ea]
    iterate 1 (first | refine jF_step rfl trivial ?_ | refine jF_step rfl rfl ?_ | refine jF_step rfl (mw2  ha) ?_ | refine jF_step rfl ⟨mw2  ha, Or.inl rfl⟩ ?_ | refine jF_step rfl ⟨mw2  ha, Or.inr rfl⟩ ?_)
    simp (disch := omega) only [jS, jm_sI, jm_aft, jm_en, jI, nc8, up_s, up_k, up_i, k8, k9, k32, k3, r16, nI_add, rm2, rm3, rm4, rm5, rm6, rm7, rm8, rm9, rm10, rm11, rm12, rm13, rm15, rm16, rm17, rm18, rm19, rm21, rm22, rm23, rm24, rm25, rm26, rm27, rm28, rm29]
    repeat (first | refine jF_step rfl trivial ?_ | refine jF_step rfl rfl ?_)
    rw [if_pos ho]
    repeat (first | refine jF_step rfl trivial ?_ | refine jF_step rfl rfl ?_ | refine jF_step rfl lo_mod ?_ | refine jF_step rfl ⟨lo_mod, Or.inl rfl⟩ ?_ | refine jF_step rfl ⟨lo_mod, Or.inr rfl⟩ ?_ | simp (disch := omega) only [jS, jm_sI, jm_aft, jm_en, jI, nc8, up_s, up_k, up_i, k8, k9, k32, k3, r16, nI_add, rm2, rm3, rm4, rm5, rm6, rm7, rm8, rm9, rm10, rm11, rm12, rm13, rm15, rm16, rm17, rm18, rm19, rm21, rm22, rm23, rm24, rm25, rm26, rm27, rm28, rm29])
    exact jF_ret rfl trivial
  repeat (first | exact k1 fin _ | refine jF_step rfl trivial ?_ | refine jF_step rfl rfl ?_)
theorem mT_mv {x : Int32} {p a g : Nat} {out : Option Value ⊕ Nat} {σ : jm_S} (hp : p < 16) (ha : a < 8) (hg : g < 8) (h : mFind I x 16 = nI p) (ea : I 201 p = nI a) (eg : I 202 p = nI g) (ho : ¬ I 183 a = 0)
    (fin2 : ∀ w, jm_F (d, 54, 106, [some (.ref 182), some (.int x), some (.int (nI p)), some (.int (nI g)), some (.int (I 188 (8 * a + g)))], [], w, jS L (jm_up I 182 0 0) G t) out σ) : jm_F (d, 54, 0, jm_en 54 [.ref 182, .int x], [], false, jS L I G t) out σ := by
  have k1 := fun fin w => mT_find0 (L := L) (t := t) (d := d) (I := I) (G := G) (x := x) (y := none) (out := out) (σ := σ) fin 16 0 w rfl
  rw [h] at k1
  have fin : ∀ w, jm_F (d, 54, 41, [some (.ref 182), some (.int x), some (.int (nI p)), some (.int (nI 16)), none], [], w, jS L I G t) out σ := by
    intro w
    repeat (first | refine jF_step rfl trivial ?_ | refine jF_step rfl rfl ?_)
    rw [if_pos (nI_pos' (by omega))]
    repeat (first | refine jF_step rfl trivial ?_ | refine jF_step rfl rfl ?_ | refine jF_step rfl lo_mod ?_ | refine jF_step rfl ⟨lo_mod, Or.inl rfl⟩ ?_ | refine jF_step rfl ⟨lo_mod, Or.inr rfl⟩ ?_)
    iterate 1 (first | refine jF_step rfl trivial ?_ | refine jF_step rfl rfl ?_ | refine jF_step rfl (mx22  hp) ?_ | refine jF_step rfl (mw22  hp) ?_)
    simp (disch := omega) only [jS, jm_sI, jm_aft, jm_en, jI, nc8, up_s, up_k, up_i, k8, k9, k32, k3, r16, nI_add, rm2, rm3, rm4, rm5, rm6, rm7, rm8, rm9, rm10, rm11, rm12, rm13, rm15, rm16, rm17, rm18, rm19, rm21, rm22, rm23, rm24, rm25, rm26, rm27, rm28, rm29, ea]
    iterate 1 (first | refine jF_step rfl trivial ?_ | refine jF_step rfl rfl ?_ | refine jF_step rfl (mw2  ha) ?_ | refine jF_step rfl ⟨mw2  ha, Or.inl rfl⟩ ?_ | refine jF_step rfl ⟨mw2  ha, Or.inr rfl⟩ ?_)
    simp (disch := omega) only [jS, jm_sI, jm_aft, jm_en, jI, nc8, up_s, up_k, up_i, k8, k9, k32, k3, r16, nI_add, rm2, rm3, rm4, rm5, rm6, rm7, rm8, rm9, rm10, rm11, rm12, rm13, rm15, rm16, rm17, rm18, rm19, rm21, rm22, rm23, rm24, rm25, rm26, rm27, rm28, rm29]
    repeat (first | refine jF_step rfl trivial ?_ | refine jF_step rfl rfl ?_)
    rw [if_neg ho]
    iterate 8 (first | refine jF_step rfl trivial ?_ | refine jF_step rfl rfl ?_ | refine jF_step rfl lo_mod ?_ | refine jF_step rfl ⟨lo_mod, Or.inl rfl⟩ ?_ | refine jF_step rfl ⟨lo_mod, Or.inr rfl⟩ ?_)
    simp (disch := omega) only [jS, jm_sI, jm_aft, jm_en, jI, nc8, up_s, up_k, up_i, k8, k9, k32, k3, r16, nI_add, rm2, rm3, rm4, rm5, rm6, rm7, rm8, rm9, rm10, rm11, rm12, rm13, rm15, rm16, rm17, rm18, rm19, rm21, rm22, rm23, rm24, rm25, rm26, rm27, rm28, rm29]
    iterate 1 (first | refine jF_step rfl trivial ?_ | refine jF_step rfl rfl ?_ | refine jF_step rfl (mx23  hp) ?_ | refine jF_step rfl (mw23  hp) ?_)
    simp (disch := omega) only [jS, jm_sI, jm_aft, jm_en, jI, nc8, up_s, up_k, up_i, k8, k9, k32, k3, r16, nI_add, rm2, rm3, rm4, rm5, rm6, rm7, rm8, rm9, rm10, rm11, rm12, rm13, rm15, rm16, rm17, rm18, rm19, rm21, rm22, rm23, rm24, rm25, rm26, rm27, rm28, rm29, eg]
    repeat (first | refine jF_step rfl trivial ?_ | refine jF_step rfl rfl ?_ | refine jF_step rfl lo_mod ?_ | refine jF_step rfl ⟨lo_mod, Or.inl rfl⟩ ?_ | refine jF_step rfl ⟨lo_mod, Or.inr rfl⟩ ?_ | refine jF_step rfl (mx22  hp) ?_ | refine jF_step rfl (mw22  hp) ?_)
    simp (disch := omega) only [jS, jm_sI, jm_aft, jm_en, jI, nc8, up_s, up_k, up_i, k8, k9, k32, k3, r16, nI_add, rm2, rm3, rm4, rm5, rm6, rm7, rm8, rm9, rm10, rm11, rm12, rm13, rm15, rm16, rm17, rm18, rm19, rm21, rm22, rm23, rm24, rm25, rm26, rm27, rm28, rm29, ea]
    iterate 1 (first | refine jF_step rfl trivial ?_ | refine jF_step rfl rfl ?_ | refine jF_step rfl (mx7  (show 8 * a + g < 64 by omega)) ?_ | refine jF_step rfl (mw7  (show 8 * a + g < 64 by omega)) ?_)
    iterate 1 (first | refine jF_step rfl trivial ?_ | refine jF_step rfl rfl ?_)
    simp (disch := omega) only [jS, jm_sI, jm_aft, jm_en, jI, nc8, up_s, up_k, up_i, k8, k9, k32, k3, r16, nI_add, rm2, rm3, rm4, rm5, rm6, rm7, rm8, rm9, rm10, rm11, rm12, rm13, rm15, rm16, rm17, rm18, rm19, rm21, rm22, rm23, rm24, rm25, rm26, rm27, rm28, rm29]
    exact fin2 _
  repeat (first | exact k1 fin _ | refine jF_step rfl trivial ?_ | refine jF_step rfl rfl ?_)
theorem mCnt0 {b : Int32} {k : Nat} : mCnt (jm_up I 182 0 0) b k = mCnt I b k := mCnt_up (by omega) (by omega) k
theorem mGoes0 {p x y g : Nat} : mGoes (jm_up I 182 0 0) p x y g = mGoes I p x y g := by
  unfold mGoes mFalls mRoom
  simp (disch := omega) only [up_k, mCnt0]
theorem mC_moveN {x : Int32} {p a g : Nat} (hp : p < 16) (ha : a < 8) (hg : g < 8) (h : mFind I x 16 = nI p) (ea : I 201 p = nI a) (eg : I 202 p = nI g) (ho : ¬ I 183 a = 0) (hy : I 188 (8 * a + g) < 0 ∨ ∃ y, y < 8 ∧ I 188 (8 * a + g) = nI y ∧ mGoes I p a y g = 0) : jm_F (d + 2, 54, 0, jm_en 54 [.ref 182, .int x], [], false, jS L I G t) (.inl (some (.int (nI a)))) (jS L (jm_up I 182 0 0) G t) := by
  refine mT_mv hp ha hg h ea eg ho (fun w => ?_)
  by_cases h1 : I 188 (8 * a + g) < 0
  · repeat (first | refine jF_step rfl trivial ?_ | refine jF_step rfl rfl ?_)
    rw [if_pos h1]
    repeat (first | refine jF_step rfl trivial ?_ | refine jF_step rfl rfl ?_ | refine jF_step rfl lo_mod ?_ | refine jF_step rfl ⟨lo_mod, Or.inl rfl⟩ ?_ | refine jF_step rfl ⟨lo_mod, Or.inr rfl⟩ ?_ | refine jF_step rfl (mx22  hp) ?_ | refine jF_step rfl (mw22  hp) ?_ | simp (disch := omega) only [jS, jm_sI, jm_aft, jm_en, jI, nc8, up_s, up_k, up_i, k8, k9, k32, k3, r16, nI_add, rm2, rm3, rm4, rm5, rm6, rm7, rm8, rm9, rm10, rm11, rm12, rm13, rm15, rm16, rm17, rm18, rm19, rm21, rm22, rm23, rm24, rm25, rm26, rm27, rm28, rm29, ea])
    exact jF_ret rfl trivial
  · obtain ⟨y, hy8, ey, hn⟩ := hy.elim (fun z => absurd z h1) id
    rw [ey] at h1 ⊢
    repeat (first | refine jF_step rfl trivial ?_ | refine jF_step rfl rfl ?_)
    rw [if_neg h1]
    repeat (first | refine jF_step rfl trivial ?_ | refine jF_step rfl rfl ?_ | refine jF_step rfl lo_mod ?_ | refine jF_step rfl ⟨lo_mod, Or.inl rfl⟩ ?_ | refine jF_step rfl ⟨lo_mod, Or.inr rfl⟩ ?_ | refine jF_step rfl (mx22  hp) ?_ | refine jF_step rfl (mw22  hp) ?_)
    simp (disch := omega) only [jS, jm_sI, jm_aft, jm_en, jI, nc8, up_s, up_k, up_i, k8, k9, k32, k3, r16, nI_add, rm2, rm3, rm4, rm5, rm6, rm7, rm8, rm9, rm10, rm11, rm12, rm13, rm15, rm16, rm17, rm18, rm19, rm21, rm22, rm23, rm24, rm25, rm26, rm27, rm28, rm29, ea]
    repeat (first | refine jF_step rfl trivial ?_ | refine jF_step rfl rfl ?_)
    refine jF_callE rfl ⟨Nat.le_of_ble_eq_true rfl, lo_mod⟩ (mT_goes (I := jm_up I 182 0 0) hp ha hy8 hg (by rw [up_k (by omega), eg])) ?_
    rw [mGoes0, hn]
    repeat (first | refine jF_step rfl trivial ?_ | refine jF_step rfl rfl ?_ | refine jF_step rfl lo_mod ?_ | refine jF_step rfl ⟨lo_mod, Or.inl rfl⟩ ?_ | refine jF_step rfl ⟨lo_mod, Or.inr rfl⟩ ?_ | refine jF_step rfl (mx22  hp) ?_ | refine jF_step rfl (mw22  hp) ?_ | simp (disch := omega) only [jS, jm_sI, jm_aft, jm_en, jI, nc8, up_s, up_k, up_i, k8, k9, k32, k3, r16, nI_add, rm2, rm3, rm4, rm5, rm6, rm7, rm8, rm9, rm10, rm11, rm12, rm13, rm15, rm16, rm17, rm18, rm19, rm21, rm22, rm23, rm24, rm25, rm26, rm27, rm28, rm29, ea])
    exact jF_ret rfl trivial
theorem mC_move {x : Int32} {p a g y n : Nat} (hp : p < 16) (ha : a < 8) (hg : g < 8) (hy : y < 8) (hn : n < 32 ∨ y ≠ g) (h : mFind I x 16 = nI p) (ea : I 201 p = nI a) (eg : I 202 p = nI g) (ho : ¬ I 183 a = 0) (ey : I 188 (8 * a + g) = nI y) (hm : ¬ mGoes I p a y g = 0) (ew : I 206 y = nI n) : jm_F (d + 2, 54, 0, jm_en 54 [.ref 182, .int x], [], false, jS L I G t) (.inl (some (.int (if y = g then -1 else nI y)))) (jS L (mMove p g y n I) G t) := by
  have hk : 8 * y + g < 64 := by omega
  refine mT_mv hp ha hg h ea eg ho (fun w => ?_)
  rw [ey]
  repeat (first | refine jF_step rfl trivial ?_ | refine jF_step rfl rfl ?_)
  rw [if_neg (nin0 (by omega))]
  repeat (first | refine jF_step rfl trivial ?_ | refine jF_step rfl rfl ?_ | refine jF_step rfl lo_mod ?_ | refine jF_step rfl ⟨lo_mod, Or.inl rfl⟩ ?_ | refine jF_step rfl ⟨lo_mod, Or.inr rfl⟩ ?_ | refine jF_step rfl (mx22  hp) ?_ | refine jF_step rfl (mw22  hp) ?_)
  simp (disch := omega) only [jS, jm_sI, jm_aft, jm_en, jI, nc8, up_s, up_k, up_i, k8, k9, k32, k3, r16, nI_add, rm2, rm3, rm4, rm5, rm6, rm7, rm8, rm9, rm10, rm11, rm12, rm13, rm15, rm16, rm17, rm18, rm19, rm21, rm22, rm23, rm24, rm25, rm26, rm27, rm28, rm29, ea]
  repeat (first | refine jF_step rfl trivial ?_ | refine jF_step rfl rfl ?_)
  refine jF_callE rfl ⟨Nat.le_of_ble_eq_true rfl, lo_mod⟩ (mT_goes (I := jm_up I 182 0 0) hp ha hy hg (by rw [up_k (by omega), eg])) ?_
  rw [mGoes0]
  repeat (first | refine jF_step rfl trivial ?_ | refine jF_step rfl rfl ?_)
  rw [if_neg hm]
  unfold mMove
  repeat (first | refine jF_step rfl trivial ?_ | refine jF_step rfl rfl ?_ | refine jF_step rfl lo_mod ?_ | refine jF_step rfl ⟨lo_mod, Or.inl rfl⟩ ?_ | refine jF_step rfl ⟨lo_mod, Or.inr rfl⟩ ?_ | refine jF_step rfl (mx25  hp) ?_ | refine jF_step rfl (mw25  hp) ?_ | refine jF_step rfl (mx26  hp) ?_ | refine jF_step rfl (mw26  hp) ?_ | refine jF_step rfl (mx22  hp) ?_ | refine jF_step rfl (mw22  hp) ?_ | refine jF_step rfl (mx5  hk) ?_ | refine jF_step rfl (mw5  hk) ?_ | refine jF_step rfl (mx6  hk) ?_ | refine jF_step rfl (mw6  hk) ?_ | simp (disch := omega) only [jS, jm_sI, jm_aft, jm_en, jI, nc8, up_s, up_k, up_i, k8, k9, k32, k3, r16, nI_add, rm2, rm3, rm4, rm5, rm6, rm7, rm8, rm9, rm10, rm11, rm12, rm13, rm15, rm16, rm17, rm18, rm19, rm21, rm22, rm23, rm24, rm25, rm26, rm27, rm28, rm29])
  by_cases hyg : y = g
  · have hn : n < 32 := hn.elim id (fun z => absurd hyg z)
    rw [if_pos (congrArg nI hyg), if_pos hyg, if_pos hyg]
    iterate 4 (first | refine jF_step rfl trivial ?_ | refine jF_step rfl rfl ?_ | refine jF_step rfl lo_mod ?_ | refine jF_step rfl ⟨lo_mod, Or.inl rfl⟩ ?_ | refine jF_step rfl ⟨lo_mod, Or.inr rfl⟩ ?_)
    iterate 1 (first | refine jF_step rfl trivial ?_ | refine jF_step rfl rfl ?_ | refine jF_step rfl (mx21  hp) ?_ | refine jF_step rfl (mw21  hp) ?_)
    simp (disch := omega) only [jS, jm_sI, jm_aft, jm_en, jI, nc8, up_s, up_k, up_i, k8, k9, k32, k3, r16, nI_add, rm2, rm3, rm4, rm5, rm6, rm7, rm8, rm9, rm10, rm11, rm12, rm13, rm15, rm16, rm17, rm18, rm19, rm21, rm22, rm23, rm24, rm25, rm26, rm27, rm28, rm29]
    repeat (first | refine jF_step rfl trivial ?_ | refine jF_step rfl rfl ?_ | refine jF_step rfl lo_mod ?_ | refine jF_step rfl ⟨lo_mod, Or.inl rfl⟩ ?_ | refine jF_step rfl ⟨lo_mod, Or.inr rfl⟩ ?_ | refine jF_step rfl (mx27  hy) ?_ | refine jF_step rfl (mw27  hy) ?_)
    simp (disch := omega) only [jS, jm_sI, jm_aft, jm_en, jI, nc8, up_s, up_k, up_i, k8, k9, k32, k3, r16, nI_add, rm2, rm3, rm4, rm5, rm6, rm7, rm8, rm9, rm10, rm11, rm12, rm13, rm15, rm16, rm17, rm18, rm19, rm21, rm22, rm23, rm24, rm25, rm26, rm27, rm28, rm29, ew]
    iterate 1 (first | refine jF_step rfl trivial ?_ | refine jF_step rfl rfl ?_ | refine jF_step rfl (mx24  hp) ?_ | refine jF_step rfl (mw24  hp) ?_)
    simp (disch := omega) only [jS, jm_sI, jm_aft, jm_en, jI, nc8, up_s, up_k, up_i, k8, k9, k32, k3, r16, nI_add, rm2, rm3, rm4, rm5, rm6, rm7, rm8, rm9, rm10, rm11, rm12, rm13, rm15, rm16, rm17, rm18, rm19, rm21, rm22, rm23, rm24, rm25, rm26, rm27, rm28, rm29]
    iterate 1 (first | refine jF_step rfl trivial ?_ | refine jF_step rfl rfl ?_ | refine jF_step rfl (mx28  (show 32 * y + n < 256 by omega)) ?_ | refine jF_step rfl (mw28  (show 32 * y + n < 256 by omega)) ?_)
    simp (disch := omega) only [jS, jm_sI, jm_aft, jm_en, jI, nc8, up_s, up_k, up_i, k8, k9, k32, k3, r16, nI_add, rm2, rm3, rm4, rm5, rm6, rm7, rm8, rm9, rm10, rm11, rm12, rm13, rm15, rm16, rm17, rm18, rm19, rm21, rm22, rm23, rm24, rm25, rm26, rm27, rm28, rm29]
    iterate 3 (first | refine jF_step rfl trivial ?_ | refine jF_step rfl rfl ?_ | refine jF_step rfl lo_mod ?_ | refine jF_step rfl ⟨lo_mod, Or.inl rfl⟩ ?_ | refine jF_step rfl ⟨lo_mod, Or.inr rfl⟩ ?_)
    iterate 1 (first | refine jF_step rfl trivial ?_ | refine jF_step rfl rfl ?_ | refine jF_step rfl ⟨rfl, rfl⟩ ?_ | refine jF_step rfl ⟨⟨rfl, rfl⟩, Or.inl rfl⟩ ?_ | refine jF_step rfl ⟨⟨rfl, rfl⟩, Or.inr rfl⟩ ?_)
    iterate 1 (first | refine jF_step rfl trivial ?_ | refine jF_step rfl rfl ?_ | refine jF_step rfl (mx27  hy) ?_ | refine jF_step rfl (mw27  hy) ?_)
    simp (disch := omega) only [jS, jm_sI, jm_aft, jm_en, jI, nc8, up_s, up_k, up_i, k8, k9, k32, k3, r16, nI_add, rm2, rm3, rm4, rm5, rm6, rm7, rm8, rm9, rm10, rm11, rm12, rm13, rm15, rm16, rm17, rm18, rm19, rm21, rm22, rm23, rm24, rm25, rm26, rm27, rm28, rm29, ew]
    iterate 2 (first | refine jF_step rfl trivial ?_ | refine jF_step rfl rfl ?_)
    simp (disch := omega) only [jS, jm_sI, jm_aft, jm_en, jI, nc8, up_s, up_k, up_i, k8, k9, k32, k3, r16, nI_add, rm2, rm3, rm4, rm5, rm6, rm7, rm8, rm9, rm10, rm11, rm12, rm13, rm15, rm16, rm17, rm18, rm19, rm21, rm22, rm23, rm24, rm25, rm26, rm27, rm28, rm29, nI_1]
    iterate 1 (first | refine jF_step rfl trivial ?_ | refine jF_step rfl rfl ?_ | refine jF_step rfl (mx27  hy) ?_ | refine jF_step rfl (mw27  hy) ?_)
    simp (disch := omega) only [jS, jm_sI, jm_aft, jm_en, jI, nc8, up_s, up_k, up_i, k8, k9, k32, k3, r16, nI_add, rm2, rm3, rm4, rm5, rm6, rm7, rm8, rm9, rm10, rm11, rm12, rm13, rm15, rm16, rm17, rm18, rm19, rm21, rm22, rm23, rm24, rm25, rm26, rm27, rm28, rm29]
    repeat (first | refine jF_step rfl trivial ?_ | refine jF_step rfl rfl ?_)
    exact jF_ret rfl trivial
  · rw [if_neg (fun z => hyg ((nI_eq (by omega) (by omega)).mp z)), if_neg hyg, if_neg hyg]
    repeat (first | refine jF_step rfl trivial ?_ | refine jF_step rfl rfl ?_)
    exact jF_ret rfl trivial
end
