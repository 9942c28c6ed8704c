/-! runs of the small machine: the reference's questions -/
section
variable {L t d : Nat} {I : jHp} {G : Nat → Nat → Int64}
theorem mT_linkX {x y to : Int32} (h : (x < 0 ∨ ¬ x < 8) ∨ (y < 0 ∨ ¬ y < 8) ∨ x = y) : jm_F (d + 1, 37, 0, jm_en 37 [.ref 182, .int x, .int y, .int to], [], false, jS L I G t) (.inl (some (.int 0))) (jS L (jm_up I 182 0 1) G t) := by
  repeat (first | refine jF_step rfl trivial ?_ | refine jF_step rfl rfl ?_)
  by_cases hx : x < 0 ∨ ¬ x < 8
  · refine jF_callE rfl ⟨Nat.le_of_ble_eq_true rfl, Nat.le_of_ble_eq_true rfl⟩ (mT_boatX hx) ?_
    repeat (first | refine jF_step rfl trivial ?_ | refine jF_step rfl rfl ?_ | refine jF_step rfl lo_mod ?_ | refine jF_step rfl ⟨lo_mod, Or.inl rfl⟩ ?_ | refine jF_step rfl ⟨lo_mod, Or.inr rfl⟩ ?_ | simp (disch := omega) only [jS, jm_sI, jm_aft, jm_en, jI, nc8, up_s, up_k, up_i, k8, k9, k32, k3, r16, nI_add, rm2, rm3, rm4, rm5, rm6, rm7, rm8, rm9, rm10, rm11, rm12, rm13, rm15, rm16, rm17, rm18, rm19, rm21, rm22, rm23, rm24, rm25, rm26, rm27, rm28, rm29])
    exact jF_ret rfl (Or.inl rfl)
  · obtain ⟨i, hi, rfl⟩ := nb_of hx
    refine jF_callE rfl ⟨Nat.le_of_ble_eq_true rfl, Nat.le_of_ble_eq_true rfl⟩ (mT_boat hi) ?_
    repeat (first | refine jF_step rfl trivial ?_ | refine jF_step rfl rfl ?_)
    by_cases hy : y < 0 ∨ ¬ y < 8
    · refine jF_callE rfl ⟨Nat.le_of_ble_eq_true rfl, Nat.le_of_ble_eq_true rfl⟩ (mT_boatX hy) ?_
      repeat (first | refine jF_step rfl trivial ?_ | refine jF_step rfl rfl ?_ | refine jF_step rfl lo_mod ?_ | refine jF_step rfl ⟨lo_mod, Or.inl rfl⟩ ?_ | refine jF_step rfl ⟨lo_mod, Or.inr rfl⟩ ?_ | simp (disch := omega) only [jS, jm_sI, jm_aft, jm_en, jI, nc8, up_s, up_k, up_i, k8, k9, k32, k3, r16, nI_add, rm2, rm3, rm4, rm5, rm6, rm7, rm8, rm9, rm10, rm11, rm12, rm13, rm15, rm16, rm17, rm18, rm19, rm21, rm22, rm23, rm24, rm25, rm26, rm27, rm28, rm29])
      exact jF_ret rfl (Or.inl rfl)
    · obtain ⟨j, hj, rfl⟩ := nb_of hy
      refine jF_callE rfl ⟨Nat.le_of_ble_eq_true rfl, Nat.le_of_ble_eq_true rfl⟩ (mT_boat hj) ?_
      repeat (first | refine jF_step rfl trivial ?_ | refine jF_step rfl rfl ?_)
      rw [if_pos (h.elim (fun z => absurd z hx) (fun z => z.elim (fun z => absurd z hy) id))]
      repeat (first | refine jF_step rfl trivial ?_ | refine jF_step rfl rfl ?_ | refine jF_step rfl lo_mod ?_ | refine jF_step rfl ⟨lo_mod, Or.inl rfl⟩ ?_ | refine jF_step rfl ⟨lo_mod, Or.inr rfl⟩ ?_ | simp (disch := omega) only [jS, jm_sI, jm_aft, jm_en, jI, nc8, up_s, up_k, up_i, k8, k9, k32, k3, r16, nI_add, rm2, rm3, rm4, rm5, rm6, rm7, rm8, rm9, rm10, rm11, rm12, rm13, rm15, rm16, rm17, rm18, rm19, rm21, rm22, rm23, rm24, rm25, rm26, rm27, rm28, rm29])
      exact jF_ret rfl (Or.inl rfl)
/-- the reference shows entry k -/
def mShow (k : Nat) (I : jHp) : jHp := jm_up (jm_up (jm_up (jm_up I 189 k (I 186 k)) 190 k (I 187 k)) 191 k 1) 192 k 0
theorem mT_show {k : Nat} (hk : k < 64) : jm_E (d, 38, 0, jm_en 38 [.ref 182, .int (nI k)], [], false, jS L I G t) (.inl none, jS L (mShow k I) G t, true) := by
  unfold mShow
  repeat (first | refine jE_step rfl trivial ?_ | refine jE_step rfl rfl ?_ | refine jE_step rfl lo_mod ?_ | refine jE_step rfl ⟨lo_mod, Or.inl rfl⟩ ?_ | refine jE_step rfl ⟨lo_mod, Or.inr rfl⟩ ?_ | refine jE_step rfl (mx5  hk) ?_ | refine jE_step rfl (mw5  hk) ?_ | refine jE_step rfl (mx6  hk) ?_ | refine jE_step rfl (mw6  hk) ?_ | refine jE_step rfl (mx8  hk) ?_ | refine jE_step rfl (mw8  hk) ?_ | refine jE_step rfl (mx9  hk) ?_ | refine jE_step rfl (mw9  hk) ?_ | refine jE_step rfl (mw10  hk) ?_ | refine jE_step rfl ⟨mw10  hk, Or.inl rfl⟩ ?_ | refine jE_step rfl ⟨mw10  hk, Or.inr rfl⟩ ?_ | refine jE_step rfl (mw11  hk) ?_ | refine jE_step rfl ⟨mw11  hk, Or.inl rfl⟩ ?_ | refine jE_step rfl ⟨mw11  hk, Or.inr rfl⟩ ?_ | simp (disch := omega) only [jS, jm_sI, jm_aft, jm_en, jI, nc8, up_s, up_k, up_i, k8, k9, k32, k3, r16, nI_add, rm2, rm3, rm4, rm5, rm6, rm7, rm8, rm9, rm10, rm11, rm12, rm13, rm15, rm16, rm17, rm18, rm19, rm21, rm22, rm23, rm24, rm25, rm26, rm27, rm28, rm29])
  exact jE_ret rfl trivial
def mIsCast (I : jHp) (x : Int32) : Int32 := if x < 0 then 0 else if I 182 14 ≤ x then 0 else if x < I 182 14 - 16 then 0 else 1
theorem mT_isCast {x : Int32} : jm_E (d, 40, 0, jm_en 40 [.ref 182, .int x], [], false, jS L I G t) (.inl (some (.int (mIsCast I x))), jS L I G t, false) := by
  unfold mIsCast
  repeat (first | refine jE_step rfl trivial ?_ | refine jE_step rfl rfl ?_)
  by_cases h0 : x < 0
  · rw [if_pos h0, if_pos h0]
    repeat (first | refine jE_step rfl trivial ?_ | refine jE_step rfl rfl ?_)
    exact jE_ret rfl (Or.inl rfl)
  · rw [if_neg h0, if_neg h0]
    repeat (first | refine jE_step rfl trivial ?_ | refine jE_step rfl rfl ?_ | refine jE_step rfl lo_mod ?_ | refine jE_step rfl ⟨lo_mod, Or.inl rfl⟩ ?_ | refine jE_step rfl ⟨lo_mod, Or.inr rfl⟩ ?_)
    by_cases h1 : I 182 14 ≤ x
    · rw [if_pos h1, if_pos (show (jS L I G t).2.2.2.1 182 14 ≤ x from h1)]
      repeat (first | refine jE_step rfl trivial ?_ | refine jE_step rfl rfl ?_)
      exact jE_ret rfl (Or.inl rfl)
    · rw [if_neg h1, if_neg (show ¬ (jS L I G t).2.2.2.1 182 14 ≤ x from h1)]
      repeat (first | refine jE_step rfl trivial ?_ | refine jE_step rfl rfl ?_ | refine jE_step rfl lo_mod ?_ | refine jE_step rfl ⟨lo_mod, Or.inl rfl⟩ ?_ | refine jE_step rfl ⟨lo_mod, Or.inr rfl⟩ ?_)
      by_cases h2 : x < I 182 14 - 16
      · rw [if_pos h2, if_pos (show x < (jS L I G t).2.2.2.1 182 14 - 16 from h2)]
        repeat (first | refine jE_step rfl trivial ?_ | refine jE_step rfl rfl ?_)
        exact jE_ret rfl (Or.inl rfl)
      · rw [if_neg h2, if_neg (show ¬ x < (jS L I G t).2.2.2.1 182 14 - 16 from h2)]
        repeat (first | refine jE_step rfl trivial ?_ | refine jE_step rfl rfl ?_)
        exact jE_ret rfl (Or.inr rfl)
def mParts (I : jHp) (c : Nat) : Int32 := if I 196 c = 0 then 1 else (I 196 c + 2) / 3
theorem mT_parts {c : Nat} (hc : c < 2 ^ 30) : jm_E (d, 41, 0, jm_en 41 [.ref 182, .int (nI c)], [], false, jS L I G t) (.inl (some (.int (mParts I (c % 16)))), jS L I G t, false) := by
  have hm : c % 16 < 16 := Nat.mod_lt _ (by decide)
  unfold mParts
  repeat (first | refine jE_step rfl trivial ?_ | refine jE_step rfl rfl ?_ | refine jE_step rfl lo_mod ?_ | refine jE_step rfl ⟨lo_mod, Or.inl rfl⟩ ?_ | refine jE_step rfl ⟨lo_mod, Or.inr rfl⟩ ?_ | refine jE_step rfl (show ¬ (16 : Int32) = 0 by decide) ?_)
  simp (disch := omega) only [jS, jm_sI, jm_aft, jm_en, jI, nc8, up_s, up_k, up_i, k8, k9, k32, k3, r16, nI_add, rm2, rm3, rm4, rm5, rm6, rm7, rm8, rm9, rm10, rm11, rm12, rm13, rm15, rm16, rm17, rm18, rm19, rm21, rm22, rm23, rm24, rm25, rm26, rm27, rm28, rm29]
  repeat (first | refine jE_step rfl trivial ?_ | refine jE_step rfl rfl ?_ | refine jE_step rfl (mx16  hm) ?_ | refine jE_step rfl (mw16  hm) ?_)
  simp (disch := omega) only [jS, jm_sI, jm_aft, jm_en, jI, nc8, up_s, up_k, up_i, k8, k9, k32, k3, r16, nI_add, rm2, rm3, rm4, rm5, rm6, rm7, rm8, rm9, rm10, rm11, rm12, rm13, rm15, rm16, rm17, rm18, rm19, rm21, rm22, rm23, rm24, rm25, rm26, rm27, rm28, rm29]
  split
  · repeat (first | refine jE_step rfl trivial ?_ | refine jE_step rfl rfl ?_)
    exact jE_ret rfl trivial
  · repeat (first | refine jE_step rfl trivial ?_ | refine jE_step rfl rfl ?_ | refine jE_step rfl (show ¬ (3 : Int32) = 0 by decide) ?_)
    exact jE_ret rfl trivial
theorem mT_isPartX {x p : Int32} (h : mIsCast I x = 0) : jm_E (d + 1, 42, 0, jm_en 42 [.ref 182, .int x, .int p], [], false, jS L I G t) (.inl (some (.int 0)), jS L I G t, false) := by
  repeat (first | refine jE_step rfl trivial ?_ | refine jE_step rfl rfl ?_)
  refine jE_call rfl ⟨Nat.le_of_ble_eq_true rfl, lo_mod⟩ mT_isCast ?_
  rw [h]
  repeat (first | refine jE_step rfl trivial ?_ | refine jE_step rfl rfl ?_)
  exact jE_ret rfl (Or.inl rfl)
def mIsPart (I : jHp) (c : Nat) (p : Int32) : Int32 := if p < 0 then 0 else if mParts I (c % 16) ≤ p then 0 else 1
theorem mT_isPart {c : Nat} {p : Int32} (hc : c < 2 ^ 30) (h : ¬ mIsCast I (nI c) = 0) : jm_E (d + 1, 42, 0, jm_en 42 [.ref 182, .int (nI c), .int p], [], false, jS L I G t) (.inl (some (.int (mIsPart I c p))), jS L I G t, false) := by
  unfold mIsPart
  repeat (first | refine jE_step rfl trivial ?_ | refine jE_step rfl rfl ?_)
  refine jE_call rfl ⟨Nat.le_of_ble_eq_true rfl, lo_mod⟩ mT_isCast ?_
  repeat (first | refine jE_step rfl trivial ?_ | refine jE_step rfl rfl ?_)
  rw [if_neg h]
  repeat (first | refine jE_step rfl trivial ?_ | refine jE_step rfl rfl ?_)
  by_cases h0 : p < 0
  · rw [if_pos h0, if_pos h0]
    repeat (first | refine jE_step rfl trivial ?_ | refine jE_step rfl rfl ?_)
    exact jE_ret rfl (Or.inl rfl)
  · rw [if_neg h0, if_neg h0]
    repeat (first | refine jE_step rfl trivial ?_ | refine jE_step rfl rfl ?_)
    refine jE_call rfl ⟨Nat.le_of_ble_eq_true rfl, lo_mod⟩ (mT_parts hc) ?_
    generalize mParts I (c % 16) = y
    repeat (first | refine jE_step rfl trivial ?_ | refine jE_step rfl rfl ?_)
    split
    · repeat (first | refine jE_step rfl trivial ?_ | refine jE_step rfl rfl ?_)
      exact jE_ret rfl (Or.inl rfl)
    · repeat (first | refine jE_step rfl trivial ?_ | refine jE_step rfl rfl ?_)
      exact jE_ret rfl (Or.inr rfl)
theorem mC_partsX {x : Int32} (h : mIsCast I x = 0) : jm_F (d + 1, 43, 0, jm_en 43 [.ref 182, .int x], [], false, jS L I G t) (.inl (some (.int 0))) (jS L (jm_up I 182 0 1) G t) := by
  repeat (first | refine jF_step rfl trivial ?_ | refine jF_step rfl rfl ?_)
  refine jF_callE rfl ⟨Nat.le_of_ble_eq_true rfl, lo_mod⟩ mT_isCast ?_
  rw [h]
  repeat (first | refine jF_step rfl trivial ?_ | refine jF_step rfl rfl ?_ | refine jF_step rfl lo_mod ?_ | refine jF_step rfl ⟨lo_mod, Or.inl rfl⟩ ?_ | refine jF_step rfl ⟨lo_mod, Or.inr rfl⟩ ?_ | simp (disch := omega) only [jS, jm_sI, jm_aft, jm_en, jI, nc8, up_s, up_k, up_i, k8, k9, k32, k3, r16, nI_add, rm2, rm3, rm4, rm5, rm6, rm7, rm8, rm9, rm10, rm11, rm12, rm13, rm15, rm16, rm17, rm18, rm19, rm21, rm22, rm23, rm24, rm25, rm26, rm27, rm28, rm29])
  exact jF_ret rfl trivial
theorem mC_parts {c : Nat} (hc : c < 2 ^ 30) (h : ¬ mIsCast I (nI c) = 0) : jm_F (d + 1, 43, 0, jm_en 43 [.ref 182, .int (nI c)], [], false, jS L I G t) (.inl (some (.int (mParts I (c % 16))))) (jS L (jm_up I 182 0 0) G t) := by
  repeat (first | refine jF_step rfl trivial ?_ | refine jF_step rfl rfl ?_)
  refine jF_callE rfl ⟨Nat.le_of_ble_eq_true rfl, lo_mod⟩ mT_isCast ?_
  repeat (first | refine jF_step rfl trivial ?_ | refine jF_step rfl rfl ?_)
  rw [if_neg h]
  repeat (first | refine jF_step rfl trivial ?_ | refine jF_step rfl rfl ?_ | refine jF_step rfl lo_mod ?_ | refine jF_step rfl ⟨lo_mod, Or.inl rfl⟩ ?_ | refine jF_step rfl ⟨lo_mod, Or.inr rfl⟩ ?_ | simp (disch := omega) only [jS, jm_sI, jm_aft, jm_en, jI, nc8, up_s, up_k, up_i, k8, k9, k32, k3, r16, nI_add, rm2, rm3, rm4, rm5, rm6, rm7, rm8, rm9, rm10, rm11, rm12, rm13, rm15, rm16, rm17, rm18, rm19, rm21, rm22, rm23, rm24, rm25, rm26, rm27, rm28, rm29])
  have e : mParts (jm_up I 182 0 0) (c % 16) = mParts I (c % 16) := by
    unfold mParts; rw [up_k (by omega)]
  rw [← e]
  refine jF_callE rfl ⟨Nat.le_of_ble_eq_true rfl, lo_mod⟩ (mT_parts hc) ?_
  exact jF_ret rfl trivial
def mRoute (I : jHp) (k w : Nat) : Int32 := match w with
  | 0 => I 188 k
  | 1 => I 187 k
  | 2 => I 186 k
  | 3 => I 190 k
  | 4 => I 189 k
  | 5 => I 194 k
  | _ => if I 192 k = 0 then 0 else 1
theorem mC_route {i g k : Nat} (hi : i < 8) (hg : g < 8) (hk : k < 7) : jm_F (d + 1, 49, 0, jm_en 49 [.ref 182, .int (nI i), .int (nI g), .int (nI k)], [], false, jS L I G t) (.inl (some (.int (mRoute I (8 * i + g) k)))) (jS L (jm_up I 182 0 0) G t) := by
  have h64 : 8 * i + g < 64 := by omega
  repeat (first | refine jF_step rfl trivial ?_ | refine jF_step rfl rfl ?_)
  refine jF_callE rfl ⟨Nat.le_of_ble_eq_true rfl, Nat.le_of_ble_eq_true rfl⟩ (mT_boat hi) ?_
  repeat (first | refine jF_step rfl trivial ?_ | refine jF_step rfl rfl ?_)
  refine jF_callE rfl ⟨Nat.le_of_ble_eq_true rfl, Nat.le_of_ble_eq_true rfl⟩ (mT_boat hg) ?_
  repeat (first | refine jF_step rfl trivial ?_ | refine jF_step rfl rfl ?_)
  rw [if_neg (nin0 (by omega))]
  repeat (first | refine jF_step rfl trivial ?_ | refine jF_step rfl rfl ?_)
  rw [if_neg (show ¬ (6 : Int32) < nI k from fun z => absurd (nI_le (b := 6) (a := k) (by omega) (by decide)) (Int32.not_le.mpr z))]
  repeat (first | refine jF_step rfl trivial ?_ | refine jF_step rfl rfl ?_ | refine jF_step rfl lo_mod ?_ | refine jF_step rfl ⟨lo_mod, Or.inl rfl⟩ ?_ | refine jF_step rfl ⟨lo_mod, Or.inr rfl⟩ ?_ | simp (disch := omega) only [jS, jm_sI, jm_aft, jm_en, jI, nc8, up_s, up_k, up_i, k8, k9, k32, k3, r16, nI_add, rm2, rm3, rm4, rm5, rm6, rm7, rm8, rm9, rm10, rm11, rm12, rm13, rm15, rm16, rm17, rm18, rm19, rm21, rm22, rm23, rm24, rm25, rm26, rm27, rm28, rm29])
  match k, hk with
  | 0, _ =>
    repeat (first | refine jF_step rfl trivial ?_ | refine jF_step rfl rfl ?_ | refine jF_step rfl lo_mod ?_ | refine jF_step rfl ⟨lo_mod, Or.inl rfl⟩ ?_ | refine jF_step rfl ⟨lo_mod, Or.inr rfl⟩ ?_ | refine jF_step rfl (mx5  h64) ?_ | refine jF_step rfl (mw5  h64) ?_ | refine jF_step rfl (mx6  h64) ?_ | refine jF_step rfl (mw6  h64) ?_ | refine jF_step rfl (mx7  h64) ?_ | refine jF_step rfl (mw7  h64) ?_ | refine jF_step rfl (mx8  h64) ?_ | refine jF_step rfl (mw8  h64) ?_ | refine jF_step rfl (mx9  h64) ?_ | refine jF_step rfl (mw9  h64) ?_ | refine jF_step rfl (mw11  h64) ?_ | refine jF_step rfl ⟨mw11  h64, Or.inl rfl⟩ ?_ | refine jF_step rfl ⟨mw11  h64, Or.inr rfl⟩ ?_ | refine jF_step rfl (mx13  h64) ?_ | refine jF_step rfl (mw13  h64) ?_ | simp (disch := omega) only [jS, jm_sI, jm_aft, jm_en, jI, nc8, up_s, up_k, up_i, k8, k9, k32, k3, r16, nI_add, rm2, rm3, rm4, rm5, rm6, rm7, rm8, rm9, rm10, rm11, rm12, rm13, rm15, rm16, rm17, rm18, rm19, rm21, rm22, rm23, rm24, rm25, rm26, rm27, rm28, rm29])
    exact jF_ret rfl trivial
  | 1, _ =>
    repeat (first | refine jF_step rfl trivial ?_ | refine jF_step rfl rfl ?_ | refine jF_step rfl lo_mod ?_ | refine jF_step rfl ⟨lo_mod, Or.inl rfl⟩ ?_ | refine jF_step rfl ⟨lo_mod, Or.inr rfl⟩ ?_ | refine jF_step rfl (mx5  h64) ?_ | refine jF_step rfl (mw5  h64) ?_ | refine jF_step rfl (mx6  h64) ?_ | refine jF_step rfl (mw6  h64) ?_ | refine jF_step rfl (mx7  h64) ?_ | refine jF_step rfl (mw7  h64) ?_ | refine jF_step rfl (mx8  h64) ?_ | refine jF_step rfl (mw8  h64) ?_ | refine jF_step rfl (mx9  h64) ?_ | refine jF_step rfl (mw9  h64) ?_ | refine jF_step rfl (mw11  h64) ?_ | refine jF_step rfl ⟨mw11  h64, Or.inl rfl⟩ ?_ | refine jF_step rfl ⟨mw11  h64, Or.inr rfl⟩ ?_ | refine jF_step rfl (mx13  h64) ?_ | refine jF_step rfl (mw13  h64) ?_ | simp (disch := omega) only [jS, jm_sI, jm_aft, jm_en, jI, nc8, up_s, up_k, up_i, k8, k9, k32, k3, r16, nI_add, rm2, rm3, rm4, rm5, rm6, rm7, rm8, rm9, rm10, rm11, rm12, rm13, rm15, rm16, rm17, rm18, rm19, rm21, rm22, rm23, rm24, rm25, rm26, rm27, rm28, rm29])
    exact jF_ret rfl trivial
  | 2, _ =>
    repeat (first | refine jF_step rfl trivial ?_ | refine jF_step rfl rfl ?_ | refine jF_step rfl lo_mod ?_ | refine jF_step rfl ⟨lo_mod, Or.inl rfl⟩ ?_ | refine jF_step rfl ⟨lo_mod, Or.inr rfl⟩ ?_ | refine jF_step rfl (mx5  h64) ?_ | refine jF_step rfl (mw5  h64) ?_ | refine jF_step rfl (mx6  h64) ?_ | refine jF_step rfl (mw6  h64) ?_ | refine jF_step rfl (mx7  h64) ?_ | refine jF_step rfl (mw7  h64) ?_ | refine jF_step rfl (mx8  h64) ?_ | refine jF_step rfl (mw8  h64) ?_ | refine jF_step rfl (mx9  h64) ?_ | refine jF_step rfl (mw9  h64) ?_ | refine jF_step rfl (mw11  h64) ?_ | refine jF_step rfl ⟨mw11  h64, Or.inl rfl⟩ ?_ | refine jF_step rfl ⟨mw11  h64, Or.inr rfl⟩ ?_ | refine jF_step rfl (mx13  h64) ?_ | refine jF_step rfl (mw13  h64) ?_ | simp (disch := omega) only [jS, jm_sI, jm_aft, jm_en, jI, nc8, up_s, up_k, up_i, k8, k9, k32, k3, r16, nI_add, rm2, rm3, rm4, rm5, rm6, rm7, rm8, rm9, rm10, rm11, rm12, rm13, rm15, rm16, rm17, rm18, rm19, rm21, rm22, rm23, rm24, rm25, rm26, rm27, rm28, rm29])
    exact jF_ret rfl trivial
  | 3, _ =>
    repeat (first | refine jF_step rfl trivial ?_ | refine jF_step rfl rfl ?_ | refine jF_step rfl lo_mod ?_ | refine jF_step rfl ⟨lo_mod, Or.inl rfl⟩ ?_ | refine jF_step rfl ⟨lo_mod, Or.inr rfl⟩ ?_ | refine jF_step rfl (mx5  h64) ?_ | refine jF_step rfl (mw5  h64) ?_ | refine jF_step rfl (mx6  h64) ?_ | refine jF_step rfl (mw6  h64) ?_ | refine jF_step rfl (mx7  h64) ?_ | refine jF_step rfl (mw7  h64) ?_ | refine jF_step rfl (mx8  h64) ?_ | refine jF_step rfl (mw8  h64) ?_ | refine jF_step rfl (mx9  h64) ?_ | refine jF_step rfl (mw9  h64) ?_ | refine jF_step rfl (mw11  h64) ?_ | refine jF_step rfl ⟨mw11  h64, Or.inl rfl⟩ ?_ | refine jF_step rfl ⟨mw11  h64, Or.inr rfl⟩ ?_ | refine jF_step rfl (mx13  h64) ?_ | refine jF_step rfl (mw13  h64) ?_ | simp (disch := omega) only [jS, jm_sI, jm_aft, jm_en, jI, nc8, up_s, up_k, up_i, k8, k9, k32, k3, r16, nI_add, rm2, rm3, rm4, rm5, rm6, rm7, rm8, rm9, rm10, rm11, rm12, rm13, rm15, rm16, rm17, rm18, rm19, rm21, rm22, rm23, rm24, rm25, rm26, rm27, rm28, rm29])
    exact jF_ret rfl trivial
  | 4, _ =>
    repeat (first | refine jF_step rfl trivial ?_ | refine jF_step rfl rfl ?_ | refine jF_step rfl lo_mod ?_ | refine jF_step rfl ⟨lo_mod, Or.inl rfl⟩ ?_ | refine jF_step rfl ⟨lo_mod, Or.inr rfl⟩ ?_ | refine jF_step rfl (mx5  h64) ?_ | refine jF_step rfl (mw5  h64) ?_ | refine jF_step rfl (mx6  h64) ?_ | refine jF_step rfl (mw6  h64) ?_ | refine jF_step rfl (mx7  h64) ?_ | refine jF_step rfl (mw7  h64) ?_ | refine jF_step rfl (mx8  h64) ?_ | refine jF_step rfl (mw8  h64) ?_ | refine jF_step rfl (mx9  h64) ?_ | refine jF_step rfl (mw9  h64) ?_ | refine jF_step rfl (mw11  h64) ?_ | refine jF_step rfl ⟨mw11  h64, Or.inl rfl⟩ ?_ | refine jF_step rfl ⟨mw11  h64, Or.inr rfl⟩ ?_ | refine jF_step rfl (mx13  h64) ?_ | refine jF_step rfl (mw13  h64) ?_ | simp (disch := omega) only [jS, jm_sI, jm_aft, jm_en, jI, nc8, up_s, up_k, up_i, k8, k9, k32, k3, r16, nI_add, rm2, rm3, rm4, rm5, rm6, rm7, rm8, rm9, rm10, rm11, rm12, rm13, rm15, rm16, rm17, rm18, rm19, rm21, rm22, rm23, rm24, rm25, rm26, rm27, rm28, rm29])
    exact jF_ret rfl trivial
  | 5, _ =>
    repeat (first | refine jF_step rfl trivial ?_ | refine jF_step rfl rfl ?_ | refine jF_step rfl lo_mod ?_ | refine jF_step rfl ⟨lo_mod, Or.inl rfl⟩ ?_ | refine jF_step rfl ⟨lo_mod, Or.inr rfl⟩ ?_ | refine jF_step rfl (mx5  h64) ?_ | refine jF_step rfl (mw5  h64) ?_ | refine jF_step rfl (mx6  h64) ?_ | refine jF_step rfl (mw6  h64) ?_ | refine jF_step rfl (mx7  h64) ?_ | refine jF_step rfl (mw7  h64) ?_ | refine jF_step rfl (mx8  h64) ?_ | refine jF_step rfl (mw8  h64) ?_ | refine jF_step rfl (mx9  h64) ?_ | refine jF_step rfl (mw9  h64) ?_ | refine jF_step rfl (mw11  h64) ?_ | refine jF_step rfl ⟨mw11  h64, Or.inl rfl⟩ ?_ | refine jF_step rfl ⟨mw11  h64, Or.inr rfl⟩ ?_ | refine jF_step rfl (mx13  h64) ?_ | refine jF_step rfl (mw13  h64) ?_ | simp (disch := omega) only [jS, jm_sI, jm_aft, jm_en, jI, nc8, up_s, up_k, up_i, k8, k9, k32, k3, r16, nI_add, rm2, rm3, rm4, rm5, rm6, rm7, rm8, rm9, rm10, rm11, rm12, rm13, rm15, rm16, rm17, rm18, rm19, rm21, rm22, rm23, rm24, rm25, rm26, rm27, rm28, rm29])
    exact jF_ret rfl trivial
  | 6, _ =>
    repeat (first | refine jF_step rfl trivial ?_ | refine jF_step rfl rfl ?_ | refine jF_step rfl lo_mod ?_ | refine jF_step rfl ⟨lo_mod, Or.inl rfl⟩ ?_ | refine jF_step rfl ⟨lo_mod, Or.inr rfl⟩ ?_ | refine jF_step rfl (mx5  h64) ?_ | refine jF_step rfl (mw5  h64) ?_ | refine jF_step rfl (mx6  h64) ?_ | refine jF_step rfl (mw6  h64) ?_ | refine jF_step rfl (mx7  h64) ?_ | refine jF_step rfl (mw7  h64) ?_ | refine jF_step rfl (mx8  h64) ?_ | refine jF_step rfl (mw8  h64) ?_ | refine jF_step rfl (mx9  h64) ?_ | refine jF_step rfl (mw9  h64) ?_ | refine jF_step rfl (mw11  h64) ?_ | refine jF_step rfl ⟨mw11  h64, Or.inl rfl⟩ ?_ | refine jF_step rfl ⟨mw11  h64, Or.inr rfl⟩ ?_ | refine jF_step rfl (mx13  h64) ?_ | refine jF_step rfl (mw13  h64) ?_ | simp (disch := omega) only [jS, jm_sI, jm_aft, jm_en, jI, nc8, up_s, up_k, up_i, k8, k9, k32, k3, r16, nI_add, rm2, rm3, rm4, rm5, rm6, rm7, rm8, rm9, rm10, rm11, rm12, rm13, rm15, rm16, rm17, rm18, rm19, rm21, rm22, rm23, rm24, rm25, rm26, rm27, rm28, rm29])
    show jm_F _ (.inl (some (.int (if I 192 (8 * i + g) = 0 then 0 else 1)))) _
    split
    · repeat (first | refine jF_step rfl trivial ?_ | refine jF_step rfl rfl ?_)
      exact jF_ret rfl trivial
    · repeat (first | refine jF_step rfl trivial ?_ | refine jF_step rfl rfl ?_)
      exact jF_ret rfl trivial
theorem mC_routeX {x y z : Int32} (h : (x < 0 ∨ ¬ x < 8) ∨ (y < 0 ∨ ¬ y < 8) ∨ z < 0 ∨ 6 < z) : jm_F (d + 1, 49, 0, jm_en 49 [.ref 182, .int x, .int y, .int z], [], false, jS L I G t) (.inl (some (.int 0))) (jS L (jm_up I 182 0 1) G t) := by
  repeat (first | refine jF_step rfl trivial ?_ | refine jF_step rfl rfl ?_)
  by_cases hx : x < 0 ∨ ¬ x < 8
  · refine jF_callE rfl ⟨Nat.le_of_ble_eq_true rfl, Nat.le_of_ble_eq_true rfl⟩ (mT_boatX hx) ?_
    repeat (first | refine jF_step rfl trivial ?_ | refine jF_step rfl rfl ?_ | refine jF_step rfl lo_mod ?_ | refine jF_step rfl ⟨lo_mod, Or.inl rfl⟩ ?_ | refine jF_step rfl ⟨lo_mod, Or.inr rfl⟩ ?_ | simp (disch := omega) only [jS, jm_sI, jm_aft, jm_en, jI, nc8, up_s, up_k, up_i, k8, k9, k32, k3, r16, nI_add, rm2, rm3, rm4, rm5, rm6, rm7, rm8, rm9, rm10, rm11, rm12, rm13, rm15, rm16, rm17, rm18, rm19, rm21, rm22, rm23, rm24, rm25, rm26, rm27, rm28, rm29])
    exact jF_ret rfl trivial
  · obtain ⟨i, hi, rfl⟩ := nb_of hx
    refine jF_callE rfl ⟨Nat.le_of_ble_eq_true rfl, Nat.le_of_ble_eq_true rfl⟩ (mT_boat hi) ?_
    repeat (first | refine jF_step rfl trivial ?_ | refine jF_step rfl rfl ?_)
    by_cases hy : y < 0 ∨ ¬ y < 8
    · refine jF_callE rfl ⟨Nat.le_of_ble_eq_true rfl, Nat.le_of_ble_eq_true rfl⟩ (mT_boatX hy) ?_
      repeat (first | refine jF_step rfl trivial ?_ | refine jF_step rfl rfl ?_ | refine jF_step rfl lo_mod ?_ | refine jF_step rfl ⟨lo_mod, Or.inl rfl⟩ ?_ | refine jF_step rfl ⟨lo_mod, Or.inr rfl⟩ ?_ | simp (disch := omega) only [jS, jm_sI, jm_aft, jm_en, jI, nc8, up_s, up_k, up_i, k8, k9, k32, k3, r16, nI_add, rm2, rm3, rm4, rm5, rm6, rm7, rm8, rm9, rm10, rm11, rm12, rm13, rm15, rm16, rm17, rm18, rm19, rm21, rm22, rm23, rm24, rm25, rm26, rm27, rm28, rm29])
      exact jF_ret rfl trivial
    · obtain ⟨j, hj, rfl⟩ := nb_of hy
      refine jF_callE rfl ⟨Nat.le_of_ble_eq_true rfl, Nat.le_of_ble_eq_true rfl⟩ (mT_boat hj) ?_
      have hz := h.elim (fun z => absurd z hx) (fun z => z.elim (fun z => absurd z hy) id)
      repeat (first | refine jF_step rfl trivial ?_ | refine jF_step rfl rfl ?_)
      by_cases h0 : z < 0
      · rw [if_pos h0]
        repeat (first | refine jF_step rfl trivial ?_ | refine jF_step rfl rfl ?_ | refine jF_step rfl lo_mod ?_ | refine jF_step rfl ⟨lo_mod, Or.inl rfl⟩ ?_ | refine jF_step rfl ⟨lo_mod, Or.inr rfl⟩ ?_ | simp (disch := omega) only [jS, jm_sI, jm_aft, jm_en, jI, nc8, up_s, up_k, up_i, k8, k9, k32, k3, r16, nI_add, rm2, rm3, rm4, rm5, rm6, rm7, rm8, rm9, rm10, rm11, rm12, rm13, rm15, rm16, rm17, rm18, rm19, rm21, rm22, rm23, rm24, rm25, rm26, rm27, rm28, rm29])
        exact jF_ret rfl trivial
      · rw [if_neg h0]
        repeat (first | refine jF_step rfl trivial ?_ | refine jF_step rfl rfl ?_)
        rw [if_pos (hz.elim (fun z => absurd z h0) id)]
        repeat (first | refine jF_step rfl trivial ?_ | refine jF_step rfl rfl ?_ | refine jF_step rfl lo_mod ?_ | refine jF_step rfl ⟨lo_mod, Or.inl rfl⟩ ?_ | refine jF_step rfl ⟨lo_mod, Or.inr rfl⟩ ?_ | simp (disch := omega) only [jS, jm_sI, jm_aft, jm_en, jI, nc8, up_s, up_k, up_i, k8, k9, k32, k3, r16, nI_add, rm2, rm3, rm4, rm5, rm6, rm7, rm8, rm9, rm10, rm11, rm12, rm13, rm15, rm16, rm17, rm18, rm19, rm21, rm22, rm23, rm24, rm25, rm26, rm27, rm28, rm29])
        exact jF_ret rfl trivial
def mTwo (I : jHp) (i j : Nat) : Int32 := if I 185 (8 * i + j) < 0 then 0 else if I 185 (8 * j + i) < 0 then 0 else 1
theorem mC_two {i j : Nat} (hi : i < 8) (hj : j < 8) : jm_F (d + 1, 50, 0, jm_en 50 [.ref 182, .int (nI i), .int (nI j)], [], false, jS L I G t) (.inl (some (.int (mTwo I i j)))) (jS L (jm_up I 182 0 0) G t) := by
  have h1 : 8 * i + j < 64 := by omega
  have h2 : 8 * j + i < 64 := by omega
  unfold mTwo
  repeat (first | refine jF_step rfl trivial ?_ | refine jF_step rfl rfl ?_)
  refine jF_callE rfl ⟨Nat.le_of_ble_eq_true rfl, Nat.le_of_ble_eq_true rfl⟩ (mT_boat hi) ?_
  repeat (first | refine jF_step rfl trivial ?_ | refine jF_step rfl rfl ?_)
  refine jF_callE rfl ⟨Nat.le_of_ble_eq_true rfl, Nat.le_of_ble_eq_true rfl⟩ (mT_boat hj) ?_
  repeat (first | refine jF_step rfl trivial ?_ | refine jF_step rfl rfl ?_ | refine jF_step rfl lo_mod ?_ | refine jF_step rfl ⟨lo_mod, Or.inl rfl⟩ ?_ | refine jF_step rfl ⟨lo_mod, Or.inr rfl⟩ ?_ | refine jF_step rfl (mx4  h1) ?_ | refine jF_step rfl (mw4  h1) ?_ | simp (disch := omega) only [jS, jm_sI, jm_aft, jm_en, jI, nc8, up_s, up_k, up_i, k8, k9, k32, k3, r16, nI_add, rm2, rm3, rm4, rm5, rm6, rm7, rm8, rm9, rm10, rm11, rm12, rm13, rm15, rm16, rm17, rm18, rm19, rm21, rm22, rm23, rm24, rm25, rm26, rm27, rm28, rm29])
  split
  · repeat (first | refine jF_step rfl trivial ?_ | refine jF_step rfl rfl ?_)
    exact jF_ret rfl (Or.inl rfl)
  · repeat (first | refine jF_step rfl trivial ?_ | refine jF_step rfl rfl ?_ | refine jF_step rfl lo_mod ?_ | refine jF_step rfl ⟨lo_mod, Or.inl rfl⟩ ?_ | refine jF_step rfl ⟨lo_mod, Or.inr rfl⟩ ?_ | refine jF_step rfl (mx4  h2) ?_ | refine jF_step rfl (mw4  h2) ?_ | simp (disch := omega) only [jS, jm_sI, jm_aft, jm_en, jI, nc8, up_s, up_k, up_i, k8, k9, k32, k3, r16, nI_add, rm2, rm3, rm4, rm5, rm6, rm7, rm8, rm9, rm10, rm11, rm12, rm13, rm15, rm16, rm17, rm18, rm19, rm21, rm22, rm23, rm24, rm25, rm26, rm27, rm28, rm29])
    split
    · repeat (first | refine jF_step rfl trivial ?_ | refine jF_step rfl rfl ?_)
      exact jF_ret rfl (Or.inl rfl)
    · repeat (first | refine jF_step rfl trivial ?_ | refine jF_step rfl rfl ?_)
      exact jF_ret rfl (Or.inr rfl)
theorem mC_twoX {x y : Int32} (h : (x < 0 ∨ ¬ x < 8) ∨ (y < 0 ∨ ¬ y < 8)) : jm_F (d + 1, 50, 0, jm_en 50 [.ref 182, .int x, .int y], [], false, jS L I G t) (.inl (some (.int 0))) (jS L (jm_up I 182 0 1) G t) := by
  repeat (first | refine jF_step rfl trivial ?_ | refine jF_step rfl rfl ?_)
  by_cases hx : x < 0 ∨ ¬ x < 8
  · refine jF_callE rfl ⟨Nat.le_of_ble_eq_true rfl, Nat.le_of_ble_eq_true rfl⟩ (mT_boatX hx) ?_
    repeat (first | refine jF_step rfl trivial ?_ | refine jF_step rfl rfl ?_ | refine jF_step rfl lo_mod ?_ | refine jF_step rfl ⟨lo_mod, Or.inl rfl⟩ ?_ | refine jF_step rfl ⟨lo_mod, Or.inr rfl⟩ ?_ | simp (disch := omega) only [jS, jm_sI, jm_aft, jm_en, jI, nc8, up_s, up_k, up_i, k8, k9, k32, k3, r16, nI_add, rm2, rm3, rm4, rm5, rm6, rm7, rm8, rm9, rm10, rm11, rm12, rm13, rm15, rm16, rm17, rm18, rm19, rm21, rm22, rm23, rm24, rm25, rm26, rm27, rm28, rm29])
    exact jF_ret rfl (Or.inl rfl)
  · obtain ⟨i, hi, rfl⟩ := nb_of hx
    refine jF_callE rfl ⟨Nat.le_of_ble_eq_true rfl, Nat.le_of_ble_eq_true rfl⟩ (mT_boat hi) ?_
    repeat (first | refine jF_step rfl trivial ?_ | refine jF_step rfl rfl ?_)
    refine jF_callE rfl ⟨Nat.le_of_ble_eq_true rfl, Nat.le_of_ble_eq_true rfl⟩ (mT_boatX (h.elim (fun z => absurd z hx) id)) ?_
    repeat (first | refine jF_step rfl trivial ?_ | refine jF_step rfl rfl ?_ | refine jF_step rfl lo_mod ?_ | refine jF_step rfl ⟨lo_mod, Or.inl rfl⟩ ?_ | refine jF_step rfl ⟨lo_mod, Or.inr rfl⟩ ?_ | simp (disch := omega) only [jS, jm_sI, jm_aft, jm_en, jI, nc8, up_s, up_k, up_i, k8, k9, k32, k3, r16, nI_add, rm2, rm3, rm4, rm5, rm6, rm7, rm8, rm9, rm10, rm11, rm12, rm13, rm15, rm16, rm17, rm18, rm19, rm21, rm22, rm23, rm24, rm25, rm26, rm27, rm28, rm29])
    exact jF_ret rfl (Or.inl rfl)
/-- how many packets, of the first k, are at b (b < 0: anywhere) -/
def mCnt (I : jHp) (b : Int32) : Nat → Int32
  | 0 => 0
  | k + 1 => mCnt I b k + (if I 200 k < 0 then 0 else if b < 0 then 1 else if I 201 k = b then 1 else 0)
theorem mT_cnt0 {b : Int32} : ∀ n k, k + n = 16 → jm_E (d, 51, 4, [some (.ref 182), some (.int b), some (.int (mCnt I b k)), some (.int (nI k))], [], false, jS L I G t) (.inl (some (.int (mCnt I b 16))), jS L I G t, false) := by
  intro n
  induction n with
  | zero =>
    intro k hk
    have : k = 16 := by omega
    subst this
    repeat (first | refine jE_step rfl trivial ?_ | refine jE_step rfl rfl ?_)
    exact jE_ret rfl trivial
  | succ n ih =>
    intro k hk
    have hk16 : k < 16 := by omega
    have h := ih (k + 1) (by omega)
    generalize mCnt I b 16 = r at h ⊢
    rw [mCnt, ← nI_1] at h
    generalize mCnt I b k = y at h ⊢
    repeat (first | refine jE_step rfl trivial ?_ | refine jE_step rfl rfl ?_)
    rw [if_neg (n16 hk16)]
    repeat (first | refine jE_step rfl trivial ?_ | refine jE_step rfl rfl ?_ | refine jE_step rfl lo_mod ?_ | refine jE_step rfl ⟨lo_mod, Or.inl rfl⟩ ?_ | refine jE_step rfl ⟨lo_mod, Or.inr rfl⟩ ?_ | refine jE_step rfl (mx21  hk16) ?_ | refine jE_step rfl (mw21  hk16) ?_ | refine jE_step rfl (mx22  hk16) ?_ | refine jE_step rfl (mw22  hk16) ?_ | simp (disch := omega) only [jS, jm_sI, jm_aft, jm_en, jI, nc8, up_s, up_k, up_i, k8, k9, k32, k3, r16, nI_add, rm2, rm3, rm4, rm5, rm6, rm7, rm8, rm9, rm10, rm11, rm12, rm13, rm15, rm16, rm17, rm18, rm19, rm21, rm22, rm23, rm24, rm25, rm26, rm27, rm28, rm29])
    by_cases h1 : I 200 k < 0
    · rw [if_pos h1] at h ⊢
      repeat (first | exact h | refine jE_step rfl trivial ?_ | refine jE_step rfl rfl ?_)
    · rw [if_neg h1] at h ⊢
      repeat (first | refine jE_step rfl trivial ?_ | refine jE_step rfl rfl ?_)
      by_cases h2 : b < 0
      · rw [if_pos h2] at h ⊢
        repeat (first | exact h | refine jE_step rfl trivial ?_ | refine jE_step rfl rfl ?_)
      · rw [if_neg h2] at h ⊢
        repeat (first | refine jE_step rfl trivial ?_ | refine jE_step rfl rfl ?_ | refine jE_step rfl lo_mod ?_ | refine jE_step rfl ⟨lo_mod, Or.inl rfl⟩ ?_ | refine jE_step rfl ⟨lo_mod, Or.inr rfl⟩ ?_ | refine jE_step rfl (mx21  hk16) ?_ | refine jE_step rfl (mw21  hk16) ?_ | refine jE_step rfl (mx22  hk16) ?_ | refine jE_step rfl (mw22  hk16) ?_ | simp (disch := omega) only [jS, jm_sI, jm_aft, jm_en, jI, nc8, up_s, up_k, up_i, k8, k9, k32, k3, r16, nI_add, rm2, rm3, rm4, rm5, rm6, rm7, rm8, rm9, rm10, rm11, rm12, rm13, rm15, rm16, rm17, rm18, rm19, rm21, rm22, rm23, rm24, rm25, rm26, rm27, rm28, rm29])
        by_cases h3 : I 201 k = b
        · rw [if_pos h3] at h ⊢
          repeat (first | exact h | refine jE_step rfl trivial ?_ | refine jE_step rfl rfl ?_)
        · rw [if_neg h3] at h ⊢
          repeat (first | exact h | refine jE_step rfl trivial ?_ | refine jE_step rfl rfl ?_)
theorem mT_cnt {b : Int32} : jm_E (d, 51, 0, jm_en 51 [.ref 182, .int b], [], false, jS L I G t) (.inl (some (.int (mCnt I b 16))), jS L I G t, false) := by
  have h := mT_cnt0 (L := L) (t := t) (d := d) (I := I) (G := G) (b := b) 16 0 rfl
  repeat (first | exact h | refine jE_step rfl trivial ?_ | refine jE_step rfl rfl ?_)
theorem mCnt_up {b x : Int32} {r j : Nat} (h : r ≠ 200) (h1 : r ≠ 201) : ∀ k, mCnt (jm_up I r j x) b k = mCnt I b k := by
  intro k
  induction k with
  | zero => rfl
  | succ k ih => rw [mCnt, mCnt, ih, up_k (by omega), up_k (by omega)]
theorem mC_waiting {i : Nat} (hi : i < 8) : jm_F (d + 1, 55, 0, jm_en 55 [.ref 182, .int (nI i)], [], false, jS L I G t) (.inl (some (.int (mCnt I (nI i) 16)))) (jS L (jm_up I 182 0 0) G t) := by
  repeat (first | refine jF_step rfl trivial ?_ | refine jF_step rfl rfl ?_)
  refine jF_callE rfl ⟨Nat.le_of_ble_eq_true rfl, Nat.le_of_ble_eq_true rfl⟩ (mT_boat hi) ?_
  repeat (first | refine jF_step rfl trivial ?_ | refine jF_step rfl rfl ?_ | refine jF_step rfl lo_mod ?_ | refine jF_step rfl ⟨lo_mod, Or.inl rfl⟩ ?_ | refine jF_step rfl ⟨lo_mod, Or.inr rfl⟩ ?_ | simp (disch := omega) only [jS, jm_sI, jm_aft, jm_en, jI, nc8, up_s, up_k, up_i, k8, k9, k32, k3, r16, nI_add, rm2, rm3, rm4, rm5, rm6, rm7, rm8, rm9, rm10, rm11, rm12, rm13, rm15, rm16, rm17, rm18, rm19, rm21, rm22, rm23, rm24, rm25, rm26, rm27, rm28, rm29])
  rw [← mCnt_up (I := I) (b := nI i) (x := 0) (r := 182) (j := 0) (by omega) (by omega) 16]
  refine jF_callE rfl ⟨Nat.le_of_ble_eq_true rfl, lo_mod⟩ mT_cnt ?_
  exact jF_ret rfl trivial
theorem mC_waitingX {x : Int32} (h : x < 0 ∨ ¬ x < 8) : jm_F (d + 1, 55, 0, jm_en 55 [.ref 182, .int x], [], false, jS L I G t) (.inl (some (.int 0))) (jS L (jm_up I 182 0 1) G t) := by
  repeat (first | refine jF_step rfl trivial ?_ | refine jF_step rfl rfl ?_)
  refine jF_callE rfl ⟨Nat.le_of_ble_eq_true rfl, Nat.le_of_ble_eq_true rfl⟩ (mT_boatX h) ?_
  repeat (first | refine jF_step rfl trivial ?_ | refine jF_step rfl rfl ?_ | refine jF_step rfl lo_mod ?_ | refine jF_step rfl ⟨lo_mod, Or.inl rfl⟩ ?_ | refine jF_step rfl ⟨lo_mod, Or.inr rfl⟩ ?_ | simp (disch := omega) only [jS, jm_sI, jm_aft, jm_en, jI, nc8, up_s, up_k, up_i, k8, k9, k32, k3, r16, nI_add, rm2, rm3, rm4, rm5, rm6, rm7, rm8, rm9, rm10, rm11, rm12, rm13, rm15, rm16, rm17, rm18, rm19, rm21, rm22, rm23, rm24, rm25, rm26, rm27, rm28, rm29])
  exact jF_ret rfl trivial
theorem mC_gotX {x y : Int32} (h : x < 0 ∨ ¬ x < 8) : jm_F (d + 1, 56, 0, jm_en 56 [.ref 182, .int x, .int y], [], false, jS L I G t) (.inl (some (.int 0))) (jS L (jm_up I 182 0 1) G t) := by
  repeat (first | refine jF_step rfl trivial ?_ | refine jF_step rfl rfl ?_)
  refine jF_callE rfl ⟨Nat.le_of_ble_eq_true rfl, Nat.le_of_ble_eq_true rfl⟩ (mT_boatX h) ?_
  repeat (first | refine jF_step rfl trivial ?_ | refine jF_step rfl rfl ?_ | refine jF_step rfl lo_mod ?_ | refine jF_step rfl ⟨lo_mod, Or.inl rfl⟩ ?_ | refine jF_step rfl ⟨lo_mod, Or.inr rfl⟩ ?_ | simp (disch := omega) only [jS, jm_sI, jm_aft, jm_en, jI, nc8, up_s, up_k, up_i, k8, k9, k32, k3, r16, nI_add, rm2, rm3, rm4, rm5, rm6, rm7, rm8, rm9, rm10, rm11, rm12, rm13, rm15, rm16, rm17, rm18, rm19, rm21, rm22, rm23, rm24, rm25, rm26, rm27, rm28, rm29])
  exact jF_ret rfl trivial
theorem mC_gotY {i : Nat} {y : Int32} (hi : i < 8) (h : y < 0 ∨ ¬ y < I 206 i) : jm_F (d + 1, 56, 0, jm_en 56 [.ref 182, .int (nI i), .int y], [], false, jS L I G t) (.inl (some (.int 0))) (jS L (jm_up I 182 0 2) G t) := by
  repeat (first | refine jF_step rfl trivial ?_ | refine jF_step rfl rfl ?_)
  refine jF_callE rfl ⟨Nat.le_of_ble_eq_true rfl, Nat.le_of_ble_eq_true rfl⟩ (mT_boat hi) ?_
  repeat (first | refine jF_step rfl trivial ?_ | refine jF_step rfl rfl ?_)
  by_cases h0 : y < 0
  · rw [if_pos h0]
    repeat (first | refine jF_step rfl trivial ?_ | refine jF_step rfl rfl ?_ | refine jF_step rfl lo_mod ?_ | refine jF_step rfl ⟨lo_mod, Or.inl rfl⟩ ?_ | refine jF_step rfl ⟨lo_mod, Or.inr rfl⟩ ?_ | simp (disch := omega) only [jS, jm_sI, jm_aft, jm_en, jI, nc8, up_s, up_k, up_i, k8, k9, k32, k3, r16, nI_add, rm2, rm3, rm4, rm5, rm6, rm7, rm8, rm9, rm10, rm11, rm12, rm13, rm15, rm16, rm17, rm18, rm19, rm21, rm22, rm23, rm24, rm25, rm26, rm27, rm28, rm29])
    exact jF_ret rfl trivial
  · rw [if_neg h0]
    repeat (first | refine jF_step rfl trivial ?_ | refine jF_step rfl rfl ?_ | refine jF_step rfl lo_mod ?_ | refine jF_step rfl ⟨lo_mod, Or.inl rfl⟩ ?_ | refine jF_step rfl ⟨lo_mod, Or.inr rfl⟩ ?_ | refine jF_step rfl (mx27  hi) ?_ | refine jF_step rfl (mw27  hi) ?_ | simp (disch := omega) only [jS, jm_sI, jm_aft, jm_en, jI, nc8, up_s, up_k, up_i, k8, k9, k32, k3, r16, nI_add, rm2, rm3, rm4, rm5, rm6, rm7, rm8, rm9, rm10, rm11, rm12, rm13, rm15, rm16, rm17, rm18, rm19, rm21, rm22, rm23, rm24, rm25, rm26, rm27, rm28, rm29])
    rw [if_neg (h.elim (fun z => absurd z h0) id)]
    repeat (first | refine jF_step rfl trivial ?_ | refine jF_step rfl rfl ?_ | refine jF_step rfl lo_mod ?_ | refine jF_step rfl ⟨lo_mod, Or.inl rfl⟩ ?_ | refine jF_step rfl ⟨lo_mod, Or.inr rfl⟩ ?_ | simp (disch := omega) only [jS, jm_sI, jm_aft, jm_en, jI, nc8, up_s, up_k, up_i, k8, k9, k32, k3, r16, nI_add, rm2, rm3, rm4, rm5, rm6, rm7, rm8, rm9, rm10, rm11, rm12, rm13, rm15, rm16, rm17, rm18, rm19, rm21, rm22, rm23, rm24, rm25, rm26, rm27, rm28, rm29])
    exact jF_ret rfl trivial
theorem mC_got {i k : Nat} (hi : i < 8) (hk : k < 32) (h : nI k < I 206 i) : jm_F (d + 1, 56, 0, jm_en 56 [.ref 182, .int (nI i), .int (nI k)], [], false, jS L I G t) (.inl (some (.int (I 207 (32 * i + k))))) (jS L (jm_up I 182 0 0) G t) := by
  repeat (first | refine jF_step rfl trivial ?_ | refine jF_step rfl rfl ?_)
  refine jF_callE rfl ⟨Nat.le_of_ble_eq_true rfl, Nat.le_of_ble_eq_true rfl⟩ (mT_boat hi) ?_
  repeat (first | refine jF_step rfl trivial ?_ | refine jF_step rfl rfl ?_)
  rw [if_neg (nin0 (by omega))]
  repeat (first | refine jF_step rfl trivial ?_ | refine jF_step rfl rfl ?_ | refine jF_step rfl lo_mod ?_ | refine jF_step rfl ⟨lo_mod, Or.inl rfl⟩ ?_ | refine jF_step rfl ⟨lo_mod, Or.inr rfl⟩ ?_ | refine jF_step rfl (mx27  hi) ?_ | refine jF_step rfl (mw27  hi) ?_ | simp (disch := omega) only [jS, jm_sI, jm_aft, jm_en, jI, nc8, up_s, up_k, up_i, k8, k9, k32, k3, r16, nI_add, rm2, rm3, rm4, rm5, rm6, rm7, rm8, rm9, rm10, rm11, rm12, rm13, rm15, rm16, rm17, rm18, rm19, rm21, rm22, rm23, rm24, rm25, rm26, rm27, rm28, rm29])
  rw [if_pos h]
  repeat (first | refine jF_step rfl trivial ?_ | refine jF_step rfl rfl ?_ | refine jF_step rfl lo_mod ?_ | refine jF_step rfl ⟨lo_mod, Or.inl rfl⟩ ?_ | refine jF_step rfl ⟨lo_mod, Or.inr rfl⟩ ?_ | refine jF_step rfl (mx28  (show 32 * i + k < 256 by omega)) ?_ | refine jF_step rfl (mw28  (show 32 * i + k < 256 by omega)) ?_ | simp (disch := omega) only [jS, jm_sI, jm_aft, jm_en, jI, nc8, up_s, up_k, up_i, k8, k9, k32, k3, r16, nI_add, rm2, rm3, rm4, rm5, rm6, rm7, rm8, rm9, rm10, rm11, rm12, rm13, rm15, rm16, rm17, rm18, rm19, rm21, rm22, rm23, rm24, rm25, rm26, rm27, rm28, rm29])
  exact jF_ret rfl trivial
theorem mC_clock : jm_F (d, 59, 0, jm_en 59 [.ref 182], [], false, jS L I G t) (.inl (some (.int (I 182 1)))) (jS L (jm_up I 182 0 0) G t) := by
  repeat (first | refine jF_step rfl trivial ?_ | refine jF_step rfl rfl ?_ | refine jF_step rfl lo_mod ?_ | refine jF_step rfl ⟨lo_mod, Or.inl rfl⟩ ?_ | refine jF_step rfl ⟨lo_mod, Or.inr rfl⟩ ?_ | simp (disch := omega) only [jS, jm_sI, jm_aft, jm_en, jI, nc8, up_s, up_k, up_i, k8, k9, k32, k3, r16, nI_add, rm2, rm3, rm4, rm5, rm6, rm7, rm8, rm9, rm10, rm11, rm12, rm13, rm15, rm16, rm17, rm18, rm19, rm21, rm22, rm23, rm24, rm25, rm26, rm27, rm28, rm29])
  exact jF_ret rfl trivial
end
