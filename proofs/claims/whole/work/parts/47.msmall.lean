/-! runs of the small machine: the reference's small methods -/
section
variable {L t d : Nat} {I : jHp} {G : Nat → Nat → Int64}
theorem mT_thrown : jm_E (d, 33, 0, jm_en 33 [.ref 182], [], false, jS L I G t) (.inl (some (.int (I 182 0))), jS L I G t, false) := by
  repeat (first | refine jE_step rfl trivial ?_ | refine jE_step rfl rfl ?_ | refine jE_step rfl lo_mod ?_ | refine jE_step rfl ⟨lo_mod, Or.inl rfl⟩ ?_ | refine jE_step rfl ⟨lo_mod, Or.inr rfl⟩ ?_)
  exact jE_ret rfl trivial
theorem mT_boat {i : Nat} {σ : jm_S} (hi : i < 8) : jm_E (d, 34, 0, jm_en 34 [.int (nI i)], [], false, σ) (.inl (some (.int 1)), σ, false) := by
  repeat (first | refine jE_step rfl trivial ?_ | refine jE_step rfl rfl ?_)
  rw [if_neg (nin0 (by omega))]
  repeat (first | refine jE_step rfl trivial ?_ | refine jE_step rfl rfl ?_)
  rw [if_neg (n8 hi)]
  repeat (first | refine jE_step rfl trivial ?_ | refine jE_step rfl rfl ?_)
  exact jE_ret rfl (Or.inr rfl)
theorem mT_boatX {x : Int32} {σ : jm_S} (h : x < 0 ∨ ¬ x < 8) : jm_E (d, 34, 0, jm_en 34 [.int x], [], false, σ) (.inl (some (.int 0)), σ, false) := by
  repeat (first | refine jE_step rfl trivial ?_ | refine jE_step rfl rfl ?_)
  by_cases h0 : x < 0
  · rw [if_pos h0]
    repeat (first | refine jE_step rfl trivial ?_ | refine jE_step rfl rfl ?_)
    exact jE_ret rfl (Or.inl rfl)
  · rw [if_neg h0]
    repeat (first | refine jE_step rfl trivial ?_ | refine jE_step rfl rfl ?_)
    rw [if_pos (h.elim (fun z => absurd z h0) (fun z => Int32.not_lt.mp z))]
    repeat (first | refine jE_step rfl trivial ?_ | refine jE_step rfl rfl ?_)
    exact jE_ret rfl (Or.inl rfl)
theorem mT_on {i : Nat} (hi : i < 8) : jm_F (d + 1, 35, 0, jm_en 35 [.ref 182, .int (nI i)], [], false, jS L I G t) (.inl (some (.int (if I 183 i = 0 then 1 else 0)))) (jS L (jm_up (jm_up I 182 0 0) 183 i 1) G t) := by
  repeat (first | refine jF_step rfl trivial ?_ | refine jF_step rfl rfl ?_)
  refine jF_callE rfl ⟨Nat.le_of_ble_eq_true rfl, Nat.le_of_ble_eq_true rfl⟩ (mT_boat hi) ?_
  repeat (first | refine jF_step rfl trivial ?_ | refine jF_step rfl rfl ?_ | refine jF_step rfl lo_mod ?_ | refine jF_step rfl ⟨lo_mod, Or.inl rfl⟩ ?_ | refine jF_step rfl ⟨lo_mod, Or.inr rfl⟩ ?_ | refine jF_step rfl (mw2 hi) ?_ | refine jF_step rfl ⟨mw2 hi, Or.inr rfl⟩ ?_ | refine jF_step rfl ⟨⟨mw2 hi, Or.inr rfl⟩, Or.inl rfl⟩ ?_ | refine jF_step rfl ⟨⟨mw2 hi, Or.inr rfl⟩, Or.inr rfl⟩ ?_)
  simp (disch := omega) only [jS, jm_sI, jm_aft, jm_en, jI, nc8, up_s, up_k, up_i, k8, k9, k32, k3, r16, nI_add, rm2, rm3, rm4, rm5, rm6, rm7, rm8, rm9, rm10, rm11, rm12, rm13, rm15, rm16, rm17, rm18, rm19, rm21, rm22, rm23, rm24, rm25, rm26, rm27, rm28, rm29]
  split
  · repeat (first | refine jF_step rfl trivial ?_ | refine jF_step rfl rfl ?_)
    exact jF_ret rfl (Or.inr rfl)
  · repeat (first | refine jF_step rfl trivial ?_ | refine jF_step rfl rfl ?_)
    exact jF_ret rfl (Or.inl rfl)
theorem mT_onX {x : Int32} (h : x < 0 ∨ ¬ x < 8) : jm_F (d + 1, 35, 0, jm_en 35 [.ref 182, .int x], [], false, jS L I G t) (.inl (some (.int 0))) (jS L (jm_up I 182 0 1) G t) := by
  repeat (first | refine jF_step rfl trivial ?_ | refine jF_step rfl rfl ?_)
  refine jF_callE rfl ⟨Nat.le_of_ble_eq_true rfl, Nat.le_of_ble_eq_true rfl⟩ (mT_boatX h) ?_
  repeat (first | refine jF_step rfl trivial ?_ | refine jF_step rfl rfl ?_ | refine jF_step rfl lo_mod ?_ | refine jF_step rfl ⟨lo_mod, Or.inl rfl⟩ ?_ | refine jF_step rfl ⟨lo_mod, Or.inr rfl⟩ ?_)
  exact jF_ret rfl (Or.inl rfl)
theorem mT_off {i : Nat} (hi : i < 8) (hb : I 183 i = 0 ∨ I 183 i = 1) : jm_F (d + 1, 36, 0, jm_en 36 [.ref 182, .int (nI i)], [], false, jS L I G t) (.inl (some (.int (I 183 i)))) (jS L (jm_up (jm_up I 182 0 0) 183 i 0) G t) := by
  repeat (first | refine jF_step rfl trivial ?_ | refine jF_step rfl rfl ?_)
  refine jF_callE rfl ⟨Nat.le_of_ble_eq_true rfl, Nat.le_of_ble_eq_true rfl⟩ (mT_boat hi) ?_
  repeat (first | refine jF_step rfl trivial ?_ | refine jF_step rfl rfl ?_ | refine jF_step rfl lo_mod ?_ | refine jF_step rfl ⟨lo_mod, Or.inl rfl⟩ ?_ | refine jF_step rfl ⟨lo_mod, Or.inr rfl⟩ ?_ | refine jF_step rfl (mw2 hi) ?_ | refine jF_step rfl ⟨mw2 hi, Or.inl rfl⟩ ?_ | refine jF_step rfl ⟨⟨mw2 hi, Or.inl rfl⟩, Or.inl rfl⟩ ?_ | refine jF_step rfl ⟨⟨mw2 hi, Or.inl rfl⟩, Or.inr rfl⟩ ?_)
  simp (disch := omega) only [jS, jm_sI, jm_aft, jm_en, jI, nc8, up_s, up_k, up_i, k8, k9, k32, k3, r16, nI_add, rm2, rm3, rm4, rm5, rm6, rm7, rm8, rm9, rm10, rm11, rm12, rm13, rm15, rm16, rm17, rm18, rm19, rm21, rm22, rm23, rm24, rm25, rm26, rm27, rm28, rm29]
  exact jF_ret rfl hb
theorem mT_offX {x : Int32} (h : x < 0 ∨ ¬ x < 8) : jm_F (d + 1, 36, 0, jm_en 36 [.ref 182, .int x], [], false, jS L I G t) (.inl (some (.int 0))) (jS L (jm_up I 182 0 1) G t) := by
  repeat (first | refine jF_step rfl trivial ?_ | refine jF_step rfl rfl ?_)
  refine jF_callE rfl ⟨Nat.le_of_ble_eq_true rfl, Nat.le_of_ble_eq_true rfl⟩ (mT_boatX h) ?_
  repeat (first | refine jF_step rfl trivial ?_ | refine jF_step rfl rfl ?_ | refine jF_step rfl lo_mod ?_ | refine jF_step rfl ⟨lo_mod, Or.inl rfl⟩ ?_ | refine jF_step rfl ⟨lo_mod, Or.inr rfl⟩ ?_)
  exact jF_ret rfl (Or.inl rfl)
theorem mT_link {i j : Nat} {to : Int32} (hi : i < 8) (hj : j < 8) (hne : i ≠ j) (hto : to = 0 ∨ to = 1) : jm_F (d + 1, 37, 0, jm_en 37 [.ref 182, .int (nI i), .int (nI j), .int to], [], false, jS L I G t) (.inl (some (.int (if I 184 (8 * i + j) = to then 0 else 1)))) (jS L (jm_up (jm_up (jm_up I 182 0 0) 184 (8 * i + j) to) 184 (8 * j + i) to) G t) := by
  repeat (first | refine jF_step rfl trivial ?_ | refine jF_step rfl rfl ?_)
  refine jF_callE rfl ⟨Nat.le_of_ble_eq_true rfl, Nat.le_of_ble_eq_true rfl⟩ (mT_boat hi) ?_
  repeat (first | refine jF_step rfl trivial ?_ | refine jF_step rfl rfl ?_)
  refine jF_callE rfl ⟨Nat.le_of_ble_eq_true rfl, Nat.le_of_ble_eq_true rfl⟩ (mT_boat hj) ?_
  repeat (first | refine jF_step rfl trivial ?_ | refine jF_step rfl rfl ?_)
  rw [if_neg (fun z => hne ((nI_eq (by omega) (by omega)).mp z))]
  repeat (first | refine jF_step rfl trivial ?_ | refine jF_step rfl rfl ?_ | refine jF_step rfl lo_mod ?_ | refine jF_step rfl ⟨lo_mod, Or.inl rfl⟩ ?_ | refine jF_step rfl ⟨lo_mod, Or.inr rfl⟩ ?_)
  simp (disch := omega) only [jS, jm_sI, jm_aft, jm_en, jI, nc8, up_s, up_k, up_i, k8, k9, k32, k3, r16, nI_add, rm2, rm3, rm4, rm5, rm6, rm7, rm8, rm9, rm10, rm11, rm12, rm13, rm15, rm16, rm17, rm18, rm19, rm21, rm22, rm23, rm24, rm25, rm26, rm27, rm28, rm29]
  repeat (first | refine jF_step rfl trivial ?_ | refine jF_step rfl rfl ?_ | refine jF_step rfl (mw3 (show 8 * i + j < 64 by omega)) ?_ | refine jF_step rfl lo_mod ?_ | refine jF_step rfl ⟨lo_mod, Or.inl rfl⟩ ?_ | refine jF_step rfl ⟨lo_mod, Or.inr rfl⟩ ?_)
  simp (disch := omega) only [jS, jm_sI, jm_aft, jm_en, jI, nc8, up_s, up_k, up_i, k8, k9, k32, k3, r16, nI_add, rm2, rm3, rm4, rm5, rm6, rm7, rm8, rm9, rm10, rm11, rm12, rm13, rm15, rm16, rm17, rm18, rm19, rm21, rm22, rm23, rm24, rm25, rm26, rm27, rm28, rm29]
  repeat (first | refine jF_step rfl trivial ?_ | refine jF_step rfl rfl ?_ | refine jF_step rfl ⟨mv3 (show 8 * i + j < 64 by omega), hto⟩ ?_ | refine jF_step rfl ⟨⟨mv3 (show 8 * i + j < 64 by omega), hto⟩, Or.inl rfl⟩ ?_ | refine jF_step rfl ⟨⟨mv3 (show 8 * i + j < 64 by omega), hto⟩, Or.inr rfl⟩ ?_ | refine jF_step rfl lo_mod ?_ | refine jF_step rfl ⟨lo_mod, Or.inl rfl⟩ ?_ | refine jF_step rfl ⟨lo_mod, Or.inr rfl⟩ ?_)
  simp (disch := omega) only [jS, jm_sI, jm_aft, jm_en, jI, nc8, up_s, up_k, up_i, k8, k9, k32, k3, r16, nI_add, rm2, rm3, rm4, rm5, rm6, rm7, rm8, rm9, rm10, rm11, rm12, rm13, rm15, rm16, rm17, rm18, rm19, rm21, rm22, rm23, rm24, rm25, rm26, rm27, rm28, rm29]
  repeat (first | refine jF_step rfl trivial ?_ | refine jF_step rfl rfl ?_ | refine jF_step rfl ⟨mw3 (show 8 * j + i < 64 by omega), hto⟩ ?_ | refine jF_step rfl ⟨⟨mw3 (show 8 * j + i < 64 by omega), hto⟩, Or.inl rfl⟩ ?_ | refine jF_step rfl ⟨⟨mw3 (show 8 * j + i < 64 by omega), hto⟩, Or.inr rfl⟩ ?_ | refine jF_step rfl lo_mod ?_ | refine jF_step rfl ⟨lo_mod, Or.inl rfl⟩ ?_ | refine jF_step rfl ⟨lo_mod, Or.inr rfl⟩ ?_)
  simp (disch := omega) only [jS, jm_sI, jm_aft, jm_en, jI, nc8, up_s, up_k, up_i, k8, k9, k32, k3, r16, nI_add, rm2, rm3, rm4, rm5, rm6, rm7, rm8, rm9, rm10, rm11, rm12, rm13, rm15, rm16, rm17, rm18, rm19, rm21, rm22, rm23, rm24, rm25, rm26, rm27, rm28, rm29]
  split
  · repeat (first | refine jF_step rfl trivial ?_ | refine jF_step rfl rfl ?_)
    exact jF_ret rfl (Or.inl rfl)
  · repeat (first | refine jF_step rfl trivial ?_ | refine jF_step rfl rfl ?_)
    exact jF_ret rfl (Or.inr rfl)
end
