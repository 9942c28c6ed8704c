/-! runs of the small machine: the net's own checks, over the layout -/
theorem ni8 {i : Nat} (h : i < 8) : nI i < 8 := nI_lt (b := 8) h (by decide)
theorem ni16 {i : Nat} (h : i < 16) : nI i < 16 := nI_lt (b := 16) h (by decide)
theorem nin0 {i : Nat} (h : i < 1000) : ¬ nI i < 0 := nI_pos (by omega)
section
variable {L t d : Nat} {I : jHp} {G : Nat → Nat → Int64} {σ : jm_S}
theorem tN_boat {i : Nat} (hi : i < 8) : jm_E (d, 18, 0, jm_en 18 [.int (nI i)], [], false, σ) (.inl none, σ, false) := by
  repeat (first | refine jE_step rfl trivial ?_ | refine jE_step rfl rfl ?_)
  rw [if_neg (nin0 (by omega))]
  repeat (first | refine jE_step rfl trivial ?_ | refine jE_step rfl rfl ?_)
  rw [if_pos (ni8 hi)]
  exact jE_ret rfl trivial
theorem tN_boatX {x : Int32} (h : x < 0 ∨ ¬ x < 8) (hd : 6 ≤ d) : jm_E (d, 18, 0, jm_en 18 [.int x], [], false, σ) (.inr 0, jm_th σ, false) := by
  repeat (first | refine jE_step rfl trivial ?_ | refine jE_step rfl rfl ?_)
  by_cases h0 : x < 0
  · rw [if_pos h0]
    exact jE_ret rfl ⟨rfl, hd⟩
  · rw [if_neg h0]
    repeat (first | refine jE_step rfl trivial ?_ | refine jE_step rfl rfl ?_)
    rw [if_neg (h.elim (fun z => absurd z h0) id)]
    exact jE_ret rfl ⟨rfl, hd⟩
theorem jE_callS {c a : jm_Cf} {nx : Nat} {rest : List Value} {q : Prop} {v : Option Value} {σ : jm_S} {w : Bool} {r : jm_Rs} (h : jm_call c = some (a, nx, rest, q)) (hq : q) (ka : jm_E a (.inl v, σ, w)) (k : jm_E (jm_aft c nx rest v σ w) r) : jm_E c r := jE_call h hq ka k
theorem tN_two {i j : Nat} (hi : i < 8) (hj : j < 8) (hne : i ≠ j) : jm_E (d + 1, 19, 0, jm_en 19 [.int (nI i), .int (nI j)], [], false, σ) (.inl none, σ, false) := by
  repeat (first | refine jE_step rfl trivial ?_ | refine jE_step rfl rfl ?_)
  refine jE_call rfl ⟨Nat.le_of_ble_eq_true rfl, Nat.le_of_ble_eq_true rfl⟩ (tN_boat hi) ?_
  repeat (first | refine jE_step rfl trivial ?_ | refine jE_step rfl rfl ?_)
  refine jE_call rfl ⟨Nat.le_of_ble_eq_true rfl, Nat.le_of_ble_eq_true rfl⟩ (tN_boat hj) ?_
  repeat (first | refine jE_step rfl trivial ?_ | refine jE_step rfl rfl ?_)
  rw [if_neg (fun z => hne ((nI_eq (by omega) (by omega)).mp z))]
  exact jE_ret rfl trivial
theorem tN_twoX {x y : Int32} (h : (x < 0 ∨ ¬ x < 8) ∨ (y < 0 ∨ ¬ y < 8) ∨ x = y) (hd : 6 ≤ d) : jm_E (d + 1, 19, 0, jm_en 19 [.int x, .int y], [], false, σ) (.inr 0, jm_th σ, false) := by
  repeat (first | refine jE_step rfl trivial ?_ | refine jE_step rfl rfl ?_)
  by_cases hx : x < 0 ∨ ¬ x < 8
  · exact jE_thr rfl ⟨Nat.le_of_ble_eq_true rfl, Nat.le_of_ble_eq_true rfl⟩ (tN_boatX hx hd) rfl rfl rfl
  · obtain ⟨i, hi, rfl⟩ : ∃ i, i < 8 ∧ x = nI i := by
      rcases pk_ix x (n := 8) (by decide) with h1 | h1 | h1
      · exact absurd (Or.inl h1) hx
      · exact absurd (Or.inr (fun z => absurd h1 (Int32.not_le.mpr z))) hx
      · exact h1
    refine jE_call rfl ⟨Nat.le_of_ble_eq_true rfl, Nat.le_of_ble_eq_true rfl⟩ (tN_boat hi) ?_
    repeat (first | refine jE_step rfl trivial ?_ | refine jE_step rfl rfl ?_)
    by_cases hy : y < 0 ∨ ¬ y < 8
    · exact jE_thr rfl ⟨Nat.le_of_ble_eq_true rfl, Nat.le_of_ble_eq_true rfl⟩ (tN_boatX hy hd) rfl rfl rfl
    · obtain ⟨j, hj, rfl⟩ : ∃ j, j < 8 ∧ y = nI j := by
        rcases pk_ix y (n := 8) (by decide) with h1 | h1 | h1
        · exact absurd (Or.inl h1) hy
        · exact absurd (Or.inr (fun z => absurd h1 (Int32.not_le.mpr z))) hy
        · exact h1
      refine jE_call rfl ⟨Nat.le_of_ble_eq_true rfl, Nat.le_of_ble_eq_true rfl⟩ (tN_boat hj) ?_
      repeat (first | refine jE_step rfl trivial ?_ | refine jE_step rfl rfl ?_)
      have he : nI i = nI j := h.elim (fun z => absurd z hx) (fun z => z.elim (fun z => absurd z hy) id)
      rw [if_pos he]
      exact jE_ret rfl ⟨rfl, by omega⟩
theorem nb_of {x : Int32} (hx : ¬ (x < 0 ∨ ¬ x < 8)) : ∃ i, i < 8 ∧ x = nI i := by
  rcases pk_ix x (n := 8) (by decide) with h1 | h1 | h1
  · exact absurd (Or.inl h1) hx
  · exact absurd (Or.inr (fun z => absurd h1 (Int32.not_le.mpr z))) hx
  · exact h1
theorem tN_on {i : Nat} (hi : i < 8) (h : ¬ I (6 + 12 * i) 6 = 0) : jm_E (d, 20, 0, jm_en 20 [.ref 2, .int (nI i)], [], false, jS L I G t) (.inl none, jS L I G t, false) := by
  repeat (first | refine jE_step rfl trivial ?_ | refine jE_step rfl rfl ?_ | refine jE_step rfl lo_net ?_ | refine jE_step rfl ⟨lo_net, Or.inl rfl⟩ ?_ | refine jE_step rfl ⟨lo_net, Or.inr rfl⟩ ?_ | refine jE_step rfl (la_boats hi) ?_)
  simp only [jS, nc8 (show i < 1000 by omega), show jR 2 0 = 3 from rfl, lr_boats hi]
  repeat (first | refine jE_step rfl trivial ?_ | refine jE_step rfl rfl ?_ | refine jE_step rfl (lo_boat hi) ?_)
  rw [if_neg h]
  exact jE_ret rfl trivial
theorem tN_onX {i : Nat} (hi : i < 8) (h : I (6 + 12 * i) 6 = 0) (hd : 6 ≤ d) : jm_E (d, 20, 0, jm_en 20 [.ref 2, .int (nI i)], [], false, jS L I G t) (.inr 1, jS L I G (t + 1), false) := by
  repeat (first | refine jE_step rfl trivial ?_ | refine jE_step rfl rfl ?_ | refine jE_step rfl lo_net ?_ | refine jE_step rfl ⟨lo_net, Or.inl rfl⟩ ?_ | refine jE_step rfl ⟨lo_net, Or.inr rfl⟩ ?_ | refine jE_step rfl (la_boats hi) ?_)
  simp only [jS, nc8 (show i < 1000 by omega), show jR 2 0 = 3 from rfl, lr_boats hi]
  repeat (first | refine jE_step rfl trivial ?_ | refine jE_step rfl rfl ?_ | refine jE_step rfl (lo_boat hi) ?_)
  rw [if_pos h]
  exact jE_ret rfl ⟨rfl, hd⟩
end
