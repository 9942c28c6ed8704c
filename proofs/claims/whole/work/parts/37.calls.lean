/-! runs of the small machine: on, off, link, two, route, got; the casts' checks -/
theorem ite01 {p : Prop} [Decidable p] : (if p then (0 : Int32) else 1) = 0 ∨ (if p then (0 : Int32) else 1) = 1 := by
  split
  · exact Or.inl rfl
  · exact Or.inr rfl
theorem nx_xor (a b : Nat) : nI a ^^^ nI b = nI (a ^^^ b) := by
  apply Int32.toBitVec_inj.1
  show BitVec.ofNat 32 a ^^^ BitVec.ofNat 32 b = BitVec.ofNat 32 (a ^^^ b)
  apply BitVec.eq_of_getLsbD_eq
  intro i hi
  simp [hi]
theorem mMod16 {c : Nat} (hc : c < 2 ^ 30) : mMod (nI c) 16 = nI (c % 16) := by
  have h1 : (0 : Int32) ≤ nI c ^^^ 16 := by
    show (0 : Int32) ≤ nI c ^^^ nI 16
    rw [nx_xor]
    refine nI_pos' ?_
    have : c ^^^ 16 < 2 ^ 30 := Nat.xor_lt_two_pow hc (by decide)
    omega
  unfold mMod
  rw [if_pos h1]
  exact pk_rem (a := c) (d := 16) (by omega) (by decide) (by decide)
section
variable {L t d : Nat} {I : jHp} {G : Nat → Nat → Int64}
theorem tN_turnX {x to : Int32} (hx : x < 0 ∨ ¬ x < 8) (hd : 6 ≤ d) : jm_F (d + 1, 23, 0, jm_en 23 [.ref 2, .int x, .int to], [], false, jS L I G t) (.inr 0) (jS L I G (t + 1)) := by
  repeat (first | refine jF_step rfl trivial ?_ | refine jF_step rfl rfl ?_)
  exact jF_thr rfl ⟨Nat.le_of_ble_eq_true rfl, Nat.le_of_ble_eq_true rfl⟩ (tN_boatX hx hd).F rfl rfl rfl
theorem cN_on {i : Nat} (hi : i < 8) : jm_F (d + 2, 1, 0, jm_en 1 [.ref 2, .int (nI i)], [], false, jS L I G t) (.inl (some (.int (if I (6 + 12 * i) 6 = 1 then 0 else 1)))) (jS L (jm_up I (6 + 12 * i) 6 1) G t) := by
  repeat (first | refine jF_step rfl trivial ?_ | refine jF_step rfl rfl ?_)
  refine jF_call rfl ⟨Nat.le_of_ble_eq_true rfl, lo_net⟩ (tN_turn hi (Or.inr rfl)) (fun w => ?_)
  exact jF_ret rfl ite01
theorem cN_onX {x : Int32} (hx : x < 0 ∨ ¬ x < 8) (hd : 6 ≤ d) : jm_F (d + 2, 1, 0, jm_en 1 [.ref 2, .int x], [], false, jS L I G t) (.inr 0) (jS L I G (t + 1)) := by
  repeat (first | refine jF_step rfl trivial ?_ | refine jF_step rfl rfl ?_)
  exact jF_thr rfl ⟨Nat.le_of_ble_eq_true rfl, lo_net⟩ (tN_turnX hx hd) rfl rfl rfl
theorem cN_off {i : Nat} (hi : i < 8) : jm_F (d + 2, 2, 0, jm_en 2 [.ref 2, .int (nI i)], [], false, jS L I G t) (.inl (some (.int (if I (6 + 12 * i) 6 = 0 then 0 else 1)))) (jS L (jm_up I (6 + 12 * i) 6 0) G t) := by
  repeat (first | refine jF_step rfl trivial ?_ | refine jF_step rfl rfl ?_)
  refine jF_call rfl ⟨Nat.le_of_ble_eq_true rfl, lo_net⟩ (tN_turn hi (Or.inl rfl)) (fun w => ?_)
  exact jF_ret rfl ite01
theorem cN_offX {x : Int32} (hx : x < 0 ∨ ¬ x < 8) (hd : 6 ≤ d) : jm_F (d + 2, 2, 0, jm_en 2 [.ref 2, .int x], [], false, jS L I G t) (.inr 0) (jS L I G (t + 1)) := by
  repeat (first | refine jF_step rfl trivial ?_ | refine jF_step rfl rfl ?_)
  exact jF_thr rfl ⟨Nat.le_of_ble_eq_true rfl, lo_net⟩ (tN_turnX hx hd) rfl rfl rfl
def nLink (i j : Nat) (to : Int32) (I : jHp) : jHp := if bLinked I (6 + 12 * i) (nI j) = to then I else bFlip (6 + 12 * j) (nI i) (bFlip (6 + 12 * i) (nI j) I)
theorem cN_link {i j : Nat} {to : Int32} (hi : i < 8) (hj : j < 8) (hne : i ≠ j) : jm_F (d + 2, 3, 0, jm_en 3 [.ref 2, .int (nI i), .int (nI j), .int to], [], false, jS L I G t) (.inl (some (.int (if bLinked I (6 + 12 * i) (nI j) = to then 0 else 1)))) (jS L (nLink i j to I) G t) := by
  unfold nLink
  repeat (first | refine jF_step rfl trivial ?_ | refine jF_step rfl rfl ?_)
  refine jF_callE rfl ⟨Nat.le_of_ble_eq_true rfl, Nat.le_of_ble_eq_true rfl⟩ (tN_two hi hj hne) ?_
  repeat (first | refine jF_step rfl trivial ?_ | refine jF_step rfl rfl ?_ | refine jF_step rfl lo_net ?_ | refine jF_step rfl ⟨lo_net, Or.inl rfl⟩ ?_ | refine jF_step rfl ⟨lo_net, Or.inr rfl⟩ ?_ | refine jF_step rfl (la_boats hi) ?_)
  simp only [jS, jm_aft, jm_en, lrb hi]
  refine jF_callE rfl ⟨Nat.le_of_ble_eq_true rfl, lo_boat hi⟩ (tB_linked (lo_boat hi)) ?_
  repeat (first | refine jF_step rfl trivial ?_ | refine jF_step rfl rfl ?_)
  split
  · rename_i hb
    repeat (first | refine jF_step rfl trivial ?_ | refine jF_step rfl rfl ?_)
    try rw [if_pos hb, if_pos hb]
    exact jF_ret rfl (Or.inl rfl)
  · rename_i hb
    try rw [if_neg hb, if_neg hb]
    repeat (first | refine jF_step rfl trivial ?_ | refine jF_step rfl rfl ?_ | refine jF_step rfl lo_net ?_ | refine jF_step rfl ⟨lo_net, Or.inl rfl⟩ ?_ | refine jF_step rfl ⟨lo_net, Or.inr rfl⟩ ?_ | refine jF_step rfl (la_boats hi) ?_)
    simp only [jS, jm_aft, jm_en, lrb hi]
    refine jF_callE rfl ⟨Nat.le_of_ble_eq_true rfl, lo_boat hi⟩ (tB_flip (lo_boat hi)) ?_
    repeat (first | refine jF_step rfl trivial ?_ | refine jF_step rfl rfl ?_ | refine jF_step rfl lo_net ?_ | refine jF_step rfl ⟨lo_net, Or.inl rfl⟩ ?_ | refine jF_step rfl ⟨lo_net, Or.inr rfl⟩ ?_ | refine jF_step rfl (la_boats hj) ?_)
    simp only [jm_sI, jm_aft, jm_en, lrb hj]
    refine jF_callE rfl ⟨Nat.le_of_ble_eq_true rfl, lo_boat hj⟩ (tB_flip (lo_boat hj)) ?_
    repeat (first | refine jF_step rfl trivial ?_ | refine jF_step rfl rfl ?_)
    exact jF_ret rfl (Or.inr rfl)
theorem cN_linkX {x y to : Int32} (h : (x < 0 ∨ ¬ x < 8) ∨ (y < 0 ∨ ¬ y < 8) ∨ x = y) (hd : 6 ≤ d) : jm_F (d + 2, 3, 0, jm_en 3 [.ref 2, .int x, .int y, .int to], [], false, jS L I G t) (.inr 0) (jS L I G (t + 1)) := by
  repeat (first | refine jF_step rfl trivial ?_ | refine jF_step rfl rfl ?_)
  exact jF_thr rfl ⟨Nat.le_of_ble_eq_true rfl, Nat.le_of_ble_eq_true rfl⟩ (tN_twoX h hd).F rfl rfl rfl
theorem tB_heard {i j : Nat} (hi : i < 8) (hj : j < 8) : jm_E (d, 63, 0, jm_en 63 [.ref (6 + 12 * i), .int (nI j)], [], false, jS L I G t) (.inl (some (.int (if I (8 + 12 * i) j = -1 then 0 else 1))), jS L I G t, false) := by
  have h := tB_heard0 (d := d) (σ := jS L I G t) (lo_boat hi) (lx_heard hi hj)
  simp only [jS, jI, lrh hi, nc8 (show j < 1000 by omega)] at h ⊢
  exact h
def nTwo (I : jHp) (i j : Nat) : Int32 := if I (8 + 12 * i) j = -1 then 0 else if I (8 + 12 * j) i = -1 then 0 else 1
theorem cN_two {i j : Nat} (hi : i < 8) (hj : j < 8) : jm_F (d + 1, 10, 0, jm_en 10 [.ref 2, .int (nI i), .int (nI j)], [], false, jS L I G t) (.inl (some (.int (nTwo I i j)))) (jS L I G t) := by
  unfold nTwo
  repeat (first | refine jF_step rfl trivial ?_ | refine jF_step rfl rfl ?_)
  refine jF_callE rfl ⟨Nat.le_of_ble_eq_true rfl, Nat.le_of_ble_eq_true rfl⟩ (tN_boat hi) ?_
  repeat (first | refine jF_step rfl trivial ?_ | refine jF_step rfl rfl ?_)
  refine jF_callE rfl ⟨Nat.le_of_ble_eq_true rfl, Nat.le_of_ble_eq_true rfl⟩ (tN_boat hj) ?_
  repeat (first | refine jF_step rfl trivial ?_ | refine jF_step rfl rfl ?_ | refine jF_step rfl lo_net ?_ | refine jF_step rfl ⟨lo_net, Or.inl rfl⟩ ?_ | refine jF_step rfl ⟨lo_net, Or.inr rfl⟩ ?_ | refine jF_step rfl (la_boats hi) ?_)
  simp only [jS, jm_aft, jm_en, lrb hi]
  refine jF_callE rfl ⟨Nat.le_of_ble_eq_true rfl, lo_boat hi⟩ (tB_heard hi hj) ?_
  repeat (first | refine jF_step rfl trivial ?_ | refine jF_step rfl rfl ?_)
  by_cases h1 : I (8 + 12 * i) j = -1
  · simp only [if_pos h1]
    repeat (first | refine jF_step rfl trivial ?_ | refine jF_step rfl rfl ?_)
    exact jF_ret rfl (Or.inl rfl)
  · simp only [if_neg h1]
    repeat (first | refine jF_step rfl trivial ?_ | refine jF_step rfl rfl ?_ | refine jF_step rfl lo_net ?_ | refine jF_step rfl ⟨lo_net, Or.inl rfl⟩ ?_ | refine jF_step rfl ⟨lo_net, Or.inr rfl⟩ ?_ | refine jF_step rfl (la_boats hj) ?_)
    simp only [jS, jm_aft, jm_en, lrb hj]
    refine jF_callE rfl ⟨Nat.le_of_ble_eq_true rfl, lo_boat hj⟩ (tB_heard hj hi) ?_
    repeat (first | refine jF_step rfl trivial ?_ | refine jF_step rfl rfl ?_)
    by_cases h2 : I (8 + 12 * j) i = -1
    · simp only [if_pos h2]
      repeat (first | refine jF_step rfl trivial ?_ | refine jF_step rfl rfl ?_)
      exact jF_ret rfl (Or.inl rfl)
    · simp only [if_neg h2]
      repeat (first | refine jF_step rfl trivial ?_ | refine jF_step rfl rfl ?_)
      exact jF_ret rfl (Or.inr rfl)
end
