/-! runs of the small machine: got, entry, route and two refused, room, going on -/
theorem ne4 {L : Nat} {I : jHp} {G : Nat → Nat → Int64} {t i k : Nat} (hi : i < 16) (hk : k < 8) {s : Nat} (hs : s < 3) : jm_ix (jS L I G t) (jR (102 + 4 * i) s) 10 (nI k) := by
  rw [lr_cast hi hs, show 103 + s + 4 * i = 102 + (s + 1) + 4 * i by omega]
  exact lx (lk_carr hi (by omega)) (by omega) (by omega) (vp_in_nI hk (by decide))
section
variable {L t d : Nat} {I : jHp} {G : Nat → Nat → Int64}
theorem cN_routeX {x y z : Int32} (h : (x < 0 ∨ ¬ x < 8) ∨ (y < 0 ∨ ¬ y < 8)) (hd : 6 ≤ d) : jm_F (d + 1, 9, 0, jm_en 9 [.ref 2, .int x, .int y, .int z], [], false, jS L I G t) (.inr 0) (jS L I G (t + 1)) := by
  repeat (first | refine jF_step rfl trivial ?_ | refine jF_step rfl rfl ?_)
  by_cases hx : x < 0 ∨ ¬ x < 8
  · exact jF_thr rfl ⟨Nat.le_of_ble_eq_true rfl, Nat.le_of_ble_eq_true rfl⟩ (tN_boatX hx hd).F rfl rfl rfl
  · obtain ⟨i, hi, rfl⟩ := nb_of hx
    refine jF_callE rfl ⟨Nat.le_of_ble_eq_true rfl, Nat.le_of_ble_eq_true rfl⟩ (tN_boat hi) ?_
    repeat (first | refine jF_step rfl trivial ?_ | refine jF_step rfl rfl ?_)
    exact jF_thr rfl ⟨Nat.le_of_ble_eq_true rfl, Nat.le_of_ble_eq_true rfl⟩ (tN_boatX (h.elim (fun z => absurd z hx) id) hd).F rfl rfl rfl
theorem cN_twoX {x y : Int32} (h : (x < 0 ∨ ¬ x < 8) ∨ (y < 0 ∨ ¬ y < 8)) (hd : 6 ≤ d) : jm_F (d + 1, 10, 0, jm_en 10 [.ref 2, .int x, .int y], [], false, jS L I G t) (.inr 0) (jS L I G (t + 1)) := by
  repeat (first | refine jF_step rfl trivial ?_ | refine jF_step rfl rfl ?_)
  by_cases hx : x < 0 ∨ ¬ x < 8
  · exact jF_thr rfl ⟨Nat.le_of_ble_eq_true rfl, Nat.le_of_ble_eq_true rfl⟩ (tN_boatX hx hd).F rfl rfl rfl
  · obtain ⟨i, hi, rfl⟩ := nb_of hx
    refine jF_callE rfl ⟨Nat.le_of_ble_eq_true rfl, Nat.le_of_ble_eq_true rfl⟩ (tN_boat hi) ?_
    repeat (first | refine jF_step rfl trivial ?_ | refine jF_step rfl rfl ?_)
    exact jF_thr rfl ⟨Nat.le_of_ble_eq_true rfl, Nat.le_of_ble_eq_true rfl⟩ (tN_boatX (h.elim (fun z => absurd z hx) id) hd).F rfl rfl rfl
theorem cN_gotX {x y : Int32} (hx : x < 0 ∨ ¬ x < 8) (hd : 6 ≤ d) : jm_F (d + 1, 14, 0, jm_en 14 [.ref 2, .int x, .int y], [], false, jS L I G t) (.inr 0) (jS L I G (t + 1)) := by
  repeat (first | refine jF_step rfl trivial ?_ | refine jF_step rfl rfl ?_)
  exact jF_thr rfl ⟨Nat.le_of_ble_eq_true rfl, Nat.le_of_ble_eq_true rfl⟩ (tN_boatX hx hd).F rfl rfl rfl
theorem cN_gotY {i : Nat} {y : Int32} (hi : i < 8) (h : y < 0 ∨ ¬ y < I (6 + 12 * i) 4) (hd : 6 ≤ d) : jm_F (d + 1, 14, 0, jm_en 14 [.ref 2, .int (nI i), .int y], [], false, jS L I G t) (.inr 2) (jS L I G (t + 1)) := by
  repeat (first | refine jF_step rfl trivial ?_ | refine jF_step rfl rfl ?_)
  refine jF_callE rfl ⟨Nat.le_of_ble_eq_true rfl, Nat.le_of_ble_eq_true rfl⟩ (tN_boat hi) ?_
  repeat (first | refine jF_step rfl trivial ?_ | refine jF_step rfl rfl ?_)
  by_cases h0 : y < 0
  · rw [if_pos h0]
    exact jF_ret rfl ⟨rfl, by omega⟩
  · rw [if_neg h0]
    repeat (first | refine jF_step rfl trivial ?_ | refine jF_step rfl rfl ?_ | refine jF_step rfl lo_net ?_ | refine jF_step rfl ⟨lo_net, Or.inl rfl⟩ ?_ | refine jF_step rfl ⟨lo_net, Or.inr rfl⟩ ?_ | refine jF_step rfl (la_boats hi) ?_)
    simp only [jS, jm_aft, jm_en, lrb hi]
    repeat (first | refine jF_step rfl trivial ?_ | refine jF_step rfl rfl ?_ | refine jF_step rfl (lo_boat hi) ?_)
    rw [if_neg (h.elim (fun z => absurd z h0) id)]
    exact jF_ret rfl ⟨rfl, by omega⟩
theorem cN_got {i k : Nat} (hi : i < 8) (hk : k < 32) (h : nI k < I (6 + 12 * i) 4) : jm_F (d + 1, 14, 0, jm_en 14 [.ref 2, .int (nI i), .int (nI k)], [], false, jS L I G t) (.inl (some (.int (I (9 + 12 * i) k)))) (jS L I G t) := by
  repeat (first | refine jF_step rfl trivial ?_ | refine jF_step rfl rfl ?_)
  refine jF_callE rfl ⟨Nat.le_of_ble_eq_true rfl, Nat.le_of_ble_eq_true rfl⟩ (tN_boat hi) ?_
  repeat (first | refine jF_step rfl trivial ?_ | refine jF_step rfl rfl ?_)
  rw [if_neg (nin0 (by omega))]
  repeat (first | refine jF_step rfl trivial ?_ | refine jF_step rfl rfl ?_ | refine jF_step rfl lo_net ?_ | refine jF_step rfl ⟨lo_net, Or.inl rfl⟩ ?_ | refine jF_step rfl ⟨lo_net, Or.inr rfl⟩ ?_ | refine jF_step rfl (la_boats hi) ?_)
  simp only [jS, jm_aft, jm_en, lrb hi]
  repeat (first | refine jF_step rfl trivial ?_ | refine jF_step rfl rfl ?_ | refine jF_step rfl (lo_boat hi) ?_)
  rw [if_pos h]
  repeat (first | refine jF_step rfl trivial ?_ | refine jF_step rfl rfl ?_ | refine jF_step rfl lo_net ?_ | refine jF_step rfl ⟨lo_net, Or.inl rfl⟩ ?_ | refine jF_step rfl ⟨lo_net, Or.inr rfl⟩ ?_ | refine jF_step rfl (la_boats hi) ?_)
  simp only [jS, jm_aft, jm_en, lrb hi]
  repeat (first | refine jF_step rfl trivial ?_ | refine jF_step rfl rfl ?_ | refine jF_step rfl (lo_boat hi) ?_ | refine jF_step rfl (lx_words hi hk) ?_)
  simp only [lrw hi, nc8 (show k < 1000 by omega)]
  exact jF_ret rfl trivial
/-- has a boat room for a packet with this goal? -/
def nRoom (I : jHp) (y g : Nat) : Int32 := if y = g then (if 32 ≤ I (6 + 12 * y) 4 then 0 else 1) else if 4 ≤ nCnt I (nI y) 16 then 0 else 1
theorem tN_room {y g : Nat} (hy : y < 8) (hg : g < 8) : jm_E (d + 1, 29, 0, jm_en 29 [.ref 2, .int (nI y), .int (nI g)], [], false, jS L I G t) (.inl (some (.int (nRoom I y g))), jS L I G t, false) := by
  unfold nRoom
  repeat (first | refine jE_step rfl trivial ?_ | refine jE_step rfl rfl ?_)
  by_cases h : y = g
  · rw [if_pos (congrArg nI h), if_pos h]
    repeat (first | refine jE_step rfl trivial ?_ | refine jE_step rfl rfl ?_ | refine jE_step rfl lo_net ?_ | refine jE_step rfl ⟨lo_net, Or.inl rfl⟩ ?_ | refine jE_step rfl ⟨lo_net, Or.inr rfl⟩ ?_ | refine jE_step rfl (la_boats hy) ?_)
    simp only [jS, jm_aft, jm_en, lrb hy]
    repeat (first | refine jE_step rfl trivial ?_ | refine jE_step rfl rfl ?_ | refine jE_step rfl (lo_boat hy) ?_)
    split
    · repeat (first | refine jE_step rfl trivial ?_ | refine jE_step rfl rfl ?_)
      exact jE_ret rfl (Or.inl rfl)
    · repeat (first | refine jE_step rfl trivial ?_ | refine jE_step rfl rfl ?_)
      exact jE_ret rfl (Or.inr rfl)
  · rw [if_neg (fun z => h ((nI_eq (by omega) (by omega)).mp z)), if_neg h]
    repeat (first | refine jE_step rfl trivial ?_ | refine jE_step rfl rfl ?_)
    refine jE_call rfl ⟨Nat.le_of_ble_eq_true rfl, lo_net⟩ tN_cnt ?_
    generalize nCnt I (nI y) 16 = r
    repeat (first | refine jE_step rfl trivial ?_ | refine jE_step rfl rfl ?_)
    split
    · repeat (first | refine jE_step rfl trivial ?_ | refine jE_step rfl rfl ?_)
      exact jE_ret rfl (Or.inl rfl)
    · repeat (first | refine jE_step rfl trivial ?_ | refine jE_step rfl rfl ?_)
      exact jE_ret rfl (Or.inr rfl)
/-- may the packet p, at a with goal g, go on to y? -/
def nMay (I : jHp) (p a g y : Nat) : Int32 := if I (6 + 12 * y) 6 = 0 then 0 else if bLinked I (6 + 12 * a) (nI y) = 0 then 0 else if pDrawn I (166 + p) (10 + 12 * y + g) = 0 then 0 else if nRoom I y g = 0 then 0 else 1
theorem tN_mayN {p a g : Nat} (hp : p < 16) (ha : a < 8) (hg : g < 8) (ea : I (166 + p) 2 = nI a) (eg : I (166 + p) 3 = nI g) (en : I (10 + 12 * a + g) 2 = -1) : jm_E (d + 2, 28, 0, jm_en 28 [.ref 2, .ref (166 + p)], [], false, jS L I G t) (.inl (some (.int 0)), jS L I G t, false) := by
  repeat (first | refine jE_step rfl trivial ?_ | refine jE_step rfl rfl ?_ | refine jE_step rfl lo_net ?_ | refine jE_step rfl ⟨lo_net, Or.inl rfl⟩ ?_ | refine jE_step rfl ⟨lo_net, Or.inr rfl⟩ ?_ | refine jE_step rfl (lo_pack hp) ?_)
  simp only [jS, ea]
  repeat (first | refine jE_step rfl trivial ?_ | refine jE_step rfl rfl ?_ | refine jE_step rfl (la_boats ha) ?_)
  simp only [lrb ha]
  repeat (first | refine jE_step rfl trivial ?_ | refine jE_step rfl rfl ?_ | refine jE_step rfl (lo_boat ha) ?_ | refine jE_step rfl (lo_pack hp) ?_)
  simp only [eg]
  repeat (first | refine jE_step rfl trivial ?_ | refine jE_step rfl rfl ?_ | refine jE_step rfl (la_ents' ha hg) ?_)
  simp only [lre ha hg]
  repeat (first | refine jE_step rfl trivial ?_ | refine jE_step rfl rfl ?_ | refine jE_step rfl (lo_ent ha hg) ?_)
  simp only [en]
  repeat (first | refine jE_step rfl trivial ?_ | refine jE_step rfl rfl ?_)
  exact jE_ret rfl (Or.inl rfl)
theorem nIm1 {n : Nat} (h : n < 1000) : ¬ nI n = -1 := fun z => absurd (z ▸ (by decide : (-1 : Int32) < 0)) (nin0 h)
theorem tN_may {p a g y : Nat} (hp : p < 16) (ha : a < 8) (hg : g < 8) (hy : y < 8) (ea : I (166 + p) 2 = nI a) (eg : I (166 + p) 3 = nI g) (en : I (10 + 12 * a + g) 2 = nI y) : jm_E (d + 2, 28, 0, jm_en 28 [.ref 2, .ref (166 + p)], [], false, jS L I G t) (.inl (some (.int (nMay I p a g y))), jS L I G t, false) := by
  unfold nMay
  repeat (first | refine jE_step rfl trivial ?_ | refine jE_step rfl rfl ?_ | refine jE_step rfl lo_net ?_ | refine jE_step rfl ⟨lo_net, Or.inl rfl⟩ ?_ | refine jE_step rfl ⟨lo_net, Or.inr rfl⟩ ?_ | refine jE_step rfl (lo_pack hp) ?_)
  simp only [jS, ea]
  repeat (first | refine jE_step rfl trivial ?_ | refine jE_step rfl rfl ?_ | refine jE_step rfl (la_boats ha) ?_)
  simp only [lrb ha]
  repeat (first | refine jE_step rfl trivial ?_ | refine jE_step rfl rfl ?_ | refine jE_step rfl (lo_boat ha) ?_ | refine jE_step rfl (lo_pack hp) ?_)
  simp only [eg]
  repeat (first | refine jE_step rfl trivial ?_ | refine jE_step rfl rfl ?_ | refine jE_step rfl (la_ents' ha hg) ?_)
  simp only [lre ha hg]
  repeat (first | refine jE_step rfl trivial ?_ | refine jE_step rfl rfl ?_ | refine jE_step rfl (lo_ent ha hg) ?_)
  simp only [en]
  repeat (first | refine jE_step rfl trivial ?_ | refine jE_step rfl rfl ?_)
  rw [if_neg (nIm1 (show y < 1000 by omega))]
  repeat (first | refine jE_step rfl trivial ?_ | refine jE_step rfl rfl ?_ | refine jE_step rfl lo_net ?_ | refine jE_step rfl ⟨lo_net, Or.inl rfl⟩ ?_ | refine jE_step rfl ⟨lo_net, Or.inr rfl⟩ ?_ | refine jE_step rfl (la_boats hy) ?_)
  simp only [lrb hy]
  repeat (first | refine jE_step rfl trivial ?_ | refine jE_step rfl rfl ?_ | refine jE_step rfl (lo_boat hy) ?_)
  split
  · repeat (first | refine jE_step rfl trivial ?_ | refine jE_step rfl rfl ?_)
    exact jE_ret rfl (Or.inl rfl)
  · repeat (first | refine jE_step rfl trivial ?_ | refine jE_step rfl rfl ?_)
    refine jE_call rfl ⟨Nat.le_of_ble_eq_true rfl, lo_boat ha⟩ (tB_linked (lo_boat ha)) ?_
    repeat (first | refine jE_step rfl trivial ?_ | refine jE_step rfl rfl ?_)
    split
    · rename_i hb
      try simp only [if_pos hb]
      repeat (first | refine jE_step rfl trivial ?_ | refine jE_step rfl rfl ?_)
      exact jE_ret rfl (Or.inl rfl)
    · rename_i hb
      try simp only [if_neg hb]
      repeat (first | refine jE_step rfl trivial ?_ | refine jE_step rfl rfl ?_ | refine jE_step rfl lo_net ?_ | refine jE_step rfl ⟨lo_net, Or.inl rfl⟩ ?_ | refine jE_step rfl ⟨lo_net, Or.inr rfl⟩ ?_ | refine jE_step rfl (la_boats hy) ?_)
      simp only [jS, jm_aft, jm_en, lrb hy]
      repeat (first | refine jE_step rfl trivial ?_ | refine jE_step rfl rfl ?_ | refine jE_step rfl (lo_boat hy) ?_ | refine jE_step rfl (lo_pack hp) ?_)
      simp only [eg]
      repeat (first | refine jE_step rfl trivial ?_ | refine jE_step rfl rfl ?_ | refine jE_step rfl (la_ents' hy hg) ?_)
      simp only [lre hy hg]
      refine jE_call rfl ⟨Nat.le_of_ble_eq_true rfl, lo_pack hp⟩ (tP_drawn (lo_pack hp) (lo_ent hy hg)) ?_
      repeat (first | refine jE_step rfl trivial ?_ | refine jE_step rfl rfl ?_)
      split
      · rename_i hb
        try simp only [if_pos hb]
        repeat (first | refine jE_step rfl trivial ?_ | refine jE_step rfl rfl ?_)
        exact jE_ret rfl (Or.inl rfl)
      · rename_i hb
        try simp only [if_neg hb]
        repeat (first | refine jE_step rfl trivial ?_ | refine jE_step rfl rfl ?_ | refine jE_step rfl (lo_pack hp) ?_)
        simp only [jm_aft, jm_en, eg]
        refine jE_call rfl ⟨Nat.le_of_ble_eq_true rfl, lo_net⟩ (tN_room hy hg) ?_
        repeat (first | refine jE_step rfl trivial ?_ | refine jE_step rfl rfl ?_)
        split
        · rename_i hb
          try simp only [if_pos hb]
          repeat (first | refine jE_step rfl trivial ?_ | refine jE_step rfl rfl ?_)
          exact jE_ret rfl (Or.inl rfl)
        · rename_i hb
          try simp only [if_neg hb]
          repeat (first | refine jE_step rfl trivial ?_ | refine jE_step rfl rfl ?_)
          exact jE_ret rfl (Or.inr rfl)
end
