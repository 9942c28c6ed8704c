/-! runs of the small machine: route with no such question, entry, send, move -/
section
variable {L t d : Nat} {I : jHp} {G : Nat → Nat → Int64}
theorem cN_routeY {i g : Nat} {z : Int32} (hi : i < 8) (hg : g < 8) (hz : z.toInt < 0 ∨ 6 < z.toInt) (hd : 6 ≤ d) : jm_F (d + 1, 9, 0, jm_en 9 [.ref 2, .int (nI i), .int (nI g), .int z], [], false, jS L I G t) (.inr 0) (jS L I G (t + 1)) := by
  repeat (first | refine jF_step rfl trivial ?_ | refine jF_step rfl rfl ?_)
  refine jF_callE rfl ⟨Nat.le_of_ble_eq_true rfl, Nat.le_of_ble_eq_true rfl⟩ (tN_boat hi) ?_
  repeat (first | refine jF_step rfl trivial ?_ | refine jF_step rfl rfl ?_)
  refine jF_callE rfl ⟨Nat.le_of_ble_eq_true rfl, Nat.le_of_ble_eq_true rfl⟩ (tN_boat hg) ?_
  repeat (first | refine jF_step rfl trivial ?_ | refine jF_step rfl rfl ?_ | refine jF_step rfl lo_net ?_ | refine jF_step rfl ⟨lo_net, Or.inl rfl⟩ ?_ | refine jF_step rfl ⟨lo_net, Or.inr rfl⟩ ?_ | refine jF_step rfl (la_boats hi) ?_)
  simp only [jS, jm_aft, jm_en, lrb hi]
  repeat (first | refine jF_step rfl trivial ?_ | refine jF_step rfl rfl ?_ | refine jF_step rfl (lo_boat hi) ?_ | refine jF_step rfl (la_ents' hi hg) ?_)
  rw [if_pos hz]
  exact jF_ret rfl ⟨rfl, by omega⟩
theorem cN_entX {c : Nat} {p j k : Int32} (hc : c < 2 ^ 30) (h1 : ¬ nI c < 0) (h2 : ¬ I 2 3 ≤ nI c) (h3 : I 2 3 - 16 ≤ nI c) (h4 : p < 0 ∨ ¬ p < cParts I (102 + 4 * (c % 16))) (hd : 6 ≤ d) : jm_F (d + 3, 6, 0, jm_en 6 [.ref 2, .int (nI c), .int p, .int j, .int k], [], false, jS L I G t) (.inr 0) (jS L I G (t + 1)) := by
  repeat (first | refine jF_step rfl trivial ?_ | refine jF_step rfl rfl ?_)
  exact jF_thr rfl ⟨Nat.le_of_ble_eq_true rfl, lo_net⟩ (tN_needPartX hc h1 h2 h3 h4 hd).F rfl rfl rfl
theorem cN_entY {x p j k : Int32} (h : x < 0 ∨ I 2 3 ≤ x ∨ ¬ I 2 3 - 16 ≤ x) (hd : 6 ≤ d) : jm_F (d + 2, 6, 0, jm_en 6 [.ref 2, .int x, .int p, .int j, .int k], [], false, jS L I G t) (.inr 0) (jS L I G (t + 1)) := by
  repeat (first | refine jF_step rfl trivial ?_ | refine jF_step rfl rfl ?_)
  exact jF_thr rfl ⟨Nat.le_of_ble_eq_true rfl, lo_net⟩ (tN_needPartY h hd).F rfl rfl rfl
theorem cN_entZ {c : Nat} {p j k : Int32} (hc : c < 2 ^ 30) (h1 : ¬ nI c < 0) (h2 : ¬ I 2 3 ≤ nI c) (h3 : I 2 3 - 16 ≤ nI c) (h4 : ¬ p < 0) (h5 : p < cParts I (102 + 4 * (c % 16))) (hk : k < 0 ∨ ¬ k ≤ 2) (hd : 6 ≤ d) : jm_F (d + 3, 6, 0, jm_en 6 [.ref 2, .int (nI c), .int p, .int j, .int k], [], false, jS L I G t) (.inr 0) (jS L I G (t + 1)) := by
  repeat (first | refine jF_step rfl trivial ?_ | refine jF_step rfl rfl ?_)
  refine jF_callE rfl ⟨Nat.le_of_ble_eq_true rfl, lo_net⟩ (tN_needPart hc h1 h2 h3 h4 h5) ?_
  repeat (first | refine jF_step rfl trivial ?_ | refine jF_step rfl rfl ?_)
  by_cases h0 : k < 0
  · rw [if_pos h0]
    exact jF_ret rfl ⟨rfl, by omega⟩
  · rw [if_neg h0]
    repeat (first | refine jF_step rfl trivial ?_ | refine jF_step rfl rfl ?_)
    rw [if_neg (hk.elim (fun z => absurd z h0) id)]
    exact jF_ret rfl ⟨rfl, by omega⟩
theorem cN_entW {c k : Nat} {p j : Int32} (hc : c < 2 ^ 30) (h1 : ¬ nI c < 0) (h2 : ¬ I 2 3 ≤ nI c) (h3 : I 2 3 - 16 ≤ nI c) (h4 : ¬ p < 0) (h5 : p < cParts I (102 + 4 * (c % 16))) (hk : k < 3) (hj : j < 0 ∨ ¬ j < cSize I (102 + 4 * (c % 16)) p) (hd : 6 ≤ d) : jm_F (d + 3, 6, 0, jm_en 6 [.ref 2, .int (nI c), .int p, .int j, .int (nI k)], [], false, jS L I G t) (.inr 2) (jS L I G (t + 1)) := by
  have hm : c % 16 < 16 := Nat.mod_lt _ (by decide)
  repeat (first | refine jF_step rfl trivial ?_ | refine jF_step rfl rfl ?_)
  refine jF_callE rfl ⟨Nat.le_of_ble_eq_true rfl, lo_net⟩ (tN_needPart hc h1 h2 h3 h4 h5) ?_
  repeat (first | refine jF_step rfl trivial ?_ | refine jF_step rfl rfl ?_)
  rw [if_neg (nin0 (by omega))]
  repeat (first | refine jF_step rfl trivial ?_ | refine jF_step rfl rfl ?_)
  rw [if_pos (show nI k ≤ 2 from nI_le (b := 2) (by omega) (by decide))]
  repeat (first | refine jF_step rfl trivial ?_ | refine jF_step rfl rfl ?_)
  refine jF_callE rfl ⟨Nat.le_of_ble_eq_true rfl, lo_net⟩ (tN_kept hc) ?_
  repeat (first | refine jF_step rfl trivial ?_ | refine jF_step rfl rfl ?_)
  by_cases h0 : j < 0
  · rw [if_pos h0]
    exact jF_ret rfl ⟨rfl, by omega⟩
  · rw [if_neg h0]
    repeat (first | refine jF_step rfl trivial ?_ | refine jF_step rfl rfl ?_)
    refine jF_callE rfl ⟨Nat.le_of_ble_eq_true rfl, lo_cast hm⟩ (tC_size (lo_cast hm)) ?_
    repeat (first | refine jF_step rfl trivial ?_ | refine jF_step rfl rfl ?_)
    rw [if_neg (show ¬ j < cSize (jI (jS L I G t)) (102 + 4 * (c % 16)) p from hj.elim (fun z => absurd z h0) id)]
    exact jF_ret rfl ⟨rfl, by omega⟩
theorem cN_ent {c k m : Nat} {p j : Int32} (hc : c < 2 ^ 30) (h1 : ¬ nI c < 0) (h2 : ¬ I 2 3 ≤ nI c) (h3 : I 2 3 - 16 ≤ nI c) (h4 : ¬ p < 0) (h5 : p < cParts I (102 + 4 * (c % 16))) (hk : k < 3) (h6 : ¬ j < 0) (h7 : j < cSize I (102 + 4 * (c % 16)) p) (hm8 : m < 8) (hpm : p * 3 + j = nI m) : jm_F (d + 3, 6, 0, jm_en 6 [.ref 2, .int (nI c), .int p, .int j, .int (nI k)], [], false, jS L I G t) (.inl (some (.int (I (103 + k + 4 * (c % 16)) m)))) (jS L I G t) := by
  have hm : c % 16 < 16 := Nat.mod_lt _ (by decide)
  repeat (first | refine jF_step rfl trivial ?_ | refine jF_step rfl rfl ?_)
  refine jF_callE rfl ⟨Nat.le_of_ble_eq_true rfl, lo_net⟩ (tN_needPart hc h1 h2 h3 h4 h5) ?_
  repeat (first | refine jF_step rfl trivial ?_ | refine jF_step rfl rfl ?_)
  rw [if_neg (nin0 (by omega))]
  repeat (first | refine jF_step rfl trivial ?_ | refine jF_step rfl rfl ?_)
  rw [if_pos (show nI k ≤ 2 from nI_le (b := 2) (by omega) (by decide))]
  repeat (first | refine jF_step rfl trivial ?_ | refine jF_step rfl rfl ?_)
  refine jF_callE rfl ⟨Nat.le_of_ble_eq_true rfl, lo_net⟩ (tN_kept hc) ?_
  repeat (first | refine jF_step rfl trivial ?_ | refine jF_step rfl rfl ?_)
  rw [if_neg h6]
  repeat (first | refine jF_step rfl trivial ?_ | refine jF_step rfl rfl ?_)
  refine jF_callE rfl ⟨Nat.le_of_ble_eq_true rfl, lo_cast hm⟩ (tC_size (lo_cast hm)) ?_
  repeat (first | refine jF_step rfl trivial ?_ | refine jF_step rfl rfl ?_)
  rw [if_pos (show j < cSize (jI (jS L I G t)) (102 + 4 * (c % 16)) p from h7)]
  repeat (first | refine jF_step rfl trivial ?_ | refine jF_step rfl rfl ?_)
  simp only [jS, jm_aft, jm_en, hpm]
  match k, hk with
  | 0, _ =>
    repeat (first | refine jF_step rfl trivial ?_ | refine jF_step rfl rfl ?_ | refine jF_step rfl (lo_cast hm) ?_ | refine jF_step rfl (ne4 hm hm8 (s := 0) (by omega)) ?_)
    simp only [lr_cast hm (show 0 < 3 by omega), nc8 (show m < 1000 by omega)]
    exact jF_ret rfl trivial
  | 1, _ =>
    repeat (first | refine jF_step rfl trivial ?_ | refine jF_step rfl rfl ?_ | refine jF_step rfl (lo_cast hm) ?_ | refine jF_step rfl (ne4 hm hm8 (s := 1) (by omega)) ?_)
    simp only [lr_cast hm (show 1 < 3 by omega), nc8 (show m < 1000 by omega)]
    exact jF_ret rfl trivial
  | 2, _ =>
    repeat (first | refine jF_step rfl trivial ?_ | refine jF_step rfl rfl ?_ | refine jF_step rfl (lo_cast hm) ?_ | refine jF_step rfl (ne4 hm hm8 (s := 2) (by omega)) ?_)
    simp only [lr_cast hm (show 2 < 3 by omega), nc8 (show m < 1000 by omega)]
    exact jF_ret rfl trivial
theorem cN_sendX {x y z : Int32} (h : (x < 0 ∨ ¬ x < 8) ∨ (y < 0 ∨ ¬ y < 8) ∨ x = y) (hd : 6 ≤ d) : jm_F (d + 2, 11, 0, jm_en 11 [.ref 2, .int x, .int y, .int z], [], false, jS L I G t) (.inr 0) (jS L I G (t + 1)) := by
  repeat (first | refine jF_step rfl trivial ?_ | refine jF_step rfl rfl ?_)
  exact jF_thr rfl ⟨Nat.le_of_ble_eq_true rfl, Nat.le_of_ble_eq_true rfl⟩ (tN_twoX h hd).F rfl rfl rfl
theorem nFree_le : ∀ n k, k + n = 16 → nFree I n k = 0 ∨ ∃ p, p < 16 ∧ nFree I n k = 166 + p := by
  intro n
  induction n with
  | zero => intro k _; exact Or.inl rfl
  | succ n ih =>
    intro k hk
    rw [nFree]
    split
    · exact Or.inr ⟨k, by omega, rfl⟩
    · exact ih (k + 1) (by omega)
theorem cN_sendY {i j : Nat} {z : Int32} (hi : i < 8) (hj : j < 8) (hne : i ≠ j) (h : I (6 + 12 * i) 6 = 0 ∨ I (10 + 12 * i + j) 0 = -1 ∨ ¬ nCnt I (nI i) 16 < 4 ∨ nFree I 16 0 = 0) (hd : 6 ≤ d) : jm_F (d + 2, 11, 0, jm_en 11 [.ref 2, .int (nI i), .int (nI j), .int z], [], false, jS L I G t) (.inr 1) (jS L I G (t + 1)) := by
  repeat (first | refine jF_step rfl trivial ?_ | refine jF_step rfl rfl ?_)
  refine jF_callE rfl ⟨Nat.le_of_ble_eq_true rfl, Nat.le_of_ble_eq_true rfl⟩ (tN_two hi hj hne) ?_
  repeat (first | refine jF_step rfl trivial ?_ | refine jF_step rfl rfl ?_)
  by_cases h1 : I (6 + 12 * i) 6 = 0
  · exact jF_thr rfl ⟨Nat.le_of_ble_eq_true rfl, lo_net⟩ (tN_onX hi h1 (by omega)).F rfl rfl rfl
  refine jF_callE rfl ⟨Nat.le_of_ble_eq_true rfl, lo_net⟩ (tN_on hi h1) ?_
  repeat (first | refine jF_step rfl trivial ?_ | refine jF_step rfl rfl ?_ | refine jF_step rfl lo_net ?_ | refine jF_step rfl ⟨lo_net, Or.inl rfl⟩ ?_ | refine jF_step rfl ⟨lo_net, Or.inr rfl⟩ ?_ | refine jF_step rfl (la_boats hi) ?_)
  simp only [jS, jm_aft, jm_en, lrb hi]
  repeat (first | refine jF_step rfl trivial ?_ | refine jF_step rfl rfl ?_ | refine jF_step rfl (lo_boat hi) ?_ | refine jF_step rfl (la_ents' hi hj) ?_)
  simp only [lre hi hj]
  repeat (first | refine jF_step rfl trivial ?_ | refine jF_step rfl rfl ?_ | refine jF_step rfl (lo_ent hi hj) ?_)
  by_cases h2 : I (10 + 12 * i + j) 0 = -1
  · rw [if_pos h2]
    exact jF_ret rfl ⟨rfl, by omega⟩
  rw [if_neg h2]
  repeat (first | refine jF_step rfl trivial ?_ | refine jF_step rfl rfl ?_)
  refine jF_callE rfl ⟨Nat.le_of_ble_eq_true rfl, lo_net⟩ tN_cnt ?_
  by_cases h3 : ¬ nCnt I (nI i) 16 < 4
  · generalize nCnt I (nI i) 16 = r at h3 ⊢
    repeat (first | refine jF_step rfl trivial ?_ | refine jF_step rfl rfl ?_)
    rw [if_neg h3]
    exact jF_ret rfl ⟨rfl, by omega⟩
  have h4 : nFree I 16 0 = 0 := h.elim (fun z => absurd z h1) (fun z => z.elim (fun z => absurd z h2) (fun z => z.elim (fun z => absurd z h3) id))
  have h3' := Decidable.not_not.mp h3
  generalize nCnt I (nI i) 16 = r at h3' ⊢
  repeat (first | refine jF_step rfl trivial ?_ | refine jF_step rfl rfl ?_)
  rw [if_pos h3']
  repeat (first | refine jF_step rfl trivial ?_ | refine jF_step rfl rfl ?_)
  refine jF_callE rfl ⟨Nat.le_of_ble_eq_true rfl, lo_net⟩ tN_free ?_
  rw [h4]
  repeat (first | refine jF_step rfl trivial ?_ | refine jF_step rfl rfl ?_)
  exact jF_ret rfl ⟨rfl, by omega⟩
theorem cN_send {i j p : Nat} {z : Int32} (hi : i < 8) (hj : j < 8) (hne : i ≠ j) (hp : p < 16) (h1 : ¬ I (6 + 12 * i) 6 = 0) (h2 : ¬ I (10 + 12 * i + j) 0 = -1) (h3 : nCnt I (nI i) 16 < 4) (h4 : nFree I 16 0 = 166 + p) : jm_F (d + 2, 11, 0, jm_en 11 [.ref 2, .int (nI i), .int (nI j), .int z], [], false, jS L I G t) (.inl (some (.int (I 2 4)))) (jS L (pStart (166 + p) (I 2 4) (nI i) (nI j) z (jm_up I 2 4 (I 2 4 + 1))) G t) := by
  repeat (first | refine jF_step rfl trivial ?_ | refine jF_step rfl rfl ?_)
  refine jF_callE rfl ⟨Nat.le_of_ble_eq_true rfl, Nat.le_of_ble_eq_true rfl⟩ (tN_two hi hj hne) ?_
  repeat (first | refine jF_step rfl trivial ?_ | refine jF_step rfl rfl ?_)
  refine jF_callE rfl ⟨Nat.le_of_ble_eq_true rfl, lo_net⟩ (tN_on hi h1) ?_
  repeat (first | refine jF_step rfl trivial ?_ | refine jF_step rfl rfl ?_ | refine jF_step rfl lo_net ?_ | refine jF_step rfl ⟨lo_net, Or.inl rfl⟩ ?_ | refine jF_step rfl ⟨lo_net, Or.inr rfl⟩ ?_ | refine jF_step rfl (la_boats hi) ?_)
  simp only [jS, jm_aft, jm_en, lrb hi]
  repeat (first | refine jF_step rfl trivial ?_ | refine jF_step rfl rfl ?_ | refine jF_step rfl (lo_boat hi) ?_ | refine jF_step rfl (la_ents' hi hj) ?_)
  simp only [lre hi hj]
  repeat (first | refine jF_step rfl trivial ?_ | refine jF_step rfl rfl ?_ | refine jF_step rfl (lo_ent hi hj) ?_)
  rw [if_neg h2]
  repeat (first | refine jF_step rfl trivial ?_ | refine jF_step rfl rfl ?_)
  refine jF_callE rfl ⟨Nat.le_of_ble_eq_true rfl, lo_net⟩ tN_cnt ?_
  generalize nCnt I (nI i) 16 = r at h3 ⊢
  repeat (first | refine jF_step rfl trivial ?_ | refine jF_step rfl rfl ?_)
  rw [if_pos h3]
  repeat (first | refine jF_step rfl trivial ?_ | refine jF_step rfl rfl ?_)
  refine jF_callE rfl ⟨Nat.le_of_ble_eq_true rfl, lo_net⟩ tN_free ?_
  rw [h4]
  repeat (first | refine jF_step rfl trivial ?_ | refine jF_step rfl rfl ?_)
  rw [if_neg (show ¬ 166 + p = 0 by omega)]
  repeat (first | refine jF_step rfl trivial ?_ | refine jF_step rfl rfl ?_ | refine jF_step rfl lo_net ?_ | refine jF_step rfl ⟨lo_net, Or.inl rfl⟩ ?_ | refine jF_step rfl ⟨lo_net, Or.inr rfl⟩ ?_)
  refine jF_callE rfl ⟨Nat.le_of_ble_eq_true rfl, lo_pack hp⟩ (tP_start (lo_pack hp)) ?_
  repeat (first | refine jF_step rfl trivial ?_ | refine jF_step rfl rfl ?_)
  exact jF_ret rfl trivial
theorem cN_moveX {x : Int32} (h : nNum I x 16 0 = 0) (hd : 6 ≤ d) : jm_F (d + 1, 12, 0, jm_en 12 [.ref 2, .int x], [], false, jS L I G t) (.inr 0) (jS L I G (t + 1)) := by
  repeat (first | refine jF_step rfl trivial ?_ | refine jF_step rfl rfl ?_)
  refine jF_callE rfl ⟨Nat.le_of_ble_eq_true rfl, lo_net⟩ tN_num ?_
  rw [h]
  repeat (first | refine jF_step rfl trivial ?_ | refine jF_step rfl rfl ?_)
  exact jF_ret rfl ⟨rfl, by omega⟩
theorem cN_moveY {x : Int32} {p a : Nat} (hp : p < 16) (ha : a < 8) (ea : I (166 + p) 2 = nI a) (h : nNum I x 16 0 = 166 + p) (ho : I (6 + 12 * a) 6 = 0) (hd : 6 ≤ d) : jm_F (d + 1, 12, 0, jm_en 12 [.ref 2, .int x], [], false, jS L I G t) (.inr 1) (jS L I G (t + 1)) := by
  repeat (first | refine jF_step rfl trivial ?_ | refine jF_step rfl rfl ?_)
  refine jF_callE rfl ⟨Nat.le_of_ble_eq_true rfl, lo_net⟩ tN_num ?_
  rw [h]
  repeat (first | refine jF_step rfl trivial ?_ | refine jF_step rfl rfl ?_)
  rw [if_neg (show ¬ 166 + p = 0 by omega)]
  repeat (first | refine jF_step rfl trivial ?_ | refine jF_step rfl rfl ?_ | refine jF_step rfl (lo_pack hp) ?_)
  simp only [jS, jm_aft, jm_en, ea]
  exact jF_thr rfl ⟨Nat.le_of_ble_eq_true rfl, lo_net⟩ (tN_onX ha ho hd).F rfl rfl rfl
theorem cN_moveN {x : Int32} {p a g : Nat} (hp : p < 16) (ha : a < 8) (hg : g < 8) (ea : I (166 + p) 2 = nI a) (eg : I (166 + p) 3 = nI g) (h : nNum I x 16 0 = 166 + p) (ho : ¬ I (6 + 12 * a) 6 = 0) (hy : I (10 + 12 * a + g) 2 = -1 ∨ ∃ y, y < 8 ∧ I (10 + 12 * a + g) 2 = nI y ∧ nMay I p a g y = 0) : jm_F (d + 3, 12, 0, jm_en 12 [.ref 2, .int x], [], false, jS L I G t) (.inl (some (.int (nI a)))) (jS L I G t) := by
  repeat (first | refine jF_step rfl trivial ?_ | refine jF_step rfl rfl ?_)
  refine jF_callE rfl ⟨Nat.le_of_ble_eq_true rfl, lo_net⟩ tN_num ?_
  rw [h]
  repeat (first | refine jF_step rfl trivial ?_ | refine jF_step rfl rfl ?_)
  rw [if_neg (show ¬ 166 + p = 0 by omega)]
  repeat (first | refine jF_step rfl trivial ?_ | refine jF_step rfl rfl ?_ | refine jF_step rfl (lo_pack hp) ?_)
  simp only [jS, jm_aft, jm_en, ea]
  refine jF_callE rfl ⟨Nat.le_of_ble_eq_true rfl, lo_net⟩ (tN_on ha ho) ?_
  repeat (first | refine jF_step rfl trivial ?_ | refine jF_step rfl rfl ?_)
  have hm : jm_E (d + 2, 28, 0, jm_en 28 [.ref 2, .ref (166 + p)], [], false, jS L I G t) (.inl (some (.int 0)), jS L I G t, false) := by
    rcases hy with hy | ⟨y, hy8, hy, hn⟩
    · exact tN_mayN hp ha hg ea eg hy
    · rw [← hn]
      exact tN_may hp ha hg hy8 ea eg hy
  refine jF_callE rfl ⟨Nat.le_of_ble_eq_true rfl, lo_net⟩ hm ?_
  repeat (first | refine jF_step rfl trivial ?_ | refine jF_step rfl rfl ?_ | refine jF_step rfl (lo_pack hp) ?_)
  simp only [jS, jm_aft, jm_en, ea]
  exact jF_ret rfl trivial
/-- the packet p goes on to y -/
def nMove (p g y : Nat) (I : jHp) : jHp :=
  if y = g then (jm_up (jm_up (jm_up (pGo (166 + p) (nI y) (10 + 12 * y + g) I) (166 + p) 0 0) (9 + 12 * y) (I (6 + 12 * y) 4).toNatClampNeg (I (166 + p) 4)) (6 + 12 * y) 4 (I (6 + 12 * y) 4 + 1))
  else pGo (166 + p) (nI y) (10 + 12 * y + g) I
theorem up_k {α : Type} {f : Nat → Nat → α} {r j k i : Nat} {x : α} (h : k ≠ r) : jm_up f r j x k i = f k i := by
  unfold jm_up; rw [if_neg h]; exact ite_self _
theorem up_i {α : Type} {f : Nat → Nat → α} {r j k i : Nat} {x : α} (h : i ≠ j) : jm_up f r j x k i = f k i := by
  unfold jm_up; rw [if_neg h]
theorem up_s {α : Type} {f : Nat → Nat → α} {r j : Nat} {x : α} : jm_up f r j x r j = x := by
  unfold jm_up; rw [if_pos rfl, if_pos rfl]
theorem cN_move {x : Int32} {p a g y n : Nat} (hp : p < 16) (ha : a < 8) (hg : g < 8) (hy : y < 8) (hn : n ≤ 32) (ea : I (166 + p) 2 = nI a) (eg : I (166 + p) 3 = nI g) (h : nNum I x 16 0 = 166 + p) (ho : ¬ I (6 + 12 * a) 6 = 0) (ey : I (10 + 12 * a + g) 2 = nI y) (hm : ¬ nMay I p a g y = 0) (es : I (6 + 12 * y) 0 = nI y) (ew : I (6 + 12 * y) 4 = nI n) : jm_F (d + 3, 12, 0, jm_en 12 [.ref 2, .int x], [], false, jS L I G t) (.inl (some (.int (if y = g then -1 else nI y)))) (jS L (nMove p g y I) G t) := by
  unfold nMove
  repeat (first | refine jF_step rfl trivial ?_ | refine jF_step rfl rfl ?_)
  refine jF_callE rfl ⟨Nat.le_of_ble_eq_true rfl, lo_net⟩ tN_num ?_
  rw [h]
  repeat (first | refine jF_step rfl trivial ?_ | refine jF_step rfl rfl ?_)
  rw [if_neg (show ¬ 166 + p = 0 by omega)]
  repeat (first | refine jF_step rfl trivial ?_ | refine jF_step rfl rfl ?_ | refine jF_step rfl (lo_pack hp) ?_)
  simp only [jS, jm_aft, jm_en, ea]
  refine jF_callE rfl ⟨Nat.le_of_ble_eq_true rfl, lo_net⟩ (tN_on ha ho) ?_
  repeat (first | refine jF_step rfl trivial ?_ | refine jF_step rfl rfl ?_)
  refine jF_callE rfl ⟨Nat.le_of_ble_eq_true rfl, lo_net⟩ (tN_may hp ha hg hy ea eg ey) ?_
  repeat (first | refine jF_step rfl trivial ?_ | refine jF_step rfl rfl ?_)
  rw [if_neg hm]
  repeat (first | refine jF_step rfl trivial ?_ | refine jF_step rfl rfl ?_ | refine jF_step rfl lo_net ?_ | refine jF_step rfl ⟨lo_net, Or.inl rfl⟩ ?_ | refine jF_step rfl ⟨lo_net, Or.inr rfl⟩ ?_ | refine jF_step rfl (lo_pack hp) ?_)
  simp only [jS, jm_aft, jm_en, ea]
  repeat (first | refine jF_step rfl trivial ?_ | refine jF_step rfl rfl ?_ | refine jF_step rfl (la_boats ha) ?_)
  simp only [lrb ha]
  repeat (first | refine jF_step rfl trivial ?_ | refine jF_step rfl rfl ?_ | refine jF_step rfl (lo_boat ha) ?_ | refine jF_step rfl (lo_pack hp) ?_)
  simp only [eg]
  repeat (first | refine jF_step rfl trivial ?_ | refine jF_step rfl rfl ?_ | refine jF_step rfl (la_ents' ha hg) ?_)
  simp only [lre ha hg]
  repeat (first | refine jF_step rfl trivial ?_ | refine jF_step rfl rfl ?_ | refine jF_step rfl (lo_ent ha hg) ?_)
  simp only [ey]
  repeat (first | refine jF_step rfl trivial ?_ | refine jF_step rfl rfl ?_ | refine jF_step rfl (la_boats hy) ?_)
  simp only [lrb hy]
  repeat (first | refine jF_step rfl trivial ?_ | refine jF_step rfl rfl ?_ | refine jF_step rfl (lo_boat hy) ?_ | refine jF_step rfl (lo_pack hp) ?_)
  simp only [eg, es]
  repeat (first | refine jF_step rfl trivial ?_ | refine jF_step rfl rfl ?_ | refine jF_step rfl (la_ents' hy hg) ?_)
  simp only [lre hy hg]
  refine jF_callE rfl ⟨Nat.le_of_ble_eq_true rfl, lo_pack hp⟩ (tP_go (lo_pack hp) (lo_ent hy hg)) ?_
  have e2 : pGo (166 + p) (nI y) (10 + 12 * y + g) I (166 + p) 2 = nI y := by
    unfold pGo; rw [up_i (by omega), up_i (by omega), up_s]
  have e3 : pGo (166 + p) (nI y) (10 + 12 * y + g) I (166 + p) 3 = nI g := by
    unfold pGo; rw [up_i (by omega), up_i (by omega), up_i (by omega), eg]
  have e4 : pGo (166 + p) (nI y) (10 + 12 * y + g) I (166 + p) 4 = I (166 + p) 4 := by
    unfold pGo; rw [up_i (by omega), up_i (by omega), up_i (by omega)]
  have e5 : pGo (166 + p) (nI y) (10 + 12 * y + g) I (6 + 12 * y) 4 = I (6 + 12 * y) 4 := by
    unfold pGo; rw [up_i (by omega), up_i (by omega), up_i (by omega)]
  simp only [jm_aft, jm_sI, jI]
  generalize pGo (166 + p) (nI y) (10 + 12 * y + g) I = I1 at e2 e3 e4 e5 ⊢
  repeat (first | refine jF_step rfl trivial ?_ | refine jF_step rfl rfl ?_ | refine jF_step rfl (lo_pack hp) ?_)
  simp only [e2, e3]
  by_cases hyg : y = g
  · rw [if_pos (congrArg nI hyg), if_pos hyg, if_pos hyg]
    repeat (first | refine jF_step rfl trivial ?_ | refine jF_step rfl rfl ?_ | refine jF_step rfl (lo_pack hp) ?_ | refine jF_step rfl ⟨lo_pack hp, Or.inl rfl⟩ ?_ | refine jF_step rfl ⟨⟨lo_pack hp, Or.inl rfl⟩, Or.inl rfl⟩ ?_ | refine jF_step rfl ⟨⟨lo_pack hp, Or.inl rfl⟩, Or.inr rfl⟩ ?_)
    have e6 : jm_up I1 (166 + p) 0 0 (166 + p) 4 = I (166 + p) 4 := by rw [up_i (by omega), e4]
    have e7 : jm_up I1 (166 + p) 0 0 (6 + 12 * y) 4 = I (6 + 12 * y) 4 := by rw [up_i (by omega), e5]
    have e8 : nRoom I y g = 0 → nMay I p a g y = 0 := by
      intro z
      unfold nMay
      rw [z]
      simp
    have e9 : n < 32 := by
      rcases Nat.lt_or_ge n 32 with z | z
      · exact z
      · refine absurd (e8 ?_) hm
        unfold nRoom
        rw [if_pos hyg, ew, if_pos (show (32 : Int32) ≤ nI n from (by have : n = 32 := by omega
                                                                      subst this; decide))]
    simp only [jm_sI, e6]
    refine jF_call rfl ⟨Nat.le_of_ble_eq_true rfl, lo_boat hy⟩ (tB_keep0 (lo_boat hy) (fun _ => ?_)) (fun w => ?_)
    · show jm_iw (jS L (jm_up I1 (166 + p) 0 0) G t) (jR (6 + 12 * y) 3) 10 (jm_up I1 (166 + p) 0 0 (6 + 12 * y) 4)
      rw [e7, ew, lrw hy]
      exact lw (lk_words hy) (by omega) (by omega) (vp_in_nI e9 (by decide))
    · have e10 : ¬ (32 : Int32) ≤ nI n := fun z => absurd (nI_lt (b := 32) e9 (by decide)) (Int32.not_lt.mpr z)
      have e11 : jm_up (jm_up I1 (166 + p) 0 0) (9 + 12 * y) (nI n).toNatClampNeg (I (166 + p) 4) (6 + 12 * y) 4 = nI n := by
        rw [up_k (by omega), e7, ew]
      simp only [jm_aft, jm_sI, jI, e7, lrw hy, ew, if_neg e10, e11]
      repeat (first | refine jF_step rfl trivial ?_ | refine jF_step rfl rfl ?_)
      exact jF_ret rfl trivial
  · rw [if_neg (fun z => hyg ((nI_eq (by omega) (by omega)).mp z)), if_neg hyg, if_neg hyg]
    repeat (first | refine jF_step rfl trivial ?_ | refine jF_step rfl rfl ?_ | refine jF_step rfl (lo_pack hp) ?_)
    simp only [e2]
    exact jF_ret rfl trivial
end
