/-! runs of the small machine: route, got; which cast, which part, which entry -/
theorem lrc {c : Nat} (hc : c < 16) : jR (jR 2 1) (nI c).toNatClampNeg = 102 + 4 * c := by
  rw [nc8 (by omega)]; exact lr_casts hc
section
variable {L t d : Nat} {I : jHp} {G : Nat → Nat → Int64}
/-- what a route's question is answered with -/
def nRoute (I : jHp) (e k : Nat) : Int32 := match k with
  | 0 => I e 2
  | 1 => I e 1
  | 2 => I e 0
  | 3 => I e 4
  | 4 => I e 3
  | 5 => I e 6
  | _ => if I e 7 = 0 then 0 else 1
theorem cN_route {i g k : Nat} (hi : i < 8) (hg : g < 8) (hk : k < 7) : jm_F (d + 1, 9, 0, jm_en 9 [.ref 2, .int (nI i), .int (nI g), .int (nI k)], [], false, jS L I G t) (.inl (some (.int (nRoute I (10 + 12 * i + g) k)))) (jS L I G t) := by
  repeat (first | refine jF_step rfl trivial ?_ | refine jF_step rfl rfl ?_)
  refine jF_callE rfl ⟨Nat.le_of_ble_eq_true rfl, Nat.le_of_ble_eq_true rfl⟩ (tN_boat hi) ?_
  repeat (first | refine jF_step rfl trivial ?_ | refine jF_step rfl rfl ?_)
  refine jF_callE rfl ⟨Nat.le_of_ble_eq_true rfl, Nat.le_of_ble_eq_true rfl⟩ (tN_boat hg) ?_
  repeat (first | refine jF_step rfl trivial ?_ | refine jF_step rfl rfl ?_ | refine jF_step rfl lo_net ?_ | refine jF_step rfl ⟨lo_net, Or.inl rfl⟩ ?_ | refine jF_step rfl ⟨lo_net, Or.inr rfl⟩ ?_ | refine jF_step rfl (la_boats hi) ?_)
  simp only [jS, jm_aft, jm_en, lrb hi]
  repeat (first | refine jF_step rfl trivial ?_ | refine jF_step rfl rfl ?_ | refine jF_step rfl (lo_boat hi) ?_ | refine jF_step rfl (la_ents' hi hg) ?_)
  simp only [jS, lre hi hg]
  match k, hk with
  | 0, _ =>
    repeat (first | refine jF_step rfl trivial ?_ | refine jF_step rfl rfl ?_ | refine jF_step rfl (lo_ent hi hg) ?_)
    exact jF_ret rfl trivial
  | 1, _ =>
    repeat (first | refine jF_step rfl trivial ?_ | refine jF_step rfl rfl ?_ | refine jF_step rfl (lo_ent hi hg) ?_)
    exact jF_ret rfl trivial
  | 2, _ =>
    repeat (first | refine jF_step rfl trivial ?_ | refine jF_step rfl rfl ?_ | refine jF_step rfl (lo_ent hi hg) ?_)
    exact jF_ret rfl trivial
  | 3, _ =>
    repeat (first | refine jF_step rfl trivial ?_ | refine jF_step rfl rfl ?_ | refine jF_step rfl (lo_ent hi hg) ?_)
    exact jF_ret rfl trivial
  | 4, _ =>
    repeat (first | refine jF_step rfl trivial ?_ | refine jF_step rfl rfl ?_ | refine jF_step rfl (lo_ent hi hg) ?_)
    exact jF_ret rfl trivial
  | 5, _ =>
    repeat (first | refine jF_step rfl trivial ?_ | refine jF_step rfl rfl ?_ | refine jF_step rfl (lo_ent hi hg) ?_)
    exact jF_ret rfl trivial
  | 6, _ =>
    repeat (first | refine jF_step rfl trivial ?_ | refine jF_step rfl rfl ?_ | refine jF_step rfl (lo_ent hi hg) ?_)
    show jm_F _ (.inl (some (.int (if I (10 + 12 * i + g) 7 = 0 then 0 else 1)))) _
    split
    · repeat (first | refine jF_step rfl trivial ?_ | refine jF_step rfl rfl ?_)
      exact jF_ret rfl trivial
    · repeat (first | refine jF_step rfl trivial ?_ | refine jF_step rfl rfl ?_)
      exact jF_ret rfl trivial
theorem tN_kept {c : Nat} (hc : c < 2 ^ 30) : jm_E (d + 1, 24, 0, jm_en 24 [.ref 2, .int (nI c)], [], false, jS L I G t) (.inl (some (.ref (102 + 4 * (c % 16)))), jS L I G t, false) := by
  repeat (first | refine jE_step rfl trivial ?_ | refine jE_step rfl rfl ?_ | refine jE_step rfl lo_net ?_ | refine jE_step rfl ⟨lo_net, Or.inl rfl⟩ ?_ | refine jE_step rfl ⟨lo_net, Or.inr rfl⟩ ?_)
  refine jE_call rfl ⟨Nat.le_of_ble_eq_true rfl, Nat.le_of_ble_eq_true rfl⟩ (tM_mod (by decide)) ?_
  simp only [jm_aft, mMod16 hc]
  repeat (first | refine jE_step rfl trivial ?_ | refine jE_step rfl rfl ?_ | refine jE_step rfl (la_casts (Nat.mod_lt _ (by decide))) ?_)
  simp only [jS, lrc (Nat.mod_lt c (show 0 < 16 by decide))]
  exact jE_ret rfl trivial
theorem tN_needCast {x : Int32} (h1 : ¬ x < 0) (h2 : ¬ I 2 3 ≤ x) (h3 : I 2 3 - 16 ≤ x) : jm_E (d, 21, 0, jm_en 21 [.ref 2, .int x], [], false, jS L I G t) (.inl none, jS L I G t, false) := by
  repeat (first | refine jE_step rfl trivial ?_ | refine jE_step rfl rfl ?_ | refine jE_step rfl lo_net ?_ | refine jE_step rfl ⟨lo_net, Or.inl rfl⟩ ?_ | refine jE_step rfl ⟨lo_net, Or.inr rfl⟩ ?_)
  rw [if_neg h1]
  repeat (first | refine jE_step rfl trivial ?_ | refine jE_step rfl rfl ?_ | refine jE_step rfl lo_net ?_ | refine jE_step rfl ⟨lo_net, Or.inl rfl⟩ ?_ | refine jE_step rfl ⟨lo_net, Or.inr rfl⟩ ?_)
  rw [if_neg (show ¬ (jS L I G t).2.2.2.1 2 3 ≤ x from h2)]
  repeat (first | refine jE_step rfl trivial ?_ | refine jE_step rfl rfl ?_ | refine jE_step rfl lo_net ?_ | refine jE_step rfl ⟨lo_net, Or.inl rfl⟩ ?_ | refine jE_step rfl ⟨lo_net, Or.inr rfl⟩ ?_)
  rw [if_pos (show (jS L I G t).2.2.2.1 2 3 - 16 ≤ x from h3)]
  exact jE_ret rfl trivial
theorem tN_needCastX {x : Int32} (h : x < 0 ∨ I 2 3 ≤ x ∨ ¬ I 2 3 - 16 ≤ x) (hd : 6 ≤ d) : jm_E (d, 21, 0, jm_en 21 [.ref 2, .int x], [], false, jS L I G t) (.inr 0, jS L I G (t + 1), false) := by
  repeat (first | refine jE_step rfl trivial ?_ | refine jE_step rfl rfl ?_ | refine jE_step rfl lo_net ?_ | refine jE_step rfl ⟨lo_net, Or.inl rfl⟩ ?_ | refine jE_step rfl ⟨lo_net, Or.inr rfl⟩ ?_)
  by_cases h1 : x < 0
  · rw [if_pos h1]
    exact jE_ret rfl ⟨rfl, hd⟩
  rw [if_neg h1]
  repeat (first | refine jE_step rfl trivial ?_ | refine jE_step rfl rfl ?_ | refine jE_step rfl lo_net ?_ | refine jE_step rfl ⟨lo_net, Or.inl rfl⟩ ?_ | refine jE_step rfl ⟨lo_net, Or.inr rfl⟩ ?_)
  by_cases h2 : I 2 3 ≤ x
  · rw [if_pos (show (jS L I G t).2.2.2.1 2 3 ≤ x from h2)]
    exact jE_ret rfl ⟨rfl, hd⟩
  rw [if_neg (show ¬ (jS L I G t).2.2.2.1 2 3 ≤ x from h2)]
  repeat (first | refine jE_step rfl trivial ?_ | refine jE_step rfl rfl ?_ | refine jE_step rfl lo_net ?_ | refine jE_step rfl ⟨lo_net, Or.inl rfl⟩ ?_ | refine jE_step rfl ⟨lo_net, Or.inr rfl⟩ ?_)
  rw [if_neg (show ¬ (jS L I G t).2.2.2.1 2 3 - 16 ≤ x from (h.elim (fun z => absurd z h1) (fun z => z.elim (fun z => absurd z h2) id)))]
  exact jE_ret rfl ⟨rfl, hd⟩
theorem tN_needPart {c : Nat} {p : Int32} (hc : c < 2 ^ 30) (h1 : ¬ nI c < 0) (h2 : ¬ I 2 3 ≤ nI c) (h3 : I 2 3 - 16 ≤ nI c) (h4 : ¬ p < 0) (h5 : p < cParts I (102 + 4 * (c % 16))) : jm_E (d + 2, 22, 0, jm_en 22 [.ref 2, .int (nI c), .int p], [], false, jS L I G t) (.inl none, jS L I G t, false) := by
  repeat (first | refine jE_step rfl trivial ?_ | refine jE_step rfl rfl ?_)
  refine jE_call rfl ⟨Nat.le_of_ble_eq_true rfl, lo_net⟩ (tN_needCast h1 h2 h3) ?_
  repeat (first | refine jE_step rfl trivial ?_ | refine jE_step rfl rfl ?_)
  rw [if_neg h4]
  repeat (first | refine jE_step rfl trivial ?_ | refine jE_step rfl rfl ?_)
  refine jE_call rfl ⟨Nat.le_of_ble_eq_true rfl, lo_net⟩ (tN_kept hc) ?_
  refine jE_call rfl ⟨Nat.le_of_ble_eq_true rfl, lo_cast (Nat.mod_lt _ (by decide))⟩ (tC_parts (lo_cast (Nat.mod_lt _ (by decide)))) ?_
  repeat (first | refine jE_step rfl trivial ?_ | refine jE_step rfl rfl ?_)
  rw [if_pos (show p < cParts (jI (jS L I G t)) (102 + 4 * (c % 16)) from h5)]
  exact jE_ret rfl trivial
theorem tN_needPartX {c : Nat} {p : Int32} (hc : c < 2 ^ 30) (h1 : ¬ nI c < 0) (h2 : ¬ I 2 3 ≤ nI c) (h3 : I 2 3 - 16 ≤ nI c) (h4 : p < 0 ∨ ¬ p < cParts I (102 + 4 * (c % 16))) (hd : 6 ≤ d) : jm_E (d + 2, 22, 0, jm_en 22 [.ref 2, .int (nI c), .int p], [], false, jS L I G t) (.inr 0, jS L I G (t + 1), false) := by
  repeat (first | refine jE_step rfl trivial ?_ | refine jE_step rfl rfl ?_)
  refine jE_call rfl ⟨Nat.le_of_ble_eq_true rfl, lo_net⟩ (tN_needCast h1 h2 h3) ?_
  repeat (first | refine jE_step rfl trivial ?_ | refine jE_step rfl rfl ?_)
  by_cases h5 : p < 0
  · rw [if_pos h5]
    exact jE_ret rfl ⟨rfl, by omega⟩
  rw [if_neg h5]
  repeat (first | refine jE_step rfl trivial ?_ | refine jE_step rfl rfl ?_)
  refine jE_call rfl ⟨Nat.le_of_ble_eq_true rfl, lo_net⟩ (tN_kept hc) ?_
  refine jE_call rfl ⟨Nat.le_of_ble_eq_true rfl, lo_cast (Nat.mod_lt _ (by decide))⟩ (tC_parts (lo_cast (Nat.mod_lt _ (by decide)))) ?_
  repeat (first | refine jE_step rfl trivial ?_ | refine jE_step rfl rfl ?_)
  rw [if_neg (show ¬ p < cParts (jI (jS L I G t)) (102 + 4 * (c % 16)) from h4.elim (fun z => absurd z h5) id)]
  exact jE_ret rfl ⟨rfl, by omega⟩
theorem tN_needPartY {x p : Int32} (h : x < 0 ∨ I 2 3 ≤ x ∨ ¬ I 2 3 - 16 ≤ x) (hd : 6 ≤ d) : jm_E (d + 1, 22, 0, jm_en 22 [.ref 2, .int x, .int p], [], false, jS L I G t) (.inr 0, jS L I G (t + 1), false) := by
  repeat (first | refine jE_step rfl trivial ?_ | refine jE_step rfl rfl ?_)
  exact jE_thr rfl ⟨Nat.le_of_ble_eq_true rfl, lo_net⟩ (tN_needCastX h hd) rfl rfl rfl
theorem cN_parts {c : Nat} (hc : c < 2 ^ 30) (h1 : ¬ nI c < 0) (h2 : ¬ I 2 3 ≤ nI c) (h3 : I 2 3 - 16 ≤ nI c) : jm_F (d + 2, 5, 0, jm_en 5 [.ref 2, .int (nI c)], [], false, jS L I G t) (.inl (some (.int (cParts I (102 + 4 * (c % 16)))))) (jS L I G t) := by
  repeat (first | refine jF_step rfl trivial ?_ | refine jF_step rfl rfl ?_)
  refine jF_callE rfl ⟨Nat.le_of_ble_eq_true rfl, lo_net⟩ (tN_needCast h1 h2 h3) ?_
  repeat (first | refine jF_step rfl trivial ?_ | refine jF_step rfl rfl ?_)
  refine jF_callE rfl ⟨Nat.le_of_ble_eq_true rfl, lo_net⟩ (tN_kept hc) ?_
  refine jF_callE rfl ⟨Nat.le_of_ble_eq_true rfl, lo_cast (Nat.mod_lt _ (by decide))⟩ (tC_parts (lo_cast (Nat.mod_lt _ (by decide)))) ?_
  exact jF_ret rfl trivial
theorem cN_partsX {x : Int32} (h : x < 0 ∨ I 2 3 ≤ x ∨ ¬ I 2 3 - 16 ≤ x) (hd : 6 ≤ d) : jm_F (d + 1, 5, 0, jm_en 5 [.ref 2, .int x], [], false, jS L I G t) (.inr 0) (jS L I G (t + 1)) := by
  repeat (first | refine jF_step rfl trivial ?_ | refine jF_step rfl rfl ?_)
  exact jF_thr rfl ⟨Nat.le_of_ble_eq_true rfl, lo_net⟩ (tN_needCastX h hd).F rfl rfl rfl
end
