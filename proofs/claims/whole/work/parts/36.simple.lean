/-! runs of the small machine: the net's calls without loops -/
theorem lrb {i : Nat} (hi : i < 8) : jR (jR 2 0) (nI i).toNatClampNeg = 6 + 12 * i := by
  rw [nc8 (by omega)]; exact lr_boats hi
theorem lre {i g : Nat} (hi : i < 8) (hg : g < 8) : jR (jR (6 + 12 * i) 1) (nI g).toNatClampNeg = 10 + 12 * i + g := by
  rw [nc8 (by omega), lr_boat hi (by omega)]; exact lr_ents hi hg
theorem lrh {i : Nat} (hi : i < 8) : jR (6 + 12 * i) 2 = 8 + 12 * i := lr_boat hi (by omega)
theorem lrw {i : Nat} (hi : i < 8) : jR (6 + 12 * i) 3 = 9 + 12 * i := lr_boat hi (by omega)

section
variable {L t d : Nat} {I : jHp} {G : Nat → Nat → Int64}
theorem la_ents' {i g : Nat} (h : i < 8) (hg : g < 8) : jm_iw (jS L I G t) (jR (6 + 12 * i) 1) ((jS L I G t).2.1 (jR (6 + 12 * i) 1)).1 (nI g) ∧ 13 ≤ ((jS L I G t).2.1 (jR (6 + 12 * i) 1)).1 ∧ ((jS L I G t).2.1 (jR (6 + 12 * i) 1)).1 < 17 := by
  rw [lr_boat h (by omega)]; exact la_ents h hg
theorem lx_heard {i g : Nat} (h : i < 8) (hg : g < 8) : jm_ix (jS L I G t) (jR (6 + 12 * i) 2) 10 (nI g) := by
  rw [lrh h]; exact lx (lk_heard h) (by omega) (by omega) (vp_in_nI hg (by decide))
theorem lx_words {i k : Nat} (h : i < 8) (hk : k < 32) : jm_ix (jS L I G t) (jR (6 + 12 * i) 3) 10 (nI k) := by
  rw [lrw h]; exact lx (lk_words h) (by omega) (by omega) (vp_in_nI hk (by decide))
theorem tN_turn {i : Nat} {to : Int32} (hi : i < 8) (hto : to = 0 ∨ to = 1) : jm_F (d + 1, 23, 0, jm_en 23 [.ref 2, .int (nI i), .int to], [], false, jS L I G t) (.inl (some (.int (if I (6 + 12 * i) 6 = to then 0 else 1)))) (jS L (jm_up I (6 + 12 * i) 6 to) G t) := by
  repeat (first | refine jF_step rfl trivial ?_ | refine jF_step rfl rfl ?_)
  refine jF_callE rfl ⟨Nat.le_of_ble_eq_true rfl, Nat.le_of_ble_eq_true rfl⟩ (tN_boat hi) ?_
  repeat (first | refine jF_step rfl trivial ?_ | refine jF_step rfl rfl ?_ | refine jF_step rfl lo_net ?_ | refine jF_step rfl ⟨lo_net, Or.inl rfl⟩ ?_ | refine jF_step rfl ⟨lo_net, Or.inr rfl⟩ ?_ | refine jF_step rfl (la_boats hi) ?_)
  simp only [jS, lrb hi]
  repeat (first | refine jF_step rfl trivial ?_ | refine jF_step rfl rfl ?_ | refine jF_step rfl (lo_boat hi) ?_)
  split
  · repeat (first | refine jF_step rfl trivial ?_ | refine jF_step rfl rfl ?_ | refine jF_step rfl lo_net ?_ | refine jF_step rfl ⟨lo_net, Or.inl rfl⟩ ?_ | refine jF_step rfl ⟨lo_net, Or.inr rfl⟩ ?_ | refine jF_step rfl (la_boats hi) ?_)
    simp only [jm_aft, jm_en, lrb hi]
    repeat (first | refine jF_step rfl trivial ?_ | refine jF_step rfl rfl ?_ | refine jF_step rfl ⟨lo_boat hi, hto⟩ ?_ | refine jF_step rfl ⟨⟨lo_boat hi, hto⟩, Or.inl rfl⟩ ?_ | refine jF_step rfl ⟨⟨lo_boat hi, hto⟩, Or.inr rfl⟩ ?_)
    exact jF_ret rfl (Or.inl rfl)
  · repeat (first | refine jF_step rfl trivial ?_ | refine jF_step rfl rfl ?_ | refine jF_step rfl lo_net ?_ | refine jF_step rfl ⟨lo_net, Or.inl rfl⟩ ?_ | refine jF_step rfl ⟨lo_net, Or.inr rfl⟩ ?_ | refine jF_step rfl (la_boats hi) ?_)
    simp only [jm_aft, jm_en, lrb hi]
    repeat (first | refine jF_step rfl trivial ?_ | refine jF_step rfl rfl ?_ | refine jF_step rfl ⟨lo_boat hi, hto⟩ ?_ | refine jF_step rfl ⟨⟨lo_boat hi, hto⟩, Or.inl rfl⟩ ?_ | refine jF_step rfl ⟨⟨lo_boat hi, hto⟩, Or.inr rfl⟩ ?_)
    exact jF_ret rfl (Or.inr rfl)
theorem tN_clock : jm_F (d, 17, 0, jm_en 17 [.ref 2], [], false, jS L I G t) (.inl (some (.int (I 2 5)))) (jS L I G t) := by
  repeat (first | refine jF_step rfl trivial ?_ | refine jF_step rfl rfl ?_ | refine jF_step rfl lo_net ?_ | refine jF_step rfl ⟨lo_net, Or.inl rfl⟩ ?_ | refine jF_step rfl ⟨lo_net, Or.inr rfl⟩ ?_)
  exact jF_ret rfl trivial
end
