/-! runs of the small machine: the law's loop -/
theorem lsub {L : Nat} (hL : L ≤ 2560) : (nI L - 5).toInt = (L : Int) - 5 := by
  have e5 : (-5 : Int32).toInt = -5 := rfl
  rw [Int32.sub_eq_add_neg, ti_add (by rw [nI_toInt (by omega), e5]; omega) (by rw [nI_toInt (by omega), e5]; omega), nI_toInt (by omega), e5]
  omega
theorem lw_cond5 {L i : Nat} (hL : L ≤ 2560) (hi : i ≤ 2565) : nI L - 5 < nI i ↔ L < i + 5 := by
  rw [Int32.lt_iff_toInt_lt, lsub hL, nI_toInt (by omega)]; omega
set_option maxRecDepth 100000 in
theorem law_loop {L : Nat} (hL : L ≤ 2560) : ∀ r n (I : jHp) (G : Nat → Nat → Int64) (t : Nat) (k b : Option Value) (w : Bool), L < 5 * (n + r) + 5 → n ≤ 512 → t ≤ n → Rel n I → jw_Q (12, 101, 23, [some (.ref 1), some (.ref 2), some (.ref 182), some (.ref 209), some (.int (nI (5 * n))), k, b], [], w, jS L I G t) := by
  intro r
  have last : ∀ n (I : jHp) (G : Nat → Nat → Int64) (t : Nat) (k b : Option Value) (w : Bool), L < 5 * n + 5 → n ≤ 512 → t ≤ n → jw_Q (12, 101, 23, [some (.ref 1), some (.ref 2), some (.ref 182), some (.ref 209), some (.int (nI (5 * n))), k, b], [], w, jS L I G t) := by
    intro n I G t k b w h1 h2 h3
    repeat (first | refine jQ_step rfl trivial ?_ | refine jQ_step rfl rfl ?_ | refine jQ_step rfl (Or.inl rfl) ?_)
    rw [if_pos (show Int32.ofNat ((jS L I G t).2.1 1).2 - 5 < nI (5 * n) from (lw_cond5 hL (by omega)).mpr h1)]
    iterate 1 (first | refine jQ_step rfl trivial ?_ | refine jQ_step rfl rfl ?_)
    refine ⟨jS L I G t, jF_ret rfl (Or.inr rfl), ?_, ?_⟩
    · show 208 + t ≤ 601024; omega
    · show 3165 + 6 * t ≤ 7293034; omega
  induction r with
  | zero => intro n I G t k b w h1 h2 h3 _; exact last n I G t k b w (by omega) h2 h3
  | succ r ih =>
    intro n I G t k b w h1 h2 h3 hR
    by_cases hl : L < 5 * n + 5
    · exact last n I G t k b w hl h2 h3
    have fin : ∀ (I' : jHp) (G' : Nat → Nat → Int64) (t' : Nat) (k' b' : Option Value) (w' : Bool), Rel (n + 1) I' → (∀ j, I' 1 j = I 1 j) → t' ≤ t + 1 → jw_Q (12, 101, 1254, [some (.ref 1), some (.ref 2), some (.ref 182), some (.ref 209), some (.int (nI (5 * n))), k', b'], [], w', jS L I' G' t') := by
      intro I' G' t' k' b' w' hR' _ ht'
      iterate 2 (first | refine jQ_step rfl trivial ?_ | refine jQ_step rfl rfl ?_)
      have e : nI (5 * n) + 5 = nI (5 * (n + 1)) := by rw [show (5 : Int32) = nI 5 from rfl, nI_add]; rfl
      refine jQ_to ?_ (ih (n + 1) I' G' t' k' b' w' (by omega) (by omega) (by omega) hR')
      rw [← e]
      rfl
    have hi : 5 * n + 5 ≤ L := by omega
    have hN : n ≤ 512 := h2
    repeat (first | refine jQ_step rfl trivial ?_ | refine jQ_step rfl rfl ?_ | refine jQ_step rfl (Or.inl rfl) ?_)
    rw [if_neg (show ¬ Int32.ofNat ((jS L I G t).2.1 1).2 - 5 < nI (5 * n) from fun e => hl ((lw_cond5 hL (by omega)).mp e))]
    repeat (first | refine jQ_step rfl trivial ?_ | refine jQ_step rfl rfl ?_ | refine jQ_step rfl (show jm_ix (jS L I G t) 1 10 (nI (5 * n)) from ⟨Or.inl rfl, rfl, vp_in_nI (n := 5 * n) (N := L) (by omega) (by omega)⟩) ?_)
    generalize (jS L I G t).2.2.2.1 1 (nI (5 * n)).toNatClampNeg &&& 31 = x
    by_cases hx : x.toInt < 0 ∨ 16 < x.toInt
    · rw [if_pos hx]
      exact fin _ _ _ _ _ _ (Rel_m hR (by omega)) (fun _ => rfl) (Nat.le_succ t)
    · rw [if_neg hx]
      obtain ⟨m, hm, em⟩ : ∃ m, m < 17 ∧ (x.toInt - 0).toNat = m := ⟨_, by omega, rfl⟩
      rw [em]
      match m, hm with
      | 0, _ => exact law_on hL hi hN hR fin
      | 1, _ => exact law_off hL hi hN hR fin
      | 2, _ => exact law_link hL hi hN hR fin
      | 3, _ => exact law_cast hL hi hN hR fin
      | 4, _ => exact law_parts hL hi hN hR fin
      | 5, _ => exact law_entry hL hi hN hR fin
      | 6, _ => exact law_hear hL hi hN hR fin
      | 7, _ => exact law_tick hN hR fin
      | 8, _ => exact law_route hL hi hN hR fin
      | 9, _ => exact law_two hL hi hN hR fin
      | 10, _ => exact law_send hL hi hN hR fin
      | 11, _ => exact law_move hL hi hN hR fin
      | 12, _ => exact law_waiting hL hi hN hR fin
      | 13, _ => exact law_got hL hi hN hR fin
      | 14, _ => exact law_circle hL hi hN hR fin
      | 15, _ => exact law_best hL hi hN hR fin
      | 16, _ => exact law_clock hN hR fin
      | m + 17, h => exact absurd h (by omega)
