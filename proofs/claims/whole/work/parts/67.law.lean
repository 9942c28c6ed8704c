/-! runs of the small machine: the law -/
def jw_Q (c : jm_Cf) : Prop := ∃ σ, jm_F c (.inl (some (.int 1))) σ ∧ jm_nc σ ≤ 601024 ∧ jm_ns σ ≤ 7293034
theorem jQ_step {c c' : jm_Cf} {q : Prop} (h : jm_step c = some (c', q)) (hq : q) (k : jw_Q c') : jw_Q c := by
  obtain ⟨σ, k, b⟩ := k
  exact ⟨σ, jF_step h hq k, b⟩
theorem jQ_call {c a : jm_Cf} {nx : Nat} {rest : List Value} {q : Prop} {v : Option Value} {σ : jm_S} (h : jm_call c = some (a, nx, rest, q)) (hq : q) (ka : jm_F a (.inl v) σ) (k : ∀ w, jw_Q (jm_aft c nx rest v σ w)) : jw_Q c := by
  obtain ⟨w, ka⟩ := ka
  obtain ⟨σ1, ⟨w1, k⟩, b⟩ := k w
  exact ⟨σ1, ⟨w1, jE_call h hq ka k⟩, b⟩
theorem jQ_to {c c' : jm_Cf} (he : c = c') (h : jw_Q c') : jw_Q c := he ▸ h
theorem lsx {L i c t : Nat} {I : jHp} {G : Nat → Nat → Int64} {x : Int32} (hL : L ≤ 2560) (hi : i + 5 ≤ L) (hc : c < 5) (hx : x = nI c) : jm_ix (jS L I G t) 1 10 (nI i + x) := by
  rw [hx, nI_add]
  exact ⟨Or.inl rfl, rfl, vp_in_nI (n := i + c) (N := L) (by omega) (by omega)⟩
theorem lg_0 {x y : Int64} (h : x = y) : lg_cmp x y = 0 := by
  subst h
  unfold lg_cmp
  rw [if_neg (Int64.lt_irrefl), if_pos rfl]
section
variable {L N i t : Nat} {I : jHp} {G : Nat → Nat → Int64} {k b : Option Value} {w : Bool}
set_option maxRecDepth 100000 in
theorem law_on (hL : L ≤ 2560) (hi : i + 5 ≤ L) (hN : N ≤ 512) (hR : Rel N I) (fin : ∀ I' G' t' k' b' w', Rel (N + 1) I' → (∀ j, I' 1 j = I 1 j) → t' ≤ t + 1 → jw_Q (12, 101, 1254, [some (.ref 1), some (.ref 2), some (.ref 182), some (.ref 209), some (.int (nI i)), k', b'], [], w', jS L I' G' t')) : jw_Q (12, 101, 120, [some (.ref 1), some (.ref 2), some (.ref 182), some (.ref 209), some (.int (nI i)), k, b], [], w, jS L I G t) := by
  repeat (first | refine jQ_step rfl trivial ?_ | refine jQ_step rfl rfl ?_ | refine jQ_step rfl (lsx hL hi (by omega) (show (1 : Int32) = nI 1 from rfl)) ?_)
  repeat (first | refine jQ_step rfl trivial ?_ | refine jQ_step rfl rfl ?_)
  obtain ⟨kk, bb, I1, I2, G1, t1, h1, h2, hc, hy, ht, hR', hs, hs1⟩ := op_on (L := L) (t := t) (G := G) (x := I 1 (nI i + 1).toNatClampNeg) hR
  refine jQ_call rfl ⟨Nat.le_of_ble_eq_true rfl, Nat.le_of_ble_eq_true rfl⟩ h1 (fun w1 => ?_)
  simp only [← hs1] at h2
  repeat (first | refine jQ_step rfl trivial ?_ | refine jQ_step rfl rfl ?_ | refine jQ_step rfl (lsx hL hi (by omega) (show (1 : Int32) = nI 1 from rfl)) ?_)
  refine jQ_call rfl ⟨Nat.le_of_ble_eq_true rfl, lo_mod⟩ h2 (fun w2 => ?_)
  repeat (first | refine jQ_step rfl trivial ?_ | refine jQ_step rfl rfl ?_)
  refine jQ_call rfl ⟨Nat.le_of_ble_eq_true rfl, lo_mod⟩ mT_thrown.F (fun w3 => ?_)
  repeat (first | refine jQ_step rfl trivial ?_ | refine jQ_step rfl rfl ?_)
  rw [if_pos hc]
  repeat (first | refine jQ_step rfl trivial ?_ | refine jQ_step rfl rfl ?_)
  by_cases hk : kk = 0
  · rw [if_pos hk]
    repeat (first | refine jQ_step rfl trivial ?_ | refine jQ_step rfl rfl ?_ | refine jQ_step rfl mw_out ?_ | refine jQ_step rfl ⟨mw_out, Or.inl rfl⟩ ?_ | refine jQ_step rfl ⟨mw_out, Or.inr rfl⟩ ?_)
    by_cases hb : bb = 0
    · rw [if_pos hb]
      repeat (first | refine jQ_step rfl trivial ?_ | refine jQ_step rfl rfl ?_)
      split
      · iterate 1 (first | refine jQ_step rfl trivial ?_ | refine jQ_step rfl rfl ?_)
        exact fin _ _ _ _ _ _ hR' hs ht
      · rename_i hne
        exact absurd (lg_0 ((hy hk).trans (if_pos hb))) hne
    · rw [if_neg hb]
      repeat (first | refine jQ_step rfl trivial ?_ | refine jQ_step rfl rfl ?_)
      split
      · iterate 1 (first | refine jQ_step rfl trivial ?_ | refine jQ_step rfl rfl ?_)
        exact fin _ _ _ _ _ _ hR' hs ht
      · rename_i hne
        exact absurd (lg_0 ((hy hk).trans (if_neg hb))) hne
  · rw [if_neg hk]
    iterate 1 (first | refine jQ_step rfl trivial ?_ | refine jQ_step rfl rfl ?_)
    exact fin _ _ _ _ _ _ hR' hs ht
set_option maxRecDepth 100000 in
theorem law_off (hL : L ≤ 2560) (hi : i + 5 ≤ L) (hN : N ≤ 512) (hR : Rel N I) (fin : ∀ I' G' t' k' b' w', Rel (N + 1) I' → (∀ j, I' 1 j = I 1 j) → t' ≤ t + 1 → jw_Q (12, 101, 1254, [some (.ref 1), some (.ref 2), some (.ref 182), some (.ref 209), some (.int (nI i)), k', b'], [], w', jS L I' G' t')) : jw_Q (12, 101, 183, [some (.ref 1), some (.ref 2), some (.ref 182), some (.ref 209), some (.int (nI i)), k, b], [], w, jS L I G t) := by
  repeat (first | refine jQ_step rfl trivial ?_ | refine jQ_step rfl rfl ?_ | refine jQ_step rfl (lsx hL hi (by omega) (show (1 : Int32) = nI 1 from rfl)) ?_)
  repeat (first | refine jQ_step rfl trivial ?_ | refine jQ_step rfl rfl ?_)
  obtain ⟨kk, bb, I1, I2, G1, t1, h1, h2, hc, hy, ht, hR', hs, hs1⟩ := op_off (L := L) (t := t) (G := G) (x := I 1 (nI i + 1).toNatClampNeg) hR
  refine jQ_call rfl ⟨Nat.le_of_ble_eq_true rfl, Nat.le_of_ble_eq_true rfl⟩ h1 (fun w1 => ?_)
  simp only [← hs1] at h2
  repeat (first | refine jQ_step rfl trivial ?_ | refine jQ_step rfl rfl ?_ | refine jQ_step rfl (lsx hL hi (by omega) (show (1 : Int32) = nI 1 from rfl)) ?_)
  refine jQ_call rfl ⟨Nat.le_of_ble_eq_true rfl, lo_mod⟩ h2 (fun w2 => ?_)
  repeat (first | refine jQ_step rfl trivial ?_ | refine jQ_step rfl rfl ?_)
  refine jQ_call rfl ⟨Nat.le_of_ble_eq_true rfl, lo_mod⟩ mT_thrown.F (fun w3 => ?_)
  repeat (first | refine jQ_step rfl trivial ?_ | refine jQ_step rfl rfl ?_)
  rw [if_pos hc]
  repeat (first | refine jQ_step rfl trivial ?_ | refine jQ_step rfl rfl ?_)
  by_cases hk : kk = 0
  · rw [if_pos hk]
    repeat (first | refine jQ_step rfl trivial ?_ | refine jQ_step rfl rfl ?_ | refine jQ_step rfl mw_out ?_ | refine jQ_step rfl ⟨mw_out, Or.inl rfl⟩ ?_ | refine jQ_step rfl ⟨mw_out, Or.inr rfl⟩ ?_)
    by_cases hb : bb = 0
    · rw [if_pos hb]
      repeat (first | refine jQ_step rfl trivial ?_ | refine jQ_step rfl rfl ?_)
      split
      · iterate 1 (first | refine jQ_step rfl trivial ?_ | refine jQ_step rfl rfl ?_)
        exact fin _ _ _ _ _ _ hR' hs ht
      · rename_i hne
        exact absurd (lg_0 ((hy hk).trans (if_pos hb))) hne
    · rw [if_neg hb]
      repeat (first | refine jQ_step rfl trivial ?_ | refine jQ_step rfl rfl ?_)
      split
      · iterate 1 (first | refine jQ_step rfl trivial ?_ | refine jQ_step rfl rfl ?_)
        exact fin _ _ _ _ _ _ hR' hs ht
      · rename_i hne
        exact absurd (lg_0 ((hy hk).trans (if_neg hb))) hne
  · rw [if_neg hk]
    iterate 1 (first | refine jQ_step rfl trivial ?_ | refine jQ_step rfl rfl ?_)
    exact fin _ _ _ _ _ _ hR' hs ht
set_option maxRecDepth 100000 in
theorem law_link (hL : L ≤ 2560) (hi : i + 5 ≤ L) (hN : N ≤ 512) (hR : Rel N I) (fin : ∀ I' G' t' k' b' w', Rel (N + 1) I' → (∀ j, I' 1 j = I 1 j) → t' ≤ t + 1 → jw_Q (12, 101, 1254, [some (.ref 1), some (.ref 2), some (.ref 182), some (.ref 209), some (.int (nI i)), k', b'], [], w', jS L I' G' t')) : jw_Q (12, 101, 246, [some (.ref 1), some (.ref 2), some (.ref 182), some (.ref 209), some (.int (nI i)), k, b], [], w, jS L I G t) := by
  repeat (first | refine jQ_step rfl trivial ?_ | refine jQ_step rfl rfl ?_ | refine jQ_step rfl (lsx hL hi (by omega) (show (1 : Int32) = nI 1 from rfl)) ?_ | refine jQ_step rfl (lsx hL hi (by omega) (show (2 : Int32) = nI 2 from rfl)) ?_ | refine jQ_step rfl (lsx hL hi (by omega) (show (3 : Int32) = nI 3 from rfl)) ?_)
  by_cases hz : (jS L I G t).2.2.2.1 1 (nI i + 3).toNatClampNeg = 0
  · rw [if_pos hz]
    repeat (first | refine jQ_step rfl trivial ?_ | refine jQ_step rfl rfl ?_)
    obtain ⟨kk, bb, I1, I2, G1, t1, h1, h2, hc, hy, ht, hR', hs, hs1⟩ := op_link (L := L) (t := t) (G := G) (x := I 1 (nI i + 1).toNatClampNeg) (y := I 1 (nI i + 2).toNatClampNeg) (to := 0) (Or.inl rfl) hR
    refine jQ_call rfl ⟨Nat.le_of_ble_eq_true rfl, Nat.le_of_ble_eq_true rfl⟩ h1 (fun w1 => ?_)
    simp only [← hs1] at h2
    repeat (first | refine jQ_step rfl trivial ?_ | refine jQ_step rfl rfl ?_ | refine jQ_step rfl (lsx hL hi (by omega) (show (1 : Int32) = nI 1 from rfl)) ?_ | refine jQ_step rfl (lsx hL hi (by omega) (show (2 : Int32) = nI 2 from rfl)) ?_ | refine jQ_step rfl (lsx hL hi (by omega) (show (3 : Int32) = nI 3 from rfl)) ?_)
    rw [if_pos (show (jS L I1 G1 t1).2.2.2.1 1 (nI i + 3).toNatClampNeg = 0 from (hs1 _).trans hz)]
    repeat (first | refine jQ_step rfl trivial ?_ | refine jQ_step rfl rfl ?_)
    refine jQ_call rfl ⟨Nat.le_of_ble_eq_true rfl, lo_mod⟩ h2 (fun w2 => ?_)
    repeat (first | refine jQ_step rfl trivial ?_ | refine jQ_step rfl rfl ?_)
    refine jQ_call rfl ⟨Nat.le_of_ble_eq_true rfl, lo_mod⟩ mT_thrown.F (fun w3 => ?_)
    repeat (first | refine jQ_step rfl trivial ?_ | refine jQ_step rfl rfl ?_)
    rw [if_pos hc]
    repeat (first | refine jQ_step rfl trivial ?_ | refine jQ_step rfl rfl ?_)
    by_cases hk : kk = 0
    · rw [if_pos hk]
      repeat (first | refine jQ_step rfl trivial ?_ | refine jQ_step rfl rfl ?_ | refine jQ_step rfl mw_out ?_ | refine jQ_step rfl ⟨mw_out, Or.inl rfl⟩ ?_ | refine jQ_step rfl ⟨mw_out, Or.inr rfl⟩ ?_)
      by_cases hb : bb = 0
      · rw [if_pos hb]
        repeat (first | refine jQ_step rfl trivial ?_ | refine jQ_step rfl rfl ?_)
        split
        · iterate 1 (first | refine jQ_step rfl trivial ?_ | refine jQ_step rfl rfl ?_)
          exact fin _ _ _ _ _ _ hR' hs ht
        · rename_i hne
          exact absurd (lg_0 ((hy hk).trans (if_pos hb))) hne
      · rw [if_neg hb]
        repeat (first | refine jQ_step rfl trivial ?_ | refine jQ_step rfl rfl ?_)
        split
        · iterate 1 (first | refine jQ_step rfl trivial ?_ | refine jQ_step rfl rfl ?_)
          exact fin _ _ _ _ _ _ hR' hs ht
        · rename_i hne
          exact absurd (lg_0 ((hy hk).trans (if_neg hb))) hne
    · rw [if_neg hk]
      iterate 1 (first | refine jQ_step rfl trivial ?_ | refine jQ_step rfl rfl ?_)
      exact fin _ _ _ _ _ _ hR' hs ht
  · rw [if_neg hz]
    repeat (first | refine jQ_step rfl trivial ?_ | refine jQ_step rfl rfl ?_)
    obtain ⟨kk, bb, I1, I2, G1, t1, h1, h2, hc, hy, ht, hR', hs, hs1⟩ := op_link (L := L) (t := t) (G := G) (x := I 1 (nI i + 1).toNatClampNeg) (y := I 1 (nI i + 2).toNatClampNeg) (to := 1) (Or.inr rfl) hR
    refine jQ_call rfl ⟨Nat.le_of_ble_eq_true rfl, Nat.le_of_ble_eq_true rfl⟩ h1 (fun w1 => ?_)
    simp only [← hs1] at h2
    repeat (first | refine jQ_step rfl trivial ?_ | refine jQ_step rfl rfl ?_ | refine jQ_step rfl (lsx hL hi (by omega) (show (1 : Int32) = nI 1 from rfl)) ?_ | refine jQ_step rfl (lsx hL hi (by omega) (show (2 : Int32) = nI 2 from rfl)) ?_ | refine jQ_step rfl (lsx hL hi (by omega) (show (3 : Int32) = nI 3 from rfl)) ?_)
    rw [if_neg (show ¬ (jS L I1 G1 t1).2.2.2.1 1 (nI i + 3).toNatClampNeg = 0 from fun e => hz ((hs1 _).symm.trans e))]
    repeat (first | refine jQ_step rfl trivial ?_ | refine jQ_step rfl rfl ?_)
    refine jQ_call rfl ⟨Nat.le_of_ble_eq_true rfl, lo_mod⟩ h2 (fun w2 => ?_)
    repeat (first | refine jQ_step rfl trivial ?_ | refine jQ_step rfl rfl ?_)
    refine jQ_call rfl ⟨Nat.le_of_ble_eq_true rfl, lo_mod⟩ mT_thrown.F (fun w3 => ?_)
    repeat (first | refine jQ_step rfl trivial ?_ | refine jQ_step rfl rfl ?_)
    rw [if_pos hc]
    repeat (first | refine jQ_step rfl trivial ?_ | refine jQ_step rfl rfl ?_)
    by_cases hk : kk = 0
    · rw [if_pos hk]
      repeat (first | refine jQ_step rfl trivial ?_ | refine jQ_step rfl rfl ?_ | refine jQ_step rfl mw_out ?_ | refine jQ_step rfl ⟨mw_out, Or.inl rfl⟩ ?_ | refine jQ_step rfl ⟨mw_out, Or.inr rfl⟩ ?_)
      by_cases hb : bb = 0
      · rw [if_pos hb]
        repeat (first | refine jQ_step rfl trivial ?_ | refine jQ_step rfl rfl ?_)
        split
        · iterate 1 (first | refine jQ_step rfl trivial ?_ | refine jQ_step rfl rfl ?_)
          exact fin _ _ _ _ _ _ hR' hs ht
        · rename_i hne
          exact absurd (lg_0 ((hy hk).trans (if_pos hb))) hne
      · rw [if_neg hb]
        repeat (first | refine jQ_step rfl trivial ?_ | refine jQ_step rfl rfl ?_)
        split
        · iterate 1 (first | refine jQ_step rfl trivial ?_ | refine jQ_step rfl rfl ?_)
          exact fin _ _ _ _ _ _ hR' hs ht
        · rename_i hne
          exact absurd (lg_0 ((hy hk).trans (if_neg hb))) hne
    · rw [if_neg hk]
      iterate 1 (first | refine jQ_step rfl trivial ?_ | refine jQ_step rfl rfl ?_)
      exact fin _ _ _ _ _ _ hR' hs ht
set_option maxRecDepth 100000 in
theorem law_cast (hL : L ≤ 2560) (hi : i + 5 ≤ L) (hN : N ≤ 512) (hR : Rel N I) (fin : ∀ I' G' t' k' b' w', Rel (N + 1) I' → (∀ j, I' 1 j = I 1 j) → t' ≤ t + 1 → jw_Q (12, 101, 1254, [some (.ref 1), some (.ref 2), some (.ref 182), some (.ref 209), some (.int (nI i)), k', b'], [], w', jS L I' G' t')) : jw_Q (12, 101, 349, [some (.ref 1), some (.ref 2), some (.ref 182), some (.ref 209), some (.int (nI i)), k, b], [], w, jS L I G t) := by
  repeat (first | refine jQ_step rfl trivial ?_ | refine jQ_step rfl rfl ?_ | refine jQ_step rfl (lsx hL hi (by omega) (show (1 : Int32) = nI 1 from rfl)) ?_ | refine jQ_step rfl (lsx hL hi (by omega) (show (2 : Int32) = nI 2 from rfl)) ?_)
  by_cases hz : (jS L I G t).2.2.2.1 1 (nI i + 2).toNatClampNeg = 0
  · rw [if_pos hz]
    repeat (first | refine jQ_step rfl trivial ?_ | refine jQ_step rfl rfl ?_)
    obtain ⟨kk, bb, I1, I2, G1, t1, h1, h2, hc, hy, ht, hR', hs, hs1⟩ := op_cast (L := L) (t := t) (G := G) (x := I 1 (nI i + 1).toNatClampNeg) (full := 0) hN hR
    refine jQ_call rfl ⟨Nat.le_of_ble_eq_true rfl, Nat.le_of_ble_eq_true rfl⟩ h1 (fun w1 => ?_)
    simp only [← hs1] at h2
    repeat (first | refine jQ_step rfl trivial ?_ | refine jQ_step rfl rfl ?_ | refine jQ_step rfl (lsx hL hi (by omega) (show (1 : Int32) = nI 1 from rfl)) ?_ | refine jQ_step rfl (lsx hL hi (by omega) (show (2 : Int32) = nI 2 from rfl)) ?_)
    rw [if_pos (show (jS L I1 G1 t1).2.2.2.1 1 (nI i + 2).toNatClampNeg = 0 from (hs1 _).trans hz)]
    repeat (first | refine jQ_step rfl trivial ?_ | refine jQ_step rfl rfl ?_)
    refine jQ_call rfl ⟨Nat.le_of_ble_eq_true rfl, lo_mod⟩ h2 (fun w2 => ?_)
    repeat (first | refine jQ_step rfl trivial ?_ | refine jQ_step rfl rfl ?_)
    refine jQ_call rfl ⟨Nat.le_of_ble_eq_true rfl, lo_mod⟩ mT_thrown.F (fun w3 => ?_)
    repeat (first | refine jQ_step rfl trivial ?_ | refine jQ_step rfl rfl ?_)
    rw [if_pos hc]
    repeat (first | refine jQ_step rfl trivial ?_ | refine jQ_step rfl rfl ?_)
    by_cases hk : kk = 0
    · rw [if_pos hk]
      repeat (first | refine jQ_step rfl trivial ?_ | refine jQ_step rfl rfl ?_ | refine jQ_step rfl mw_out ?_ | refine jQ_step rfl ⟨mw_out, Or.inl rfl⟩ ?_ | refine jQ_step rfl ⟨mw_out, Or.inr rfl⟩ ?_)
      split
      · iterate 1 (first | refine jQ_step rfl trivial ?_ | refine jQ_step rfl rfl ?_)
        exact fin _ _ _ _ _ _ hR' hs ht
      · rename_i hne
        exact absurd (lg_0 (hy hk)) hne
    · rw [if_neg hk]
      iterate 1 (first | refine jQ_step rfl trivial ?_ | refine jQ_step rfl rfl ?_)
      exact fin _ _ _ _ _ _ hR' hs ht
  · rw [if_neg hz]
    repeat (first | refine jQ_step rfl trivial ?_ | refine jQ_step rfl rfl ?_)
    obtain ⟨kk, bb, I1, I2, G1, t1, h1, h2, hc, hy, ht, hR', hs, hs1⟩ := op_cast (L := L) (t := t) (G := G) (x := I 1 (nI i + 1).toNatClampNeg) (full := 1) hN hR
    refine jQ_call rfl ⟨Nat.le_of_ble_eq_true rfl, Nat.le_of_ble_eq_true rfl⟩ h1 (fun w1 => ?_)
    simp only [← hs1] at h2
    repeat (first | refine jQ_step rfl trivial ?_ | refine jQ_step rfl rfl ?_ | refine jQ_step rfl (lsx hL hi (by omega) (show (1 : Int32) = nI 1 from rfl)) ?_ | refine jQ_step rfl (lsx hL hi (by omega) (show (2 : Int32) = nI 2 from rfl)) ?_)
    rw [if_neg (show ¬ (jS L I1 G1 t1).2.2.2.1 1 (nI i + 2).toNatClampNeg = 0 from fun e => hz ((hs1 _).symm.trans e))]
    repeat (first | refine jQ_step rfl trivial ?_ | refine jQ_step rfl rfl ?_)
    refine jQ_call rfl ⟨Nat.le_of_ble_eq_true rfl, lo_mod⟩ h2 (fun w2 => ?_)
    repeat (first | refine jQ_step rfl trivial ?_ | refine jQ_step rfl rfl ?_)
    refine jQ_call rfl ⟨Nat.le_of_ble_eq_true rfl, lo_mod⟩ mT_thrown.F (fun w3 => ?_)
    repeat (first | refine jQ_step rfl trivial ?_ | refine jQ_step rfl rfl ?_)
    rw [if_pos hc]
    repeat (first | refine jQ_step rfl trivial ?_ | refine jQ_step rfl rfl ?_)
    by_cases hk : kk = 0
    · rw [if_pos hk]
      repeat (first | refine jQ_step rfl trivial ?_ | refine jQ_step rfl rfl ?_ | refine jQ_step rfl mw_out ?_ | refine jQ_step rfl ⟨mw_out, Or.inl rfl⟩ ?_ | refine jQ_step rfl ⟨mw_out, Or.inr rfl⟩ ?_)
      split
      · iterate 1 (first | refine jQ_step rfl trivial ?_ | refine jQ_step rfl rfl ?_)
        exact fin _ _ _ _ _ _ hR' hs ht
      · rename_i hne
        exact absurd (lg_0 (hy hk)) hne
    · rw [if_neg hk]
      iterate 1 (first | refine jQ_step rfl trivial ?_ | refine jQ_step rfl rfl ?_)
      exact fin _ _ _ _ _ _ hR' hs ht
set_option maxRecDepth 100000 in
theorem law_parts (hL : L ≤ 2560) (hi : i + 5 ≤ L) (hN : N ≤ 512) (hR : Rel N I) (fin : ∀ I' G' t' k' b' w', Rel (N + 1) I' → (∀ j, I' 1 j = I 1 j) → t' ≤ t + 1 → jw_Q (12, 101, 1254, [some (.ref 1), some (.ref 2), some (.ref 182), some (.ref 209), some (.int (nI i)), k', b'], [], w', jS L I' G' t')) : jw_Q (12, 101, 433, [some (.ref 1), some (.ref 2), some (.ref 182), some (.ref 209), some (.int (nI i)), k, b], [], w, jS L I G t) := by
  repeat (first | refine jQ_step rfl trivial ?_ | refine jQ_step rfl rfl ?_ | refine jQ_step rfl (lsx hL hi (by omega) (show (1 : Int32) = nI 1 from rfl)) ?_)
  repeat (first | refine jQ_step rfl trivial ?_ | refine jQ_step rfl rfl ?_)
  obtain ⟨kk, bb, I1, I2, G1, t1, h1, h2, hc, hy, ht, hR', hs, hs1⟩ := op_parts (L := L) (t := t) (G := G) (x := I 1 (nI i + 1).toNatClampNeg) hN hR
  refine jQ_call rfl ⟨Nat.le_of_ble_eq_true rfl, Nat.le_of_ble_eq_true rfl⟩ h1 (fun w1 => ?_)
  simp only [← hs1] at h2
  repeat (first | refine jQ_step rfl trivial ?_ | refine jQ_step rfl rfl ?_ | refine jQ_step rfl (lsx hL hi (by omega) (show (1 : Int32) = nI 1 from rfl)) ?_)
  refine jQ_call rfl ⟨Nat.le_of_ble_eq_true rfl, lo_mod⟩ h2 (fun w2 => ?_)
  repeat (first | refine jQ_step rfl trivial ?_ | refine jQ_step rfl rfl ?_)
  refine jQ_call rfl ⟨Nat.le_of_ble_eq_true rfl, lo_mod⟩ mT_thrown.F (fun w3 => ?_)
  repeat (first | refine jQ_step rfl trivial ?_ | refine jQ_step rfl rfl ?_)
  rw [if_pos hc]
  repeat (first | refine jQ_step rfl trivial ?_ | refine jQ_step rfl rfl ?_)
  by_cases hk : kk = 0
  · rw [if_pos hk]
    repeat (first | refine jQ_step rfl trivial ?_ | refine jQ_step rfl rfl ?_ | refine jQ_step rfl mw_out ?_ | refine jQ_step rfl ⟨mw_out, Or.inl rfl⟩ ?_ | refine jQ_step rfl ⟨mw_out, Or.inr rfl⟩ ?_)
    split
    · iterate 1 (first | refine jQ_step rfl trivial ?_ | refine jQ_step rfl rfl ?_)
      exact fin _ _ _ _ _ _ hR' hs ht
    · rename_i hne
      exact absurd (lg_0 (hy hk)) hne
  · rw [if_neg hk]
    iterate 1 (first | refine jQ_step rfl trivial ?_ | refine jQ_step rfl rfl ?_)
    exact fin _ _ _ _ _ _ hR' hs ht
set_option maxRecDepth 100000 in
theorem law_entry (hL : L ≤ 2560) (hi : i + 5 ≤ L) (hN : N ≤ 512) (hR : Rel N I) (fin : ∀ I' G' t' k' b' w', Rel (N + 1) I' → (∀ j, I' 1 j = I 1 j) → t' ≤ t + 1 → jw_Q (12, 101, 1254, [some (.ref 1), some (.ref 2), some (.ref 182), some (.ref 209), some (.int (nI i)), k', b'], [], w', jS L I' G' t')) : jw_Q (12, 101, 489, [some (.ref 1), some (.ref 2), some (.ref 182), some (.ref 209), some (.int (nI i)), k, b], [], w, jS L I G t) := by
  repeat (first | refine jQ_step rfl trivial ?_ | refine jQ_step rfl rfl ?_ | refine jQ_step rfl (lsx hL hi (by omega) (show (1 : Int32) = nI 1 from rfl)) ?_ | refine jQ_step rfl (lsx hL hi (by omega) (show (2 : Int32) = nI 2 from rfl)) ?_ | refine jQ_step rfl (lsx hL hi (by omega) (show (3 : Int32) = nI 3 from rfl)) ?_ | refine jQ_step rfl (lsx hL hi (by omega) (show (4 : Int32) = nI 4 from rfl)) ?_)
  repeat (first | refine jQ_step rfl trivial ?_ | refine jQ_step rfl rfl ?_)
  obtain ⟨kk, bb, I1, I2, G1, t1, h1, h2, hc, hy, ht, hR', hs, hs1⟩ := op_entry (L := L) (t := t) (G := G) (x := I 1 (nI i + 1).toNatClampNeg) (p := I 1 (nI i + 2).toNatClampNeg) (j := I 1 (nI i + 3).toNatClampNeg) (k := I 1 (nI i + 4).toNatClampNeg) hN hR
  refine jQ_call rfl ⟨Nat.le_of_ble_eq_true rfl, Nat.le_of_ble_eq_true rfl⟩ h1 (fun w1 => ?_)
  simp only [← hs1] at h2
  repeat (first | refine jQ_step rfl trivial ?_ | refine jQ_step rfl rfl ?_ | refine jQ_step rfl (lsx hL hi (by omega) (show (1 : Int32) = nI 1 from rfl)) ?_ | refine jQ_step rfl (lsx hL hi (by omega) (show (2 : Int32) = nI 2 from rfl)) ?_ | refine jQ_step rfl (lsx hL hi (by omega) (show (3 : Int32) = nI 3 from rfl)) ?_ | refine jQ_step rfl (lsx hL hi (by omega) (show (4 : Int32) = nI 4 from rfl)) ?_)
  refine jQ_call rfl ⟨Nat.le_of_ble_eq_true rfl, lo_mod⟩ h2 (fun w2 => ?_)
  repeat (first | refine jQ_step rfl trivial ?_ | refine jQ_step rfl rfl ?_)
  refine jQ_call rfl ⟨Nat.le_of_ble_eq_true rfl, lo_mod⟩ mT_thrown.F (fun w3 => ?_)
  repeat (first | refine jQ_step rfl trivial ?_ | refine jQ_step rfl rfl ?_)
  rw [if_pos hc]
  repeat (first | refine jQ_step rfl trivial ?_ | refine jQ_step rfl rfl ?_)
  by_cases hk : kk = 0
  · rw [if_pos hk]
    repeat (first | refine jQ_step rfl trivial ?_ | refine jQ_step rfl rfl ?_ | refine jQ_step rfl mw_out ?_ | refine jQ_step rfl ⟨mw_out, Or.inl rfl⟩ ?_ | refine jQ_step rfl ⟨mw_out, Or.inr rfl⟩ ?_)
    split
    · iterate 1 (first | refine jQ_step rfl trivial ?_ | refine jQ_step rfl rfl ?_)
      exact fin _ _ _ _ _ _ hR' hs ht
    · rename_i hne
      exact absurd (lg_0 (hy hk)) hne
  · rw [if_neg hk]
    iterate 1 (first | refine jQ_step rfl trivial ?_ | refine jQ_step rfl rfl ?_)
    exact fin _ _ _ _ _ _ hR' hs ht
set_option maxRecDepth 100000 in
theorem law_hear (hL : L ≤ 2560) (hi : i + 5 ≤ L) (hN : N ≤ 512) (hR : Rel N I) (fin : ∀ I' G' t' k' b' w', Rel (N + 1) I' → (∀ j, I' 1 j = I 1 j) → t' ≤ t + 1 → jw_Q (12, 101, 1254, [some (.ref 1), some (.ref 2), some (.ref 182), some (.ref 209), some (.int (nI i)), k', b'], [], w', jS L I' G' t')) : jw_Q (12, 101, 581, [some (.ref 1), some (.ref 2), some (.ref 182), some (.ref 209), some (.int (nI i)), k, b], [], w, jS L I G t) := by
  repeat (first | refine jQ_step rfl trivial ?_ | refine jQ_step rfl rfl ?_ | refine jQ_step rfl (lsx hL hi (by omega) (show (1 : Int32) = nI 1 from rfl)) ?_ | refine jQ_step rfl (lsx hL hi (by omega) (show (2 : Int32) = nI 2 from rfl)) ?_ | refine jQ_step rfl (lsx hL hi (by omega) (show (3 : Int32) = nI 3 from rfl)) ?_ | refine jQ_step rfl (lsx hL hi (by omega) (show (4 : Int32) = nI 4 from rfl)) ?_)
  by_cases hz : (jS L I G t).2.2.2.1 1 (nI i + 4).toNatClampNeg = 0
  · rw [if_pos hz]
    repeat (first | refine jQ_step rfl trivial ?_ | refine jQ_step rfl rfl ?_)
    obtain ⟨kk, bb, I1, I2, G1, t1, h1, h2, hc, hy, ht, hR', hs, hs1⟩ := op_hear (L := L) (t := t) (G := G) (x := I 1 (nI i + 1).toNatClampNeg) (p := I 1 (nI i + 2).toNatClampNeg) (b := I 1 (nI i + 3).toNatClampNeg) (late := 0) hN hR
    refine jQ_call rfl ⟨Nat.le_of_ble_eq_true rfl, Nat.le_of_ble_eq_true rfl⟩ h1 (fun w1 => ?_)
    simp only [← hs1] at h2
    repeat (first | refine jQ_step rfl trivial ?_ | refine jQ_step rfl rfl ?_ | refine jQ_step rfl (lsx hL hi (by omega) (show (1 : Int32) = nI 1 from rfl)) ?_ | refine jQ_step rfl (lsx hL hi (by omega) (show (2 : Int32) = nI 2 from rfl)) ?_ | refine jQ_step rfl (lsx hL hi (by omega) (show (3 : Int32) = nI 3 from rfl)) ?_ | refine jQ_step rfl (lsx hL hi (by omega) (show (4 : Int32) = nI 4 from rfl)) ?_)
    rw [if_pos (show (jS L I1 G1 t1).2.2.2.1 1 (nI i + 4).toNatClampNeg = 0 from (hs1 _).trans hz)]
    repeat (first | refine jQ_step rfl trivial ?_ | refine jQ_step rfl rfl ?_)
    refine jQ_call rfl ⟨Nat.le_of_ble_eq_true rfl, lo_mod⟩ h2 (fun w2 => ?_)
    repeat (first | refine jQ_step rfl trivial ?_ | refine jQ_step rfl rfl ?_)
    refine jQ_call rfl ⟨Nat.le_of_ble_eq_true rfl, lo_mod⟩ mT_thrown.F (fun w3 => ?_)
    repeat (first | refine jQ_step rfl trivial ?_ | refine jQ_step rfl rfl ?_)
    rw [if_pos hc]
    repeat (first | refine jQ_step rfl trivial ?_ | refine jQ_step rfl rfl ?_)
    by_cases hk : kk = 0
    · rw [if_pos hk]
      repeat (first | refine jQ_step rfl trivial ?_ | refine jQ_step rfl rfl ?_ | refine jQ_step rfl mw_out ?_ | refine jQ_step rfl ⟨mw_out, Or.inl rfl⟩ ?_ | refine jQ_step rfl ⟨mw_out, Or.inr rfl⟩ ?_)
      split
      · iterate 1 (first | refine jQ_step rfl trivial ?_ | refine jQ_step rfl rfl ?_)
        exact fin _ _ _ _ _ _ hR' hs ht
      · rename_i hne
        exact absurd (lg_0 (hy hk)) hne
    · rw [if_neg hk]
      iterate 1 (first | refine jQ_step rfl trivial ?_ | refine jQ_step rfl rfl ?_)
      exact fin _ _ _ _ _ _ hR' hs ht
  · rw [if_neg hz]
    repeat (first | refine jQ_step rfl trivial ?_ | refine jQ_step rfl rfl ?_)
    obtain ⟨kk, bb, I1, I2, G1, t1, h1, h2, hc, hy, ht, hR', hs, hs1⟩ := op_hear (L := L) (t := t) (G := G) (x := I 1 (nI i + 1).toNatClampNeg) (p := I 1 (nI i + 2).toNatClampNeg) (b := I 1 (nI i + 3).toNatClampNeg) (late := 1) hN hR
    refine jQ_call rfl ⟨Nat.le_of_ble_eq_true rfl, Nat.le_of_ble_eq_true rfl⟩ h1 (fun w1 => ?_)
    simp only [← hs1] at h2
    repeat (first | refine jQ_step rfl trivial ?_ | refine jQ_step rfl rfl ?_ | refine jQ_step rfl (lsx hL hi (by omega) (show (1 : Int32) = nI 1 from rfl)) ?_ | refine jQ_step rfl (lsx hL hi (by omega) (show (2 : Int32) = nI 2 from rfl)) ?_ | refine jQ_step rfl (lsx hL hi (by omega) (show (3 : Int32) = nI 3 from rfl)) ?_ | refine jQ_step rfl (lsx hL hi (by omega) (show (4 : Int32) = nI 4 from rfl)) ?_)
    rw [if_neg (show ¬ (jS L I1 G1 t1).2.2.2.1 1 (nI i + 4).toNatClampNeg = 0 from fun e => hz ((hs1 _).symm.trans e))]
    repeat (first | refine jQ_step rfl trivial ?_ | refine jQ_step rfl rfl ?_)
    refine jQ_call rfl ⟨Nat.le_of_ble_eq_true rfl, lo_mod⟩ h2 (fun w2 => ?_)
    repeat (first | refine jQ_step rfl trivial ?_ | refine jQ_step rfl rfl ?_)
    refine jQ_call rfl ⟨Nat.le_of_ble_eq_true rfl, lo_mod⟩ mT_thrown.F (fun w3 => ?_)
    repeat (first | refine jQ_step rfl trivial ?_ | refine jQ_step rfl rfl ?_)
    rw [if_pos hc]
    repeat (first | refine jQ_step rfl trivial ?_ | refine jQ_step rfl rfl ?_)
    by_cases hk : kk = 0
    · rw [if_pos hk]
      repeat (first | refine jQ_step rfl trivial ?_ | refine jQ_step rfl rfl ?_ | refine jQ_step rfl mw_out ?_ | refine jQ_step rfl ⟨mw_out, Or.inl rfl⟩ ?_ | refine jQ_step rfl ⟨mw_out, Or.inr rfl⟩ ?_)
      split
      · iterate 1 (first | refine jQ_step rfl trivial ?_ | refine jQ_step rfl rfl ?_)
        exact fin _ _ _ _ _ _ hR' hs ht
      · rename_i hne
        exact absurd (lg_0 (hy hk)) hne
    · rw [if_neg hk]
      iterate 1 (first | refine jQ_step rfl trivial ?_ | refine jQ_step rfl rfl ?_)
      exact fin _ _ _ _ _ _ hR' hs ht
set_option maxRecDepth 100000 in
theorem law_route (hL : L ≤ 2560) (hi : i + 5 ≤ L) (hN : N ≤ 512) (hR : Rel N I) (fin : ∀ I' G' t' k' b' w', Rel (N + 1) I' → (∀ j, I' 1 j = I 1 j) → t' ≤ t + 1 → jw_Q (12, 101, 1254, [some (.ref 1), some (.ref 2), some (.ref 182), some (.ref 209), some (.int (nI i)), k', b'], [], w', jS L I' G' t')) : jw_Q (12, 101, 702, [some (.ref 1), some (.ref 2), some (.ref 182), some (.ref 209), some (.int (nI i)), k, b], [], w, jS L I G t) := by
  repeat (first | refine jQ_step rfl trivial ?_ | refine jQ_step rfl rfl ?_ | refine jQ_step rfl (lsx hL hi (by omega) (show (1 : Int32) = nI 1 from rfl)) ?_ | refine jQ_step rfl (lsx hL hi (by omega) (show (2 : Int32) = nI 2 from rfl)) ?_ | refine jQ_step rfl (lsx hL hi (by omega) (show (3 : Int32) = nI 3 from rfl)) ?_)
  repeat (first | refine jQ_step rfl trivial ?_ | refine jQ_step rfl rfl ?_)
  obtain ⟨kk, bb, I1, I2, G1, t1, h1, h2, hc, hy, ht, hR', hs, hs1⟩ := op_route (L := L) (t := t) (G := G) (x := I 1 (nI i + 1).toNatClampNeg) (y := I 1 (nI i + 2).toNatClampNeg) (z := I 1 (nI i + 3).toNatClampNeg) hR
  refine jQ_call rfl ⟨Nat.le_of_ble_eq_true rfl, Nat.le_of_ble_eq_true rfl⟩ h1 (fun w1 => ?_)
  simp only [← hs1] at h2
  repeat (first | refine jQ_step rfl trivial ?_ | refine jQ_step rfl rfl ?_ | refine jQ_step rfl (lsx hL hi (by omega) (show (1 : Int32) = nI 1 from rfl)) ?_ | refine jQ_step rfl (lsx hL hi (by omega) (show (2 : Int32) = nI 2 from rfl)) ?_ | refine jQ_step rfl (lsx hL hi (by omega) (show (3 : Int32) = nI 3 from rfl)) ?_)
  refine jQ_call rfl ⟨Nat.le_of_ble_eq_true rfl, lo_mod⟩ h2 (fun w2 => ?_)
  repeat (first | refine jQ_step rfl trivial ?_ | refine jQ_step rfl rfl ?_)
  refine jQ_call rfl ⟨Nat.le_of_ble_eq_true rfl, lo_mod⟩ mT_thrown.F (fun w3 => ?_)
  repeat (first | refine jQ_step rfl trivial ?_ | refine jQ_step rfl rfl ?_)
  rw [if_pos hc]
  repeat (first | refine jQ_step rfl trivial ?_ | refine jQ_step rfl rfl ?_)
  by_cases hk : kk = 0
  · rw [if_pos hk]
    repeat (first | refine jQ_step rfl trivial ?_ | refine jQ_step rfl rfl ?_ | refine jQ_step rfl mw_out ?_ | refine jQ_step rfl ⟨mw_out, Or.inl rfl⟩ ?_ | refine jQ_step rfl ⟨mw_out, Or.inr rfl⟩ ?_)
    split
    · iterate 1 (first | refine jQ_step rfl trivial ?_ | refine jQ_step rfl rfl ?_)
      exact fin _ _ _ _ _ _ hR' hs ht
    · rename_i hne
      exact absurd (lg_0 (hy hk)) hne
  · rw [if_neg hk]
    iterate 1 (first | refine jQ_step rfl trivial ?_ | refine jQ_step rfl rfl ?_)
    exact fin _ _ _ _ _ _ hR' hs ht
set_option maxRecDepth 100000 in
theorem law_two (hL : L ≤ 2560) (hi : i + 5 ≤ L) (hN : N ≤ 512) (hR : Rel N I) (fin : ∀ I' G' t' k' b' w', Rel (N + 1) I' → (∀ j, I' 1 j = I 1 j) → t' ≤ t + 1 → jw_Q (12, 101, 1254, [some (.ref 1), some (.ref 2), some (.ref 182), some (.ref 209), some (.int (nI i)), k', b'], [], w', jS L I' G' t')) : jw_Q (12, 101, 782, [some (.ref 1), some (.ref 2), some (.ref 182), some (.ref 209), some (.int (nI i)), k, b], [], w, jS L I G t) := by
  repeat (first | refine jQ_step rfl trivial ?_ | refine jQ_step rfl rfl ?_ | refine jQ_step rfl (lsx hL hi (by omega) (show (1 : Int32) = nI 1 from rfl)) ?_ | refine jQ_step rfl (lsx hL hi (by omega) (show (2 : Int32) = nI 2 from rfl)) ?_)
  repeat (first | refine jQ_step rfl trivial ?_ | refine jQ_step rfl rfl ?_)
  obtain ⟨kk, bb, I1, I2, G1, t1, h1, h2, hc, hy, ht, hR', hs, hs1⟩ := op_two (L := L) (t := t) (G := G) (x := I 1 (nI i + 1).toNatClampNeg) (y := I 1 (nI i + 2).toNatClampNeg) hR
  refine jQ_call rfl ⟨Nat.le_of_ble_eq_true rfl, Nat.le_of_ble_eq_true rfl⟩ h1 (fun w1 => ?_)
  simp only [← hs1] at h2
  repeat (first | refine jQ_step rfl trivial ?_ | refine jQ_step rfl rfl ?_ | refine jQ_step rfl (lsx hL hi (by omega) (show (1 : Int32) = nI 1 from rfl)) ?_ | refine jQ_step rfl (lsx hL hi (by omega) (show (2 : Int32) = nI 2 from rfl)) ?_)
  refine jQ_call rfl ⟨Nat.le_of_ble_eq_true rfl, lo_mod⟩ h2 (fun w2 => ?_)
  repeat (first | refine jQ_step rfl trivial ?_ | refine jQ_step rfl rfl ?_)
  refine jQ_call rfl ⟨Nat.le_of_ble_eq_true rfl, lo_mod⟩ mT_thrown.F (fun w3 => ?_)
  repeat (first | refine jQ_step rfl trivial ?_ | refine jQ_step rfl rfl ?_)
  rw [if_pos hc]
  repeat (first | refine jQ_step rfl trivial ?_ | refine jQ_step rfl rfl ?_)
  by_cases hk : kk = 0
  · rw [if_pos hk]
    repeat (first | refine jQ_step rfl trivial ?_ | refine jQ_step rfl rfl ?_ | refine jQ_step rfl mw_out ?_ | refine jQ_step rfl ⟨mw_out, Or.inl rfl⟩ ?_ | refine jQ_step rfl ⟨mw_out, Or.inr rfl⟩ ?_)
    by_cases hb : bb = 0
    · rw [if_pos hb]
      repeat (first | refine jQ_step rfl trivial ?_ | refine jQ_step rfl rfl ?_)
      split
      · iterate 1 (first | refine jQ_step rfl trivial ?_ | refine jQ_step rfl rfl ?_)
        exact fin _ _ _ _ _ _ hR' hs ht
      · rename_i hne
        exact absurd (lg_0 ((hy hk).trans (if_pos hb))) hne
    · rw [if_neg hb]
      repeat (first | refine jQ_step rfl trivial ?_ | refine jQ_step rfl rfl ?_)
      split
      · iterate 1 (first | refine jQ_step rfl trivial ?_ | refine jQ_step rfl rfl ?_)
        exact fin _ _ _ _ _ _ hR' hs ht
      · rename_i hne
        exact absurd (lg_0 ((hy hk).trans (if_neg hb))) hne
  · rw [if_neg hk]
    iterate 1 (first | refine jQ_step rfl trivial ?_ | refine jQ_step rfl rfl ?_)
    exact fin _ _ _ _ _ _ hR' hs ht
set_option maxRecDepth 100000 in
theorem law_send (hL : L ≤ 2560) (hi : i + 5 ≤ L) (hN : N ≤ 512) (hR : Rel N I) (fin : ∀ I' G' t' k' b' w', Rel (N + 1) I' → (∀ j, I' 1 j = I 1 j) → t' ≤ t + 1 → jw_Q (12, 101, 1254, [some (.ref 1), some (.ref 2), some (.ref 182), some (.ref 209), some (.int (nI i)), k', b'], [], w', jS L I' G' t')) : jw_Q (12, 101, 857, [some (.ref 1), some (.ref 2), some (.ref 182), some (.ref 209), some (.int (nI i)), k, b], [], w, jS L I G t) := by
  repeat (first | refine jQ_step rfl trivial ?_ | refine jQ_step rfl rfl ?_ | refine jQ_step rfl (lsx hL hi (by omega) (show (1 : Int32) = nI 1 from rfl)) ?_ | refine jQ_step rfl (lsx hL hi (by omega) (show (2 : Int32) = nI 2 from rfl)) ?_ | refine jQ_step rfl (lsx hL hi (by omega) (show (3 : Int32) = nI 3 from rfl)) ?_)
  repeat (first | refine jQ_step rfl trivial ?_ | refine jQ_step rfl rfl ?_)
  obtain ⟨kk, bb, I1, I2, G1, t1, h1, h2, hc, hy, ht, hR', hs, hs1⟩ := op_send (L := L) (t := t) (G := G) (x := I 1 (nI i + 1).toNatClampNeg) (y := I 1 (nI i + 2).toNatClampNeg) (z := I 1 (nI i + 3).toNatClampNeg) hN hR
  refine jQ_call rfl ⟨Nat.le_of_ble_eq_true rfl, Nat.le_of_ble_eq_true rfl⟩ h1 (fun w1 => ?_)
  simp only [← hs1] at h2
  repeat (first | refine jQ_step rfl trivial ?_ | refine jQ_step rfl rfl ?_ | refine jQ_step rfl (lsx hL hi (by omega) (show (1 : Int32) = nI 1 from rfl)) ?_ | refine jQ_step rfl (lsx hL hi (by omega) (show (2 : Int32) = nI 2 from rfl)) ?_ | refine jQ_step rfl (lsx hL hi (by omega) (show (3 : Int32) = nI 3 from rfl)) ?_)
  refine jQ_call rfl ⟨Nat.le_of_ble_eq_true rfl, lo_mod⟩ h2 (fun w2 => ?_)
  repeat (first | refine jQ_step rfl trivial ?_ | refine jQ_step rfl rfl ?_)
  refine jQ_call rfl ⟨Nat.le_of_ble_eq_true rfl, lo_mod⟩ mT_thrown.F (fun w3 => ?_)
  repeat (first | refine jQ_step rfl trivial ?_ | refine jQ_step rfl rfl ?_)
  rw [if_pos hc]
  repeat (first | refine jQ_step rfl trivial ?_ | refine jQ_step rfl rfl ?_)
  by_cases hk : kk = 0
  · rw [if_pos hk]
    repeat (first | refine jQ_step rfl trivial ?_ | refine jQ_step rfl rfl ?_ | refine jQ_step rfl mw_out ?_ | refine jQ_step rfl ⟨mw_out, Or.inl rfl⟩ ?_ | refine jQ_step rfl ⟨mw_out, Or.inr rfl⟩ ?_)
    split
    · iterate 1 (first | refine jQ_step rfl trivial ?_ | refine jQ_step rfl rfl ?_)
      exact fin _ _ _ _ _ _ hR' hs ht
    · rename_i hne
      exact absurd (lg_0 (hy hk)) hne
  · rw [if_neg hk]
    iterate 1 (first | refine jQ_step rfl trivial ?_ | refine jQ_step rfl rfl ?_)
    exact fin _ _ _ _ _ _ hR' hs ht
set_option maxRecDepth 100000 in
theorem law_move (hL : L ≤ 2560) (hi : i + 5 ≤ L) (hN : N ≤ 512) (hR : Rel N I) (fin : ∀ I' G' t' k' b' w', Rel (N + 1) I' → (∀ j, I' 1 j = I 1 j) → t' ≤ t + 1 → jw_Q (12, 101, 1254, [some (.ref 1), some (.ref 2), some (.ref 182), some (.ref 209), some (.int (nI i)), k', b'], [], w', jS L I' G' t')) : jw_Q (12, 101, 937, [some (.ref 1), some (.ref 2), some (.ref 182), some (.ref 209), some (.int (nI i)), k, b], [], w, jS L I G t) := by
  repeat (first | refine jQ_step rfl trivial ?_ | refine jQ_step rfl rfl ?_ | refine jQ_step rfl (lsx hL hi (by omega) (show (1 : Int32) = nI 1 from rfl)) ?_)
  repeat (first | refine jQ_step rfl trivial ?_ | refine jQ_step rfl rfl ?_)
  obtain ⟨kk, bb, I1, I2, G1, t1, h1, h2, hc, hy, ht, hR', hs, hs1⟩ := op_move (L := L) (t := t) (G := G) (x := I 1 (nI i + 1).toNatClampNeg) hR
  refine jQ_call rfl ⟨Nat.le_of_ble_eq_true rfl, Nat.le_of_ble_eq_true rfl⟩ h1 (fun w1 => ?_)
  simp only [← hs1] at h2
  repeat (first | refine jQ_step rfl trivial ?_ | refine jQ_step rfl rfl ?_ | refine jQ_step rfl (lsx hL hi (by omega) (show (1 : Int32) = nI 1 from rfl)) ?_)
  refine jQ_call rfl ⟨Nat.le_of_ble_eq_true rfl, lo_mod⟩ h2 (fun w2 => ?_)
  repeat (first | refine jQ_step rfl trivial ?_ | refine jQ_step rfl rfl ?_)
  refine jQ_call rfl ⟨Nat.le_of_ble_eq_true rfl, lo_mod⟩ mT_thrown.F (fun w3 => ?_)
  repeat (first | refine jQ_step rfl trivial ?_ | refine jQ_step rfl rfl ?_)
  rw [if_pos hc]
  repeat (first | refine jQ_step rfl trivial ?_ | refine jQ_step rfl rfl ?_)
  by_cases hk : kk = 0
  · rw [if_pos hk]
    repeat (first | refine jQ_step rfl trivial ?_ | refine jQ_step rfl rfl ?_ | refine jQ_step rfl mw_out ?_ | refine jQ_step rfl ⟨mw_out, Or.inl rfl⟩ ?_ | refine jQ_step rfl ⟨mw_out, Or.inr rfl⟩ ?_)
    split
    · iterate 1 (first | refine jQ_step rfl trivial ?_ | refine jQ_step rfl rfl ?_)
      exact fin _ _ _ _ _ _ hR' hs ht
    · rename_i hne
      exact absurd (lg_0 (hy hk)) hne
  · rw [if_neg hk]
    iterate 1 (first | refine jQ_step rfl trivial ?_ | refine jQ_step rfl rfl ?_)
    exact fin _ _ _ _ _ _ hR' hs ht
set_option maxRecDepth 100000 in
theorem law_waiting (hL : L ≤ 2560) (hi : i + 5 ≤ L) (hN : N ≤ 512) (hR : Rel N I) (fin : ∀ I' G' t' k' b' w', Rel (N + 1) I' → (∀ j, I' 1 j = I 1 j) → t' ≤ t + 1 → jw_Q (12, 101, 1254, [some (.ref 1), some (.ref 2), some (.ref 182), some (.ref 209), some (.int (nI i)), k', b'], [], w', jS L I' G' t')) : jw_Q (12, 101, 993, [some (.ref 1), some (.ref 2), some (.ref 182), some (.ref 209), some (.int (nI i)), k, b], [], w, jS L I G t) := by
  repeat (first | refine jQ_step rfl trivial ?_ | refine jQ_step rfl rfl ?_ | refine jQ_step rfl (lsx hL hi (by omega) (show (1 : Int32) = nI 1 from rfl)) ?_)
  repeat (first | refine jQ_step rfl trivial ?_ | refine jQ_step rfl rfl ?_)
  obtain ⟨kk, bb, I1, I2, G1, t1, h1, h2, hc, hy, ht, hR', hs, hs1⟩ := op_waiting (L := L) (t := t) (G := G) (x := I 1 (nI i + 1).toNatClampNeg) hR
  refine jQ_call rfl ⟨Nat.le_of_ble_eq_true rfl, Nat.le_of_ble_eq_true rfl⟩ h1 (fun w1 => ?_)
  simp only [← hs1] at h2
  repeat (first | refine jQ_step rfl trivial ?_ | refine jQ_step rfl rfl ?_ | refine jQ_step rfl (lsx hL hi (by omega) (show (1 : Int32) = nI 1 from rfl)) ?_)
  refine jQ_call rfl ⟨Nat.le_of_ble_eq_true rfl, lo_mod⟩ h2 (fun w2 => ?_)
  repeat (first | refine jQ_step rfl trivial ?_ | refine jQ_step rfl rfl ?_)
  refine jQ_call rfl ⟨Nat.le_of_ble_eq_true rfl, lo_mod⟩ mT_thrown.F (fun w3 => ?_)
  repeat (first | refine jQ_step rfl trivial ?_ | refine jQ_step rfl rfl ?_)
  rw [if_pos hc]
  repeat (first | refine jQ_step rfl trivial ?_ | refine jQ_step rfl rfl ?_)
  by_cases hk : kk = 0
  · rw [if_pos hk]
    repeat (first | refine jQ_step rfl trivial ?_ | refine jQ_step rfl rfl ?_ | refine jQ_step rfl mw_out ?_ | refine jQ_step rfl ⟨mw_out, Or.inl rfl⟩ ?_ | refine jQ_step rfl ⟨mw_out, Or.inr rfl⟩ ?_)
    split
    · iterate 1 (first | refine jQ_step rfl trivial ?_ | refine jQ_step rfl rfl ?_)
      exact fin _ _ _ _ _ _ hR' hs ht
    · rename_i hne
      exact absurd (lg_0 (hy hk)) hne
  · rw [if_neg hk]
    iterate 1 (first | refine jQ_step rfl trivial ?_ | refine jQ_step rfl rfl ?_)
    exact fin _ _ _ _ _ _ hR' hs ht
set_option maxRecDepth 100000 in
theorem law_got (hL : L ≤ 2560) (hi : i + 5 ≤ L) (hN : N ≤ 512) (hR : Rel N I) (fin : ∀ I' G' t' k' b' w', Rel (N + 1) I' → (∀ j, I' 1 j = I 1 j) → t' ≤ t + 1 → jw_Q (12, 101, 1254, [some (.ref 1), some (.ref 2), some (.ref 182), some (.ref 209), some (.int (nI i)), k', b'], [], w', jS L I' G' t')) : jw_Q (12, 101, 1049, [some (.ref 1), some (.ref 2), some (.ref 182), some (.ref 209), some (.int (nI i)), k, b], [], w, jS L I G t) := by
  repeat (first | refine jQ_step rfl trivial ?_ | refine jQ_step rfl rfl ?_ | refine jQ_step rfl (lsx hL hi (by omega) (show (1 : Int32) = nI 1 from rfl)) ?_ | refine jQ_step rfl (lsx hL hi (by omega) (show (2 : Int32) = nI 2 from rfl)) ?_)
  repeat (first | refine jQ_step rfl trivial ?_ | refine jQ_step rfl rfl ?_)
  obtain ⟨kk, bb, I1, I2, G1, t1, h1, h2, hc, hy, ht, hR', hs, hs1⟩ := op_got (L := L) (t := t) (G := G) (x := I 1 (nI i + 1).toNatClampNeg) (y := I 1 (nI i + 2).toNatClampNeg) hR
  refine jQ_call rfl ⟨Nat.le_of_ble_eq_true rfl, Nat.le_of_ble_eq_true rfl⟩ h1 (fun w1 => ?_)
  simp only [← hs1] at h2
  repeat (first | refine jQ_step rfl trivial ?_ | refine jQ_step rfl rfl ?_ | refine jQ_step rfl (lsx hL hi (by omega) (show (1 : Int32) = nI 1 from rfl)) ?_ | refine jQ_step rfl (lsx hL hi (by omega) (show (2 : Int32) = nI 2 from rfl)) ?_)
  refine jQ_call rfl ⟨Nat.le_of_ble_eq_true rfl, lo_mod⟩ h2 (fun w2 => ?_)
  repeat (first | refine jQ_step rfl trivial ?_ | refine jQ_step rfl rfl ?_)
  refine jQ_call rfl ⟨Nat.le_of_ble_eq_true rfl, lo_mod⟩ mT_thrown.F (fun w3 => ?_)
  repeat (first | refine jQ_step rfl trivial ?_ | refine jQ_step rfl rfl ?_)
  rw [if_pos hc]
  repeat (first | refine jQ_step rfl trivial ?_ | refine jQ_step rfl rfl ?_)
  by_cases hk : kk = 0
  · rw [if_pos hk]
    repeat (first | refine jQ_step rfl trivial ?_ | refine jQ_step rfl rfl ?_ | refine jQ_step rfl mw_out ?_ | refine jQ_step rfl ⟨mw_out, Or.inl rfl⟩ ?_ | refine jQ_step rfl ⟨mw_out, Or.inr rfl⟩ ?_)
    split
    · iterate 1 (first | refine jQ_step rfl trivial ?_ | refine jQ_step rfl rfl ?_)
      exact fin _ _ _ _ _ _ hR' hs ht
    · rename_i hne
      exact absurd (lg_0 (hy hk)) hne
  · rw [if_neg hk]
    iterate 1 (first | refine jQ_step rfl trivial ?_ | refine jQ_step rfl rfl ?_)
    exact fin _ _ _ _ _ _ hR' hs ht
set_option maxRecDepth 100000 in
theorem law_circle (hL : L ≤ 2560) (hi : i + 5 ≤ L) (hN : N ≤ 512) (hR : Rel N I) (fin : ∀ I' G' t' k' b' w', Rel (N + 1) I' → (∀ j, I' 1 j = I 1 j) → t' ≤ t + 1 → jw_Q (12, 101, 1254, [some (.ref 1), some (.ref 2), some (.ref 182), some (.ref 209), some (.int (nI i)), k', b'], [], w', jS L I' G' t')) : jw_Q (12, 101, 1117, [some (.ref 1), some (.ref 2), some (.ref 182), some (.ref 209), some (.int (nI i)), k, b], [], w, jS L I G t) := by
  repeat (first | refine jQ_step rfl trivial ?_ | refine jQ_step rfl rfl ?_ | refine jQ_step rfl (lsx hL hi (by omega) (show (1 : Int32) = nI 1 from rfl)) ?_)
  repeat (first | refine jQ_step rfl trivial ?_ | refine jQ_step rfl rfl ?_)
  obtain ⟨kk, bb, I1, I2, G1, t1, h1, h2, hc, hy, ht, hR', hs, hs1⟩ := op_circle (L := L) (t := t) (G := G) (x := I 1 (nI i + 1).toNatClampNeg) hR
  refine jQ_call rfl ⟨Nat.le_of_ble_eq_true rfl, Nat.le_of_ble_eq_true rfl⟩ h1 (fun w1 => ?_)
  simp only [← hs1] at h2
  repeat (first | refine jQ_step rfl trivial ?_ | refine jQ_step rfl rfl ?_ | refine jQ_step rfl (lsx hL hi (by omega) (show (1 : Int32) = nI 1 from rfl)) ?_)
  refine jQ_call rfl ⟨Nat.le_of_ble_eq_true rfl, lo_mod⟩ h2 (fun w2 => ?_)
  repeat (first | refine jQ_step rfl trivial ?_ | refine jQ_step rfl rfl ?_)
  refine jQ_call rfl ⟨Nat.le_of_ble_eq_true rfl, lo_mod⟩ mT_thrown.F (fun w3 => ?_)
  repeat (first | refine jQ_step rfl trivial ?_ | refine jQ_step rfl rfl ?_)
  rw [if_pos hc]
  repeat (first | refine jQ_step rfl trivial ?_ | refine jQ_step rfl rfl ?_)
  by_cases hk : kk = 0
  · rw [if_pos hk]
    repeat (first | refine jQ_step rfl trivial ?_ | refine jQ_step rfl rfl ?_ | refine jQ_step rfl mw_out ?_ | refine jQ_step rfl ⟨mw_out, Or.inl rfl⟩ ?_ | refine jQ_step rfl ⟨mw_out, Or.inr rfl⟩ ?_)
    split
    · iterate 1 (first | refine jQ_step rfl trivial ?_ | refine jQ_step rfl rfl ?_)
      exact fin _ _ _ _ _ _ hR' hs ht
    · rename_i hne
      exact absurd (lg_0 (hy hk)) hne
  · rw [if_neg hk]
    iterate 1 (first | refine jQ_step rfl trivial ?_ | refine jQ_step rfl rfl ?_)
    exact fin _ _ _ _ _ _ hR' hs ht
set_option maxRecDepth 100000 in
theorem law_best (hL : L ≤ 2560) (hi : i + 5 ≤ L) (hN : N ≤ 512) (hR : Rel N I) (fin : ∀ I' G' t' k' b' w', Rel (N + 1) I' → (∀ j, I' 1 j = I 1 j) → t' ≤ t + 1 → jw_Q (12, 101, 1254, [some (.ref 1), some (.ref 2), some (.ref 182), some (.ref 209), some (.int (nI i)), k', b'], [], w', jS L I' G' t')) : jw_Q (12, 101, 1173, [some (.ref 1), some (.ref 2), some (.ref 182), some (.ref 209), some (.int (nI i)), k, b], [], w, jS L I G t) := by
  repeat (first | refine jQ_step rfl trivial ?_ | refine jQ_step rfl rfl ?_ | refine jQ_step rfl (lsx hL hi (by omega) (show (1 : Int32) = nI 1 from rfl)) ?_ | refine jQ_step rfl (lsx hL hi (by omega) (show (2 : Int32) = nI 2 from rfl)) ?_)
  repeat (first | refine jQ_step rfl trivial ?_ | refine jQ_step rfl rfl ?_)
  obtain ⟨kk, bb, I1, I2, G1, t1, h1, h2, hc, hy, ht, hR', hs, hs1⟩ := op_best (L := L) (t := t) (G := G) (x := I 1 (nI i + 1).toNatClampNeg) (y := I 1 (nI i + 2).toNatClampNeg) hR
  refine jQ_call rfl ⟨Nat.le_of_ble_eq_true rfl, Nat.le_of_ble_eq_true rfl⟩ h1 (fun w1 => ?_)
  simp only [← hs1] at h2
  repeat (first | refine jQ_step rfl trivial ?_ | refine jQ_step rfl rfl ?_ | refine jQ_step rfl (lsx hL hi (by omega) (show (1 : Int32) = nI 1 from rfl)) ?_ | refine jQ_step rfl (lsx hL hi (by omega) (show (2 : Int32) = nI 2 from rfl)) ?_)
  refine jQ_call rfl ⟨Nat.le_of_ble_eq_true rfl, lo_mod⟩ h2 (fun w2 => ?_)
  repeat (first | refine jQ_step rfl trivial ?_ | refine jQ_step rfl rfl ?_)
  refine jQ_call rfl ⟨Nat.le_of_ble_eq_true rfl, lo_mod⟩ mT_thrown.F (fun w3 => ?_)
  repeat (first | refine jQ_step rfl trivial ?_ | refine jQ_step rfl rfl ?_)
  rw [if_pos hc]
  repeat (first | refine jQ_step rfl trivial ?_ | refine jQ_step rfl rfl ?_)
  by_cases hk : kk = 0
  · rw [if_pos hk]
    repeat (first | refine jQ_step rfl trivial ?_ | refine jQ_step rfl rfl ?_ | refine jQ_step rfl mw_out ?_ | refine jQ_step rfl ⟨mw_out, Or.inl rfl⟩ ?_ | refine jQ_step rfl ⟨mw_out, Or.inr rfl⟩ ?_)
    split
    · iterate 1 (first | refine jQ_step rfl trivial ?_ | refine jQ_step rfl rfl ?_)
      exact fin _ _ _ _ _ _ hR' hs ht
    · rename_i hne
      exact absurd (lg_0 (hy hk)) hne
  · rw [if_neg hk]
    iterate 1 (first | refine jQ_step rfl trivial ?_ | refine jQ_step rfl rfl ?_)
    exact fin _ _ _ _ _ _ hR' hs ht
set_option maxRecDepth 100000 in
theorem law_tick (hN : N ≤ 512) (hR : Rel N I) (fin : ∀ I' G' t' k' b' w', Rel (N + 1) I' → (∀ j, I' 1 j = I 1 j) → t' ≤ t + 1 → jw_Q (12, 101, 1254, [some (.ref 1), some (.ref 2), some (.ref 182), some (.ref 209), some (.int (nI i)), k', b'], [], w', jS L I' G' t')) : jw_Q (12, 101, 689, [some (.ref 1), some (.ref 2), some (.ref 182), some (.ref 209), some (.int (nI i)), k, b], [], w, jS L I G t) := by
  obtain ⟨bb, I1, I2, h1, h2, hR', hs⟩ := op_tick (L := L) (t := t) (G := G) hN hR
  repeat (first | refine jQ_step rfl trivial ?_ | refine jQ_step rfl rfl ?_)
  refine jQ_call rfl ⟨Nat.le_of_ble_eq_true rfl, lo_net⟩ h1 (fun w1 => ?_)
  repeat (first | refine jQ_step rfl trivial ?_ | refine jQ_step rfl rfl ?_)
  refine jQ_call rfl ⟨Nat.le_of_ble_eq_true rfl, lo_mod⟩ h2 (fun w2 => ?_)
  repeat (first | refine jQ_step rfl trivial ?_ | refine jQ_step rfl rfl ?_)
  rw [if_pos rfl]
  exact fin _ _ _ _ _ _ hR' hs (Nat.le_succ t)
set_option maxRecDepth 100000 in
theorem law_clock (hN : N ≤ 512) (hR : Rel N I) (fin : ∀ I' G' t' k' b' w', Rel (N + 1) I' → (∀ j, I' 1 j = I 1 j) → t' ≤ t + 1 → jw_Q (12, 101, 1254, [some (.ref 1), some (.ref 2), some (.ref 182), some (.ref 209), some (.int (nI i)), k', b'], [], w', jS L I' G' t')) : jw_Q (12, 101, 1241, [some (.ref 1), some (.ref 2), some (.ref 182), some (.ref 209), some (.int (nI i)), k, b], [], w, jS L I G t) := by
  obtain ⟨bb, I1, I2, h1, h2, hR', hs⟩ := op_clock (L := L) (t := t) (G := G) hR
  repeat (first | refine jQ_step rfl trivial ?_ | refine jQ_step rfl rfl ?_)
  refine jQ_call rfl ⟨Nat.le_of_ble_eq_true rfl, lo_net⟩ h1 (fun w1 => ?_)
  repeat (first | refine jQ_step rfl trivial ?_ | refine jQ_step rfl rfl ?_)
  refine jQ_call rfl ⟨Nat.le_of_ble_eq_true rfl, lo_mod⟩ h2 (fun w2 => ?_)
  repeat (first | refine jQ_step rfl trivial ?_ | refine jQ_step rfl rfl ?_)
  rw [if_pos rfl]
  exact fin _ _ _ _ _ _ hR' hs (Nat.le_succ t)
end
