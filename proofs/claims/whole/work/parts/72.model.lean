/-! runs of the small machine: the reference is made -/
def mR (m r j : Nat) : Nat := if r = 182 then (if jRm j < 183 + m then jRm j else 0) else Rk 180 8 16 16 r j
theorem jRm_big {j : Nat} (h : 30 ≤ j) : jRm j = 0 := by
  unfold jRm
  rw [List.getD_eq_getElem?_getD, List.getElem?_eq_none (by simpa using h)]
  rfl
theorem jRm_sm : ∀ j < 30, jRm j = 0 ∨ (183 ≤ jRm j ∧ jRm j < 209) := by decide
theorem mR_z {m r j : Nat} (h : 183 ≤ r) : mR m r j = 0 := by
  unfold mR; rw [if_neg (by omega)]; exact Rk_z (by omega) (by omega)
theorem mR_s {m f : Nat} (hf : jRm f = 183 + m) (hu : ∀ j < 30, j ≠ f → jRm j ≠ 183 + m) : jm_up (mR m) 182 f (183 + m) = mR (m + 1) := by
  funext r j
  unfold mR
  by_cases e : r = 182
  · subst e
    rw [if_pos rfl]
    by_cases e2 : j = f
    · subst e2; rw [up_s, hf, if_pos (by omega)]
    · rw [up_i e2, if_pos rfl]
      have : jRm j ≠ 183 + m := by
        by_cases e3 : j < 30
        · exact hu j e3 e2
        · rw [jRm_big (by omega)]; omega
      by_cases e4 : jRm j < 183 + m
      · rw [if_pos e4, if_pos (by omega)]
      · rw [if_neg e4, if_neg (by omega)]
  · rw [up_k e, if_neg e, if_neg e]
theorem mR_0 : Rk 180 8 16 16 = mR 0 := by
  funext r j
  unfold mR
  by_cases e : r = 182
  · rw [if_pos e, e, Rk_z (by omega) (by omega)]
    by_cases e2 : jRm j < 183 + 0
    · rw [if_pos e2]
      by_cases e3 : j < 30
      · rcases jRm_sm j e3 with h | h
        · exact h.symm
        · omega
      · exact (jRm_big (by omega)).symm
    · rw [if_neg e2]
  · rw [if_neg e]
theorem mR_26 : mR 26 = jR := by
  funext r j
  unfold mR
  by_cases e : r = 182
  · rw [if_pos e, e]
    have e1 : jR 182 j = jRm j := by unfold jR; rw [if_neg (by omega), if_neg (by omega), if_neg (by omega), if_pos rfl]
    rw [e1, if_pos]
    by_cases e3 : j < 30
    · rcases jRm_sm j e3 with h | h <;> omega
    · rw [jRm_big (by omega)]; omega
  · rw [if_neg e]
    unfold Rk
    by_cases e3 : r = 3
    · subst e3
      rw [if_pos rfl]
      by_cases h : j < 8
      · rw [if_pos h]
      · rw [if_neg h]; unfold jR; rw [if_pos (by omega), if_neg (by omega), if_pos rfl, if_neg h]
    rw [if_neg e3]
    by_cases e4 : r = 4
    · subst e4
      rw [if_pos rfl]
      by_cases h : j < 16
      · rw [if_pos h]
      · rw [if_neg h]; unfold jR; rw [if_pos (by omega), if_neg (by omega), if_neg (by omega), if_pos rfl, if_neg h]
    rw [if_neg e4]
    by_cases e5 : r = 5
    · subst e5
      rw [if_pos rfl]
      by_cases h : j < 16
      · rw [if_pos h]
      · rw [if_neg h]; unfold jR; rw [if_pos (by omega), if_neg (by omega), if_neg (by omega), if_neg (by omega), if_pos rfl, if_neg h]
    rw [if_neg e5]
    by_cases e6 : r < 180 + 2
    · rw [if_pos e6]
    · rw [if_neg e6]; unfold jR; rw [if_neg (by omega), if_neg (by omega), if_neg (by omega), if_neg e]
def mI (r j : Nat) : Int32 := if r = 185 then -1 else if r = 188 then (if j / 8 = j % 8 then nI (j / 8) else -1) else if r = 191 then (if j / 8 = j % 8 then 1 else 0) else (if j / 8 = j % 8 then 0 else -1)
theorem ch_v {I : jHp} {k : Nat} {a0 a1 a2 a3 a4 a5 a6 : Int32} (h0 : a0 = mI 185 k) (h1 : a1 = mI 186 k) (h2 : a2 = mI 187 k) (h3 : a3 = mI 188 k) (h4 : a4 = mI 189 k) (h5 : a5 = mI 190 k) (h6 : a6 = mI 191 k) (r j : Nat) : jm_up (jm_up (jm_up (jm_up (jm_up (jm_up (jm_up I 185 k a0) 186 k a1) 187 k a2) 188 k a3) 189 k a4) 190 k a5) 191 k a6 r j = if (185 ≤ r ∧ r ≤ 191) ∧ j = k then mI r k else I r j := by
  by_cases e : j = k
  · subst e
    by_cases e2 : 185 ≤ r ∧ r ≤ 191
    · rw [if_pos ⟨e2, rfl⟩]
      obtain ⟨m, hm⟩ : ∃ m, r = 185 + m := ⟨r - 185, by omega⟩
      subst hm
      match m, (show m < 7 by omega) with
      | 0, _ => rw [up_k (by omega), up_k (by omega), up_k (by omega), up_k (by omega), up_k (by omega), up_k (by omega), up_s]; exact h0
      | 1, _ => rw [up_k (by omega), up_k (by omega), up_k (by omega), up_k (by omega), up_k (by omega), up_s]; exact h1
      | 2, _ => rw [up_k (by omega), up_k (by omega), up_k (by omega), up_k (by omega), up_s]; exact h2
      | 3, _ => rw [up_k (by omega), up_k (by omega), up_k (by omega), up_s]; exact h3
      | 4, _ => rw [up_k (by omega), up_k (by omega), up_s]; exact h4
      | 5, _ => rw [up_k (by omega), up_s]; exact h5
      | 6, _ => rw [up_s]; exact h6
    · rw [if_neg (fun q => e2 q.1), up_k (by omega), up_k (by omega), up_k (by omega), up_k (by omega), up_k (by omega), up_k (by omega), up_k (by omega)]
  · rw [if_neg (fun q => e q.2), up_i e, up_i e, up_i e, up_i e, up_i e, up_i e, up_i e]
section
variable {L d s : Nat} {xs : Nat → Int32}
theorem mod_loop : ∀ r k (I : jHp), k + r = 64 → ∃ I' : jHp, (∀ r' j, I' r' j = if (185 ≤ r' ∧ r' ≤ 191) ∧ k ≤ j ∧ j < 64 then mI r' j else I r' j) ∧ ∀ w x out σ, (∀ w' x', jm_F (d + 1, 32, 339, [some (.ref 182), some (.int (nI 64)), x'], [], w', jC L 207 jR I' s) out σ) → jm_F (d + 1, 32, 218, [some (.ref 182), some (.int (nI k)), x], [], w, jC L 207 jR I s) out σ := by
  intro r
  induction r with
  | zero =>
    intro k I h
    have e : k = 64 := by omega
    subst e
    refine ⟨I, fun r' j => by rw [if_neg (by omega)], fun w x out σ fin => ?_⟩
    iterate 3 (first | refine jF_step rfl trivial ?_ | refine jF_step rfl rfl ?_)
    rw [if_pos (show (64 : Int32) ≤ nI 64 from n_ge' (a := 64) (by omega) (by omega))]
    exact fin w x
  | succ r ih =>
    intro k I h
    have hk : k < 64 := by omega
    have ok : ∀ I, jm_ok (jC L 207 jR I s) 182 5 := fun I => okC (k := 5) (m := 30) rfl (by omega) (by omega)
    have ed : nI k / 8 = nI (k / 8) := pk_div (d := 8) (by omega) (by omega) (by omega)
    have er : nI k - nI k / 8 * 8 = nI (k % 8) := pk_rem (d := 8) (by omega) (by omega) (by omega)
    have vk : vp_in (nI k) 64 := vp_in_nI hk (by decide)
    by_cases own : k / 8 = k % 8
    · obtain ⟨I', fI, fin0⟩ := ih (k + 1) (jm_up (jm_up (jm_up (jm_up (jm_up (jm_up (jm_up I 185 k (-1)) 186 k (0)) 187 k (0)) 188 k (nI k / 8)) 189 k (0)) 190 k (0)) 191 k (1)) (by omega)
      refine ⟨I', fun r' j => ?_, fun w x out σ fin => ?_⟩
      · rw [fI, ch_v (by unfold mI; rw [if_pos rfl]) (by unfold mI; rw [if_neg (by omega), if_neg (by omega), if_neg (by omega), if_pos own]) (by unfold mI; rw [if_neg (by omega), if_neg (by omega), if_neg (by omega), if_pos own]) (by unfold mI; rw [if_neg (by omega), if_pos rfl, if_pos own, ed]) (by unfold mI; rw [if_neg (by omega), if_neg (by omega), if_neg (by omega), if_pos own]) (by unfold mI; rw [if_neg (by omega), if_neg (by omega), if_neg (by omega), if_pos own]) (by unfold mI; rw [if_neg (by omega), if_neg (by omega), if_pos rfl, if_pos own])]
        by_cases e : 185 ≤ r' ∧ r' ≤ 191
        · by_cases e1 : k + 1 ≤ j ∧ j < 64
          · rw [if_pos ⟨e, e1⟩, if_pos ⟨e, by omega⟩]
          · rw [if_neg (fun q => e1 q.2)]
            by_cases e2 : j = k
            · rw [if_pos ⟨e, e2⟩, if_pos ⟨e, by omega⟩, e2]
            · rw [if_neg (fun q => e2 q.2), if_neg (fun q => e1 (by omega))]
        · rw [if_neg (fun q => e q.1), if_neg (fun q => e q.1), if_neg (fun q => e q.1)]
      · iterate 3 (first | refine jF_step rfl trivial ?_ | refine jF_step rfl rfl ?_)
        rw [if_neg (show ¬ (64 : Int32) ≤ nI k from n_ge (b := 64) (by omega) (by omega))]
        iterate 2 (first | refine jF_step rfl trivial ?_ | refine jF_step rfl rfl ?_)
        refine jF_step rfl (show ¬ (8 : Int32) = 0 by decide) ?_
        iterate 2 (first | refine jF_step rfl trivial ?_ | refine jF_step rfl rfl ?_)
        refine jF_step rfl (show ¬ (8 : Int32) = 0 by decide) ?_
        iterate 1 (first | refine jF_step rfl trivial ?_ | refine jF_step rfl rfl ?_)
        rw [if_pos (show nI k / 8 = nI k - nI k / 8 * 8 by rw [er, ed, own])]
        iterate 3 (first | refine jF_step rfl trivial ?_ | refine jF_step rfl rfl ?_)
        iterate 1 (first | refine jF_step rfl trivial ?_ | refine jF_step rfl rfl ?_)
        refine jF_step rfl (ok _) ?_
        rw [cRC, show jR 182 4 = 185 from rfl]
        iterate 2 (first | refine jF_step rfl trivial ?_ | refine jF_step rfl rfl ?_)
        refine jF_step rfl (iwC (show jK L 185 = (10, 64) from rfl) (by omega) (by omega) vk) ?_
        rw [sIC, cIC, nc8 (by omega)]
        iterate 1 (first | refine jF_step rfl trivial ?_ | refine jF_step rfl rfl ?_)
        refine jF_step rfl (ok _) ?_
        rw [cRC, show jR 182 5 = 186 from rfl]
        iterate 3 (first | refine jF_step rfl trivial ?_ | refine jF_step rfl rfl ?_)
        rw [if_neg (show ¬ (1 : Int32) = 0 by decide)]
        iterate 2 (first | refine jF_step rfl trivial ?_ | refine jF_step rfl rfl ?_)
        refine jF_step rfl (iwC (show jK L 186 = (10, 64) from rfl) (by omega) (by omega) vk) ?_
        rw [sIC, cIC, nc8 (by omega)]
        iterate 1 (first | refine jF_step rfl trivial ?_ | refine jF_step rfl rfl ?_)
        refine jF_step rfl (ok _) ?_
        rw [cRC, show jR 182 6 = 187 from rfl]
        iterate 3 (first | refine jF_step rfl trivial ?_ | refine jF_step rfl rfl ?_)
        rw [if_neg (show ¬ (1 : Int32) = 0 by decide)]
        iterate 2 (first | refine jF_step rfl trivial ?_ | refine jF_step rfl rfl ?_)
        refine jF_step rfl (iwC (show jK L 187 = (10, 64) from rfl) (by omega) (by omega) vk) ?_
        rw [sIC, cIC, nc8 (by omega)]
        iterate 1 (first | refine jF_step rfl trivial ?_ | refine jF_step rfl rfl ?_)
        refine jF_step rfl (ok _) ?_
        rw [cRC, show jR 182 7 = 188 from rfl]
        iterate 3 (first | refine jF_step rfl trivial ?_ | refine jF_step rfl rfl ?_)
        rw [if_neg (show ¬ (1 : Int32) = 0 by decide)]
        iterate 2 (first | refine jF_step rfl trivial ?_ | refine jF_step rfl rfl ?_)
        refine jF_step rfl (show ¬ (8 : Int32) = 0 by decide) ?_
        iterate 1 (first | refine jF_step rfl trivial ?_ | refine jF_step rfl rfl ?_)
        refine jF_step rfl (iwC (show jK L 188 = (10, 64) from rfl) (by omega) (by omega) vk) ?_
        rw [sIC, cIC, nc8 (by omega)]
        iterate 1 (first | refine jF_step rfl trivial ?_ | refine jF_step rfl rfl ?_)
        refine jF_step rfl (ok _) ?_
        rw [cRC, show jR 182 8 = 189 from rfl]
        iterate 3 (first | refine jF_step rfl trivial ?_ | refine jF_step rfl rfl ?_)
        rw [if_neg (show ¬ (1 : Int32) = 0 by decide)]
        iterate 2 (first | refine jF_step rfl trivial ?_ | refine jF_step rfl rfl ?_)
        refine jF_step rfl (iwC (show jK L 189 = (10, 64) from rfl) (by omega) (by omega) vk) ?_
        rw [sIC, cIC, nc8 (by omega)]
        iterate 1 (first | refine jF_step rfl trivial ?_ | refine jF_step rfl rfl ?_)
        refine jF_step rfl (ok _) ?_
        rw [cRC, show jR 182 9 = 190 from rfl]
        iterate 3 (first | refine jF_step rfl trivial ?_ | refine jF_step rfl rfl ?_)
        rw [if_neg (show ¬ (1 : Int32) = 0 by decide)]
        iterate 2 (first | refine jF_step rfl trivial ?_ | refine jF_step rfl rfl ?_)
        refine jF_step rfl (iwC (show jK L 190 = (10, 64) from rfl) (by omega) (by omega) vk) ?_
        rw [sIC, cIC, nc8 (by omega)]
        iterate 1 (first | refine jF_step rfl trivial ?_ | refine jF_step rfl rfl ?_)
        refine jF_step rfl (ok _) ?_
        rw [cRC, show jR 182 10 = 191 from rfl]
        iterate 2 (first | refine jF_step rfl trivial ?_ | refine jF_step rfl rfl ?_)
        refine jF_step rfl ⟨iwC (show jK L 191 = (11, 64) from rfl) (by omega) (by omega) vk, Or.inr rfl⟩ ?_
        rw [sIC, cIC, nc8 (by omega)]
        iterate 2 (first | refine jF_step rfl trivial ?_ | refine jF_step rfl rfl ?_)
        refine jF_to ?_ (fin0 true (some (.int 1)) out σ fin)
        · rw [← nI_1]; rfl
    · obtain ⟨I', fI, fin0⟩ := ih (k + 1) (jm_up (jm_up (jm_up (jm_up (jm_up (jm_up (jm_up I 185 k (-1)) 186 k (-1)) 187 k (-1)) 188 k (-1)) 189 k (-1)) 190 k (-1)) 191 k (0)) (by omega)
      refine ⟨I', fun r' j => ?_, fun w x out σ fin => ?_⟩
      · rw [fI, ch_v (by unfold mI; rw [if_pos rfl]) (by unfold mI; rw [if_neg (by omega), if_neg (by omega), if_neg (by omega), if_neg own]) (by unfold mI; rw [if_neg (by omega), if_neg (by omega), if_neg (by omega), if_neg own]) (by unfold mI; rw [if_neg (by omega), if_pos rfl, if_neg own]) (by unfold mI; rw [if_neg (by omega), if_neg (by omega), if_neg (by omega), if_neg own]) (by unfold mI; rw [if_neg (by omega), if_neg (by omega), if_neg (by omega), if_neg own]) (by unfold mI; rw [if_neg (by omega), if_neg (by omega), if_pos rfl, if_neg own])]
        by_cases e : 185 ≤ r' ∧ r' ≤ 191
        · by_cases e1 : k + 1 ≤ j ∧ j < 64
          · rw [if_pos ⟨e, e1⟩, if_pos ⟨e, by omega⟩]
          · rw [if_neg (fun q => e1 q.2)]
            by_cases e2 : j = k
            · rw [if_pos ⟨e, e2⟩, if_pos ⟨e, by omega⟩, e2]
            · rw [if_neg (fun q => e2 q.2), if_neg (fun q => e1 (by omega))]
        · rw [if_neg (fun q => e q.1), if_neg (fun q => e q.1), if_neg (fun q => e q.1)]
      · iterate 3 (first | refine jF_step rfl trivial ?_ | refine jF_step rfl rfl ?_)
        rw [if_neg (show ¬ (64 : Int32) ≤ nI k from n_ge (b := 64) (by omega) (by omega))]
        iterate 2 (first | refine jF_step rfl trivial ?_ | refine jF_step rfl rfl ?_)
        refine jF_step rfl (show ¬ (8 : Int32) = 0 by decide) ?_
        iterate 2 (first | refine jF_step rfl trivial ?_ | refine jF_step rfl rfl ?_)
        refine jF_step rfl (show ¬ (8 : Int32) = 0 by decide) ?_
        iterate 1 (first | refine jF_step rfl trivial ?_ | refine jF_step rfl rfl ?_)
        rw [if_neg (show ¬ nI k / 8 = nI k - nI k / 8 * 8 by rw [er, ed]; exact fun e => own ((nI_eq (by omega) (by omega)).mp e))]
        iterate 2 (first | refine jF_step rfl trivial ?_ | refine jF_step rfl rfl ?_)
        iterate 1 (first | refine jF_step rfl trivial ?_ | refine jF_step rfl rfl ?_)
        refine jF_step rfl (ok _) ?_
        rw [cRC, show jR 182 4 = 185 from rfl]
        iterate 2 (first | refine jF_step rfl trivial ?_ | refine jF_step rfl rfl ?_)
        refine jF_step rfl (iwC (show jK L 185 = (10, 64) from rfl) (by omega) (by omega) vk) ?_
        rw [sIC, cIC, nc8 (by omega)]
        iterate 1 (first | refine jF_step rfl trivial ?_ | refine jF_step rfl rfl ?_)
        refine jF_step rfl (ok _) ?_
        rw [cRC, show jR 182 5 = 186 from rfl]
        iterate 3 (first | refine jF_step rfl trivial ?_ | refine jF_step rfl rfl ?_)
        rw [if_pos (show (0 : Int32) = 0 from rfl)]
        iterate 1 (first | refine jF_step rfl trivial ?_ | refine jF_step rfl rfl ?_)
        refine jF_step rfl (iwC (show jK L 186 = (10, 64) from rfl) (by omega) (by omega) vk) ?_
        rw [sIC, cIC, nc8 (by omega)]
        iterate 1 (first | refine jF_step rfl trivial ?_ | refine jF_step rfl rfl ?_)
        refine jF_step rfl (ok _) ?_
        rw [cRC, show jR 182 6 = 187 from rfl]
        iterate 3 (first | refine jF_step rfl trivial ?_ | refine jF_step rfl rfl ?_)
        rw [if_pos (show (0 : Int32) = 0 from rfl)]
        iterate 1 (first | refine jF_step rfl trivial ?_ | refine jF_step rfl rfl ?_)
        refine jF_step rfl (iwC (show jK L 187 = (10, 64) from rfl) (by omega) (by omega) vk) ?_
        rw [sIC, cIC, nc8 (by omega)]
        iterate 1 (first | refine jF_step rfl trivial ?_ | refine jF_step rfl rfl ?_)
        refine jF_step rfl (ok _) ?_
        rw [cRC, show jR 182 7 = 188 from rfl]
        iterate 3 (first | refine jF_step rfl trivial ?_ | refine jF_step rfl rfl ?_)
        rw [if_pos (show (0 : Int32) = 0 from rfl)]
        iterate 1 (first | refine jF_step rfl trivial ?_ | refine jF_step rfl rfl ?_)
        refine jF_step rfl (iwC (show jK L 188 = (10, 64) from rfl) (by omega) (by omega) vk) ?_
        rw [sIC, cIC, nc8 (by omega)]
        iterate 1 (first | refine jF_step rfl trivial ?_ | refine jF_step rfl rfl ?_)
        refine jF_step rfl (ok _) ?_
        rw [cRC, show jR 182 8 = 189 from rfl]
        iterate 3 (first | refine jF_step rfl trivial ?_ | refine jF_step rfl rfl ?_)
        rw [if_pos (show (0 : Int32) = 0 from rfl)]
        iterate 1 (first | refine jF_step rfl trivial ?_ | refine jF_step rfl rfl ?_)
        refine jF_step rfl (iwC (show jK L 189 = (10, 64) from rfl) (by omega) (by omega) vk) ?_
        rw [sIC, cIC, nc8 (by omega)]
        iterate 1 (first | refine jF_step rfl trivial ?_ | refine jF_step rfl rfl ?_)
        refine jF_step rfl (ok _) ?_
        rw [cRC, show jR 182 9 = 190 from rfl]
        iterate 3 (first | refine jF_step rfl trivial ?_ | refine jF_step rfl rfl ?_)
        rw [if_pos (show (0 : Int32) = 0 from rfl)]
        iterate 1 (first | refine jF_step rfl trivial ?_ | refine jF_step rfl rfl ?_)
        refine jF_step rfl (iwC (show jK L 190 = (10, 64) from rfl) (by omega) (by omega) vk) ?_
        rw [sIC, cIC, nc8 (by omega)]
        iterate 1 (first | refine jF_step rfl trivial ?_ | refine jF_step rfl rfl ?_)
        refine jF_step rfl (ok _) ?_
        rw [cRC, show jR 182 10 = 191 from rfl]
        iterate 2 (first | refine jF_step rfl trivial ?_ | refine jF_step rfl rfl ?_)
        refine jF_step rfl ⟨iwC (show jK L 191 = (11, 64) from rfl) (by omega) (by omega) vk, Or.inl rfl⟩ ?_
        rw [sIC, cIC, nc8 (by omega)]
        iterate 2 (first | refine jF_step rfl trivial ?_ | refine jF_step rfl rfl ?_)
        refine jF_to ?_ (fin0 true (some (.int 0)) out σ fin)
        · rw [← nI_1]; rfl
theorem mod_packs : ∀ r k (I : jHp), k + r = 16 → ∃ I' : jHp, (∀ r' j, I' r' j = if r' = 200 ∧ k ≤ j ∧ j < 16 then -1 else I r' j) ∧ ∀ w x out σ, (∀ w' x', jm_F (d + 1, 32, 360, [some (.ref 182), some (.int (nI 16)), x'], [], w', jC L 207 jR I' s) out σ) → jm_F (d + 1, 32, 341, [some (.ref 182), some (.int (nI k)), x], [], w, jC L 207 jR I s) out σ := by
  intro r
  induction r with
  | zero =>
    intro k I h
    have e : k = 16 := by omega
    subst e
    refine ⟨I, fun r' j => by rw [if_neg (by omega)], fun w x out σ fin => ?_⟩
    iterate 3 (first | refine jF_step rfl trivial ?_ | refine jF_step rfl rfl ?_)
    rw [if_pos (show (16 : Int32) ≤ nI 16 from n_ge' (a := 16) (by omega) (by omega))]
    exact fin w x
  | succ r ih =>
    intro k I h
    have hk : k < 16 := by omega
    obtain ⟨I', fI, fin0⟩ := ih (k + 1) (jm_up I 200 k (-1)) (by omega)
    refine ⟨I', fun r' j => ?_, fun w x out σ fin => ?_⟩
    · rw [fI]
      by_cases e : r' = 200 ∧ k + 1 ≤ j ∧ j < 16
      · rw [if_pos e, if_pos (by omega)]
      · rw [if_neg e]
        by_cases e2 : r' = 200 ∧ j = k
        · obtain ⟨rfl, rfl⟩ := e2
          rw [up_s, if_pos (by omega)]
        · rw [if_neg (by omega)]
          by_cases e3 : r' = 200
          · exact up_i (by omega)
          · exact up_k e3
    · iterate 3 (first | refine jF_step rfl trivial ?_ | refine jF_step rfl rfl ?_)
      rw [if_neg (show ¬ (16 : Int32) ≤ nI k from n_ge (b := 16) (by omega) (by omega))]
      iterate 1 (first | refine jF_step rfl trivial ?_ | refine jF_step rfl rfl ?_)
      refine jF_step rfl (okC (k := 5) (m := 30) rfl (by omega) (by omega)) ?_
      rw [cRC, show jR 182 21 = 200 from rfl]
      iterate 2 (first | refine jF_step rfl trivial ?_ | refine jF_step rfl rfl ?_)
      refine jF_step rfl (iwC (show jK L 200 = (10, 16) from rfl) (by omega) (by omega) (vp_in_nI hk (by decide))) ?_
      rw [sIC, cIC, nc8 (by omega)]
      iterate 2 (first | refine jF_step rfl trivial ?_ | refine jF_step rfl rfl ?_)
      refine jF_to ?_ (fin0 true x out σ fin)
      rw [← nI_1]; rfl
set_option maxRecDepth 100000 in
theorem tM_new : ∃ I' : jHp, jm_F (d + 1, 32, 0, jm_en 32 [.ref 182], [], false, jC L 181 (Rk 180 8 16 16) (Ik xs 180) s) (.inl none) (jC L 207 jR I' (s + 1496)) ∧ ∀ r j, I' r j = if (185 ≤ r ∧ r ≤ 191) ∧ j < 64 then mI r j else if r = 200 ∧ j < 16 then -1 else Ik xs 180 r j := by
  obtain ⟨I1, f1, g1⟩ := mod_loop (L := L) (d := d) (s := s + 1496) 64 0 (Ik xs 180) rfl
  obtain ⟨I2, f2, g2⟩ := mod_packs (L := L) (d := d) (s := s + 1496) 16 0 I1 rfl
  refine ⟨I2, ?_, fun r j => ?_⟩
  · have ok : ∀ n R I s, 181 ≤ n → jm_ok (jC L n R I s) 182 5 := fun n R I s h => okC (k := 5) (m := 30) rfl (by omega) (by omega)
    have h1 : 1 ≤ 182 := by omega
    rw [mR_0]
    iterate 2 (first | refine jF_step rfl trivial ?_ | refine jF_step rfl rfl ?_ | refine jF_step rfl ⟨by omega, Nat.le_of_ble_eq_true rfl, h1⟩ ?_ | refine jF_step rfl ⟨⟨by omega, Nat.le_of_ble_eq_true rfl, h1⟩, Or.inl rfl⟩ ?_ | refine jF_step rfl ⟨⟨by omega, Nat.le_of_ble_eq_true rfl, h1⟩, Or.inr rfl⟩ ?_)
    iterate 2 (first | refine jF_step rfl trivial ?_ | refine jF_step rfl rfl ?_)
    refine jF_step rfl ⟨rfl, by decide, by decide⟩ ?_
    rw [show Int32.toNatClampNeg 8 = 8 from rfl, nwC (n := 181) (k := 11) (b := 8) (fun j => mR_z (by omega)) (fun j => Ik_z (by omega)) rfl, show 181 + 1 = 182 from rfl]
    refine jF_step rfl (ok _ _ _ _ (by omega)) ?_
    rw [sRC, cRC, nC, show 181 + 2 = 183 + 0 from rfl, mR_s (m := 0) (f := 2) rfl (by decide), show 0 + 1 = 1 from rfl]
    iterate 2 (first | refine jF_step rfl trivial ?_ | refine jF_step rfl rfl ?_)
    refine jF_step rfl ⟨rfl, by decide, by decide⟩ ?_
    rw [show Int32.toNatClampNeg 64 = 64 from rfl, nwC (n := 182) (k := 11) (b := 64) (fun j => mR_z (by omega)) (fun j => Ik_z (by omega)) rfl, show 182 + 1 = 183 from rfl]
    refine jF_step rfl (ok _ _ _ _ (by omega)) ?_
    rw [sRC, cRC, nC, show 182 + 2 = 183 + 1 from rfl, mR_s (m := 1) (f := 3) rfl (by decide), show 1 + 1 = 2 from rfl, show s + 8 + 64 = s + 72 from rfl]
    iterate 2 (first | refine jF_step rfl trivial ?_ | refine jF_step rfl rfl ?_)
    refine jF_step rfl ⟨rfl, by decide, by decide⟩ ?_
    rw [show Int32.toNatClampNeg 64 = 64 from rfl, nwC (n := 183) (k := 10) (b := 64) (fun j => mR_z (by omega)) (fun j => Ik_z (by omega)) rfl, show 183 + 1 = 184 from rfl]
    refine jF_step rfl (ok _ _ _ _ (by omega)) ?_
    rw [sRC, cRC, nC, show 183 + 2 = 183 + 2 from rfl, mR_s (m := 2) (f := 4) rfl (by decide), show 2 + 1 = 3 from rfl, show s + 72 + 64 = s + 136 from rfl]
    iterate 2 (first | refine jF_step rfl trivial ?_ | refine jF_step rfl rfl ?_)
    refine jF_step rfl ⟨rfl, by decide, by decide⟩ ?_
    rw [show Int32.toNatClampNeg 64 = 64 from rfl, nwC (n := 184) (k := 10) (b := 64) (fun j => mR_z (by omega)) (fun j => Ik_z (by omega)) rfl, show 184 + 1 = 185 from rfl]
    refine jF_step rfl (ok _ _ _ _ (by omega)) ?_
    rw [sRC, cRC, nC, show 184 + 2 = 183 + 3 from rfl, mR_s (m := 3) (f := 5) rfl (by decide), show 3 + 1 = 4 from rfl, show s + 136 + 64 = s + 200 from rfl]
    iterate 2 (first | refine jF_step rfl trivial ?_ | refine jF_step rfl rfl ?_)
    refine jF_step rfl ⟨rfl, by decide, by decide⟩ ?_
    rw [show Int32.toNatClampNeg 64 = 64 from rfl, nwC (n := 185) (k := 10) (b := 64) (fun j => mR_z (by omega)) (fun j => Ik_z (by omega)) rfl, show 185 + 1 = 186 from rfl]
    refine jF_step rfl (ok _ _ _ _ (by omega)) ?_
    rw [sRC, cRC, nC, show 185 + 2 = 183 + 4 from rfl, mR_s (m := 4) (f := 6) rfl (by decide), show 4 + 1 = 5 from rfl, show s + 200 + 64 = s + 264 from rfl]
    iterate 2 (first | refine jF_step rfl trivial ?_ | refine jF_step rfl rfl ?_)
    refine jF_step rfl ⟨rfl, by decide, by decide⟩ ?_
    rw [show Int32.toNatClampNeg 64 = 64 from rfl, nwC (n := 186) (k := 10) (b := 64) (fun j => mR_z (by omega)) (fun j => Ik_z (by omega)) rfl, show 186 + 1 = 187 from rfl]
    refine jF_step rfl (ok _ _ _ _ (by omega)) ?_
    rw [sRC, cRC, nC, show 186 + 2 = 183 + 5 from rfl, mR_s (m := 5) (f := 7) rfl (by decide), show 5 + 1 = 6 from rfl, show s + 264 + 64 = s + 328 from rfl]
    iterate 2 (first | refine jF_step rfl trivial ?_ | refine jF_step rfl rfl ?_)
    refine jF_step rfl ⟨rfl, by decide, by decide⟩ ?_
    rw [show Int32.toNatClampNeg 64 = 64 from rfl, nwC (n := 187) (k := 10) (b := 64) (fun j => mR_z (by omega)) (fun j => Ik_z (by omega)) rfl, show 187 + 1 = 188 from rfl]
    refine jF_step rfl (ok _ _ _ _ (by omega)) ?_
    rw [sRC, cRC, nC, show 187 + 2 = 183 + 6 from rfl, mR_s (m := 6) (f := 8) rfl (by decide), show 6 + 1 = 7 from rfl, show s + 328 + 64 = s + 392 from rfl]
    iterate 2 (first | refine jF_step rfl trivial ?_ | refine jF_step rfl rfl ?_)
    refine jF_step rfl ⟨rfl, by decide, by decide⟩ ?_
    rw [show Int32.toNatClampNeg 64 = 64 from rfl, nwC (n := 188) (k := 10) (b := 64) (fun j => mR_z (by omega)) (fun j => Ik_z (by omega)) rfl, show 188 + 1 = 189 from rfl]
    refine jF_step rfl (ok _ _ _ _ (by omega)) ?_
    rw [sRC, cRC, nC, show 188 + 2 = 183 + 7 from rfl, mR_s (m := 7) (f := 9) rfl (by decide), show 7 + 1 = 8 from rfl, show s + 392 + 64 = s + 456 from rfl]
    iterate 2 (first | refine jF_step rfl trivial ?_ | refine jF_step rfl rfl ?_)
    refine jF_step rfl ⟨rfl, by decide, by decide⟩ ?_
    rw [show Int32.toNatClampNeg 64 = 64 from rfl, nwC (n := 189) (k := 11) (b := 64) (fun j => mR_z (by omega)) (fun j => Ik_z (by omega)) rfl, show 189 + 1 = 190 from rfl]
    refine jF_step rfl (ok _ _ _ _ (by omega)) ?_
    rw [sRC, cRC, nC, show 189 + 2 = 183 + 8 from rfl, mR_s (m := 8) (f := 10) rfl (by decide), show 8 + 1 = 9 from rfl, show s + 456 + 64 = s + 520 from rfl]
    iterate 2 (first | refine jF_step rfl trivial ?_ | refine jF_step rfl rfl ?_)
    refine jF_step rfl ⟨rfl, by decide, by decide⟩ ?_
    rw [show Int32.toNatClampNeg 64 = 64 from rfl, nwC (n := 190) (k := 11) (b := 64) (fun j => mR_z (by omega)) (fun j => Ik_z (by omega)) rfl, show 190 + 1 = 191 from rfl]
    refine jF_step rfl (ok _ _ _ _ (by omega)) ?_
    rw [sRC, cRC, nC, show 190 + 2 = 183 + 9 from rfl, mR_s (m := 9) (f := 11) rfl (by decide), show 9 + 1 = 10 from rfl, show s + 520 + 64 = s + 584 from rfl]
    iterate 2 (first | refine jF_step rfl trivial ?_ | refine jF_step rfl rfl ?_)
    refine jF_step rfl ⟨rfl, by decide, by decide⟩ ?_
    rw [show Int32.toNatClampNeg 64 = 64 from rfl, nwC (n := 191) (k := 10) (b := 64) (fun j => mR_z (by omega)) (fun j => Ik_z (by omega)) rfl, show 191 + 1 = 192 from rfl]
    refine jF_step rfl (ok _ _ _ _ (by omega)) ?_
    rw [sRC, cRC, nC, show 191 + 2 = 183 + 10 from rfl, mR_s (m := 10) (f := 12) rfl (by decide), show 10 + 1 = 11 from rfl, show s + 584 + 64 = s + 648 from rfl]
    iterate 2 (first | refine jF_step rfl trivial ?_ | refine jF_step rfl rfl ?_)
    refine jF_step rfl ⟨rfl, by decide, by decide⟩ ?_
    rw [show Int32.toNatClampNeg 64 = 64 from rfl, nwC (n := 192) (k := 10) (b := 64) (fun j => mR_z (by omega)) (fun j => Ik_z (by omega)) rfl, show 192 + 1 = 193 from rfl]
    refine jF_step rfl (ok _ _ _ _ (by omega)) ?_
    rw [sRC, cRC, nC, show 192 + 2 = 183 + 11 from rfl, mR_s (m := 11) (f := 13) rfl (by decide), show 11 + 1 = 12 from rfl, show s + 648 + 64 = s + 712 from rfl]
    iterate 2 (first | refine jF_step rfl trivial ?_ | refine jF_step rfl rfl ?_)
    refine jF_step rfl ⟨rfl, by decide, by decide⟩ ?_
    rw [show Int32.toNatClampNeg 16 = 16 from rfl, nwC (n := 193) (k := 10) (b := 16) (fun j => mR_z (by omega)) (fun j => Ik_z (by omega)) rfl, show 193 + 1 = 194 from rfl]
    refine jF_step rfl (ok _ _ _ _ (by omega)) ?_
    rw [sRC, cRC, nC, show 193 + 2 = 183 + 12 from rfl, mR_s (m := 12) (f := 15) rfl (by decide), show 12 + 1 = 13 from rfl, show s + 712 + 16 = s + 728 from rfl]
    iterate 2 (first | refine jF_step rfl trivial ?_ | refine jF_step rfl rfl ?_)
    refine jF_step rfl ⟨rfl, by decide, by decide⟩ ?_
    rw [show Int32.toNatClampNeg 16 = 16 from rfl, nwC (n := 194) (k := 10) (b := 16) (fun j => mR_z (by omega)) (fun j => Ik_z (by omega)) rfl, show 194 + 1 = 195 from rfl]
    refine jF_step rfl (ok _ _ _ _ (by omega)) ?_
    rw [sRC, cRC, nC, show 194 + 2 = 183 + 13 from rfl, mR_s (m := 13) (f := 16) rfl (by decide), show 13 + 1 = 14 from rfl, show s + 728 + 16 = s + 744 from rfl]
    iterate 2 (first | refine jF_step rfl trivial ?_ | refine jF_step rfl rfl ?_)
    refine jF_step rfl ⟨rfl, by decide, by decide⟩ ?_
    rw [show Int32.toNatClampNeg 128 = 128 from rfl, nwC (n := 195) (k := 10) (b := 128) (fun j => mR_z (by omega)) (fun j => Ik_z (by omega)) rfl, show 195 + 1 = 196 from rfl]
    refine jF_step rfl (ok _ _ _ _ (by omega)) ?_
    rw [sRC, cRC, nC, show 195 + 2 = 183 + 14 from rfl, mR_s (m := 14) (f := 17) rfl (by decide), show 14 + 1 = 15 from rfl, show s + 744 + 128 = s + 872 from rfl]
    iterate 2 (first | refine jF_step rfl trivial ?_ | refine jF_step rfl rfl ?_)
    refine jF_step rfl ⟨rfl, by decide, by decide⟩ ?_
    rw [show Int32.toNatClampNeg 128 = 128 from rfl, nwC (n := 196) (k := 10) (b := 128) (fun j => mR_z (by omega)) (fun j => Ik_z (by omega)) rfl, show 196 + 1 = 197 from rfl]
    refine jF_step rfl (ok _ _ _ _ (by omega)) ?_
    rw [sRC, cRC, nC, show 196 + 2 = 183 + 15 from rfl, mR_s (m := 15) (f := 18) rfl (by decide), show 15 + 1 = 16 from rfl, show s + 872 + 128 = s + 1000 from rfl]
    iterate 2 (first | refine jF_step rfl trivial ?_ | refine jF_step rfl rfl ?_)
    refine jF_step rfl ⟨rfl, by decide, by decide⟩ ?_
    rw [show Int32.toNatClampNeg 128 = 128 from rfl, nwC (n := 197) (k := 10) (b := 128) (fun j => mR_z (by omega)) (fun j => Ik_z (by omega)) rfl, show 197 + 1 = 198 from rfl]
    refine jF_step rfl (ok _ _ _ _ (by omega)) ?_
    rw [sRC, cRC, nC, show 197 + 2 = 183 + 16 from rfl, mR_s (m := 16) (f := 19) rfl (by decide), show 16 + 1 = 17 from rfl, show s + 1000 + 128 = s + 1128 from rfl]
    iterate 2 (first | refine jF_step rfl trivial ?_ | refine jF_step rfl rfl ?_)
    refine jF_step rfl ⟨rfl, by decide, by decide⟩ ?_
    rw [show Int32.toNatClampNeg 16 = 16 from rfl, nwC (n := 198) (k := 10) (b := 16) (fun j => mR_z (by omega)) (fun j => Ik_z (by omega)) rfl, show 198 + 1 = 199 from rfl]
    refine jF_step rfl (ok _ _ _ _ (by omega)) ?_
    rw [sRC, cRC, nC, show 198 + 2 = 183 + 17 from rfl, mR_s (m := 17) (f := 21) rfl (by decide), show 17 + 1 = 18 from rfl, show s + 1128 + 16 = s + 1144 from rfl]
    iterate 2 (first | refine jF_step rfl trivial ?_ | refine jF_step rfl rfl ?_)
    refine jF_step rfl ⟨rfl, by decide, by decide⟩ ?_
    rw [show Int32.toNatClampNeg 16 = 16 from rfl, nwC (n := 199) (k := 10) (b := 16) (fun j => mR_z (by omega)) (fun j => Ik_z (by omega)) rfl, show 199 + 1 = 200 from rfl]
    refine jF_step rfl (ok _ _ _ _ (by omega)) ?_
    rw [sRC, cRC, nC, show 199 + 2 = 183 + 18 from rfl, mR_s (m := 18) (f := 22) rfl (by decide), show 18 + 1 = 19 from rfl, show s + 1144 + 16 = s + 1160 from rfl]
    iterate 2 (first | refine jF_step rfl trivial ?_ | refine jF_step rfl rfl ?_)
    refine jF_step rfl ⟨rfl, by decide, by decide⟩ ?_
    rw [show Int32.toNatClampNeg 16 = 16 from rfl, nwC (n := 200) (k := 10) (b := 16) (fun j => mR_z (by omega)) (fun j => Ik_z (by omega)) rfl, show 200 + 1 = 201 from rfl]
    refine jF_step rfl (ok _ _ _ _ (by omega)) ?_
    rw [sRC, cRC, nC, show 200 + 2 = 183 + 19 from rfl, mR_s (m := 19) (f := 23) rfl (by decide), show 19 + 1 = 20 from rfl, show s + 1160 + 16 = s + 1176 from rfl]
    iterate 2 (first | refine jF_step rfl trivial ?_ | refine jF_step rfl rfl ?_)
    refine jF_step rfl ⟨rfl, by decide, by decide⟩ ?_
    rw [show Int32.toNatClampNeg 16 = 16 from rfl, nwC (n := 201) (k := 10) (b := 16) (fun j => mR_z (by omega)) (fun j => Ik_z (by omega)) rfl, show 201 + 1 = 202 from rfl]
    refine jF_step rfl (ok _ _ _ _ (by omega)) ?_
    rw [sRC, cRC, nC, show 201 + 2 = 183 + 20 from rfl, mR_s (m := 20) (f := 24) rfl (by decide), show 20 + 1 = 21 from rfl, show s + 1176 + 16 = s + 1192 from rfl]
    iterate 2 (first | refine jF_step rfl trivial ?_ | refine jF_step rfl rfl ?_)
    refine jF_step rfl ⟨rfl, by decide, by decide⟩ ?_
    rw [show Int32.toNatClampNeg 16 = 16 from rfl, nwC (n := 202) (k := 10) (b := 16) (fun j => mR_z (by omega)) (fun j => Ik_z (by omega)) rfl, show 202 + 1 = 203 from rfl]
    refine jF_step rfl (ok _ _ _ _ (by omega)) ?_
    rw [sRC, cRC, nC, show 202 + 2 = 183 + 21 from rfl, mR_s (m := 21) (f := 25) rfl (by decide), show 21 + 1 = 22 from rfl, show s + 1192 + 16 = s + 1208 from rfl]
    iterate 2 (first | refine jF_step rfl trivial ?_ | refine jF_step rfl rfl ?_)
    refine jF_step rfl ⟨rfl, by decide, by decide⟩ ?_
    rw [show Int32.toNatClampNeg 16 = 16 from rfl, nwC (n := 203) (k := 10) (b := 16) (fun j => mR_z (by omega)) (fun j => Ik_z (by omega)) rfl, show 203 + 1 = 204 from rfl]
    refine jF_step rfl (ok _ _ _ _ (by omega)) ?_
    rw [sRC, cRC, nC, show 203 + 2 = 183 + 22 from rfl, mR_s (m := 22) (f := 26) rfl (by decide), show 22 + 1 = 23 from rfl, show s + 1208 + 16 = s + 1224 from rfl]
    iterate 2 (first | refine jF_step rfl trivial ?_ | refine jF_step rfl rfl ?_)
    refine jF_step rfl ⟨rfl, by decide, by decide⟩ ?_
    rw [show Int32.toNatClampNeg 8 = 8 from rfl, nwC (n := 204) (k := 10) (b := 8) (fun j => mR_z (by omega)) (fun j => Ik_z (by omega)) rfl, show 204 + 1 = 205 from rfl]
    refine jF_step rfl (ok _ _ _ _ (by omega)) ?_
    rw [sRC, cRC, nC, show 204 + 2 = 183 + 23 from rfl, mR_s (m := 23) (f := 27) rfl (by decide), show 23 + 1 = 24 from rfl, show s + 1224 + 8 = s + 1232 from rfl]
    iterate 2 (first | refine jF_step rfl trivial ?_ | refine jF_step rfl rfl ?_)
    refine jF_step rfl ⟨rfl, by decide, by decide⟩ ?_
    rw [show Int32.toNatClampNeg 256 = 256 from rfl, nwC (n := 205) (k := 10) (b := 256) (fun j => mR_z (by omega)) (fun j => Ik_z (by omega)) rfl, show 205 + 1 = 206 from rfl]
    refine jF_step rfl (ok _ _ _ _ (by omega)) ?_
    rw [sRC, cRC, nC, show 205 + 2 = 183 + 24 from rfl, mR_s (m := 24) (f := 28) rfl (by decide), show 24 + 1 = 25 from rfl, show s + 1232 + 256 = s + 1488 from rfl]
    iterate 2 (first | refine jF_step rfl trivial ?_ | refine jF_step rfl rfl ?_)
    refine jF_step rfl ⟨rfl, by decide, by decide⟩ ?_
    rw [show Int32.toNatClampNeg 8 = 8 from rfl, nwC (n := 206) (k := 10) (b := 8) (fun j => mR_z (by omega)) (fun j => Ik_z (by omega)) rfl, show 206 + 1 = 207 from rfl]
    refine jF_step rfl (ok _ _ _ _ (by omega)) ?_
    rw [sRC, cRC, nC, show 206 + 2 = 183 + 25 from rfl, mR_s (m := 25) (f := 29) rfl (by decide), show 25 + 1 = 26 from rfl, show s + 1488 + 8 = s + 1496 from rfl]
    rw [mR_26]
    iterate 2 (first | refine jF_step rfl trivial ?_ | refine jF_step rfl rfl ?_)
    refine g1 _ _ _ _ (fun w1 x1 => ?_)
    iterate 2 (first | refine jF_step rfl trivial ?_ | refine jF_step rfl rfl ?_)
    refine g2 _ _ _ _ (fun w2 x2 => ?_)
    exact jF_ret rfl trivial
  · rw [f2]
    by_cases e : r = 200 ∧ j < 16
    · rw [if_pos (show r = 200 ∧ 0 ≤ j ∧ j < 16 by omega), if_neg (by omega), if_pos e]
    · rw [if_neg (show ¬ (r = 200 ∧ 0 ≤ j ∧ j < 16) by omega), f1, if_neg e]
      by_cases e2 : (185 ≤ r ∧ r ≤ 191) ∧ j < 64
      · rw [if_pos (show (185 ≤ r ∧ r ≤ 191) ∧ 0 ≤ j ∧ j < 64 by omega), if_pos e2]
      · rw [if_neg (show ¬ ((185 ≤ r ∧ r ≤ 191) ∧ 0 ≤ j ∧ j < 64) by omega), if_neg e2]
end
