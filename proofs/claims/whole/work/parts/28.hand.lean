/-! the handlers' tables, and the rules of a call that throws -/
def jt_hcv (mi : Nat) : Bool := (jt_code mi).all (fun q => match q.2.1 with
  | .invokevirtual _ => (jt_hh mi).all (fun z => decide (z.1 ≤ q.1) && decide (q.1 < z.2.1))
  | .invokestatic _ => (jt_hh mi).all (fun z => decide (z.1 ≤ q.1) && decide (q.1 < z.2.1))
  | _ => true)
def jt_hB (mi : Nat) : Bool := decide (jt_rt mi = some .int) && jt_hcv mi && (match jt_hh mi, jt_hd mi with
  | [(_, _, h, ct)], [(E, x)] => decide (E = 0) && decide (ct ≠ 0) && jt_hcode mi h x && decide (Cond.classLink (jt_cn (jt_oc mi)) ct (jt_xn E) ∈ jt_tb)
  | [(_, _, h1, c1), (_, _, h, ct)], [(E1, x1), (E, x)] => decide (E1 = 0) && decide ((jt_xn E, jt_xn 0) ∈ jt_nc) && decide (c1 ≠ 0) && decide (ct ≠ 0) && jt_hcode mi h1 x1 && jt_hcode mi h x && decide (Cond.classLink (jt_cn (jt_oc mi)) c1 (jt_xn 0) ∈ jt_tb) && decide (Cond.classLink (jt_cn (jt_oc mi)) ct (jt_xn E) ∈ jt_tb)
  | _, _ => false)
theorem jt_hall : ∀ mi, mi < 104 → jt_hd mi ≠ [] → jt_hB mi = true := by decide +kernel
theorem jt_hx {mi E : Nat} {x : Int32} (hE : (jt_hd mi).lookup E = some x) : jt_rt mi = some .int ∧ jt_hcv mi = true ∧
    ((∃ (s e h ct : Nat) (po : List (Nat × Nat × Nat × Nat)), jt_hh mi = (s, e, h, ct) :: po ∧ ct ≠ 0 ∧ jt_hcode mi h x = true ∧ Cond.classLink (jt_cn (jt_oc mi)) ct (jt_xn E) ∈ jt_tb) ∨
     ∃ (s1 e1 h1 c1 s e h ct : Nat) (po : List (Nat × Nat × Nat × Nat)), jt_hh mi = (s1, e1, h1, c1) :: (s, e, h, ct) :: po ∧ c1 ≠ 0 ∧ ct ≠ 0 ∧ jt_hcode mi h x = true ∧ Cond.classLink (jt_cn (jt_oc mi)) c1 (jt_xn 0) ∈ jt_tb ∧ Cond.classLink (jt_cn (jt_oc mi)) ct (jt_xn E) ∈ jt_tb ∧ (jt_xn E, jt_xn 0) ∈ jt_nc) := by
  have hne : jt_hd mi ≠ [] := fun h => by rw [h] at hE; cases hE
  have hlt : mi < 104 := by
    rcases Nat.lt_or_ge mi 104 with h | h
    · exact h
    · exfalso
      apply hne
      unfold jt_hd
      rw [List.getD_eq_getElem?_getD, List.getElem?_eq_none (by simpa [jt_hds] using h)]
      rfl
  have hB := jt_hall mi hlt hne
  unfold jt_hB at hB
  simp only [Bool.and_eq_true, decide_eq_true_eq] at hB
  obtain ⟨⟨hrt, hcv⟩, hm⟩ := hB
  refine ⟨hrt, hcv, ?_⟩
  split at hm
  · rename_i s e h ct E' x' hh hd
    simp only [Bool.and_eq_true, decide_eq_true_eq] at hm
    obtain ⟨⟨⟨h1, h2⟩, h3⟩, h4⟩ := hm
    rw [hd] at hE
    unfold List.lookup at hE
    split at hE
    · rename_i hk
      have hk' : E = E' := by simpa using hk
      subst hk'
      cases hE
      exact Or.inl ⟨s, e, h, ct, [], hh, h2, h3, h4⟩
    · cases hE
  · rename_i s1 e1 h1 c1 s e h ct E1 x1 E' x' hh hd
    simp only [Bool.and_eq_true, decide_eq_true_eq] at hm
    obtain ⟨⟨⟨⟨⟨⟨⟨k1, k2⟩, k3⟩, k4⟩, k5⟩, k6⟩, k7⟩, k8⟩ := hm
    rw [hd] at hE
    unfold List.lookup at hE
    split at hE
    · rename_i hk
      have hk' : E = E1 := by simpa using hk
      subst hk'
      cases hE
      subst k1
      exact Or.inl ⟨s1, e1, h1, c1, _, hh, k3, k5, k7⟩
    · unfold List.lookup at hE
      split at hE
      · rename_i hk
        have hk' : E = E' := by simpa using hk
        subst hk'
        cases hE
        exact Or.inr ⟨s1, e1, h1, c1, s, e, h, ct, [], hh, k3, k4, k6, k7, k8, k2⟩
      · cases hE
  · cases hm
theorem jt_cc0 : Cond.castable (jt_xn 0) (jt_xn 0) ∈ jt_tb := by decide +kernel
theorem jt_cc1 : Cond.castable (jt_xn 1) (jt_xn 1) ∈ jt_tb := by decide +kernel
theorem jt_cc2 : Cond.castable (jt_xn 2) (jt_xn 2) ∈ jt_tb := by decide +kernel
theorem jt_cc (E : Nat) : Cond.castable (jt_xn E) (jt_xn E) ∈ jt_tb := by
  match E with
  | 0 => exact jt_cc0
  | 1 => exact jt_cc1
  | n + 2 => exact jt_cc2
