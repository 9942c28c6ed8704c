/-! runs whose flag is of no account -/
theorem jE_end {c : jm_Cf} {q : Prop} {r r' : jm_Rs} (h : jm_ret c = some (r', q)) (hq : q) (he : r = r') : jm_E c r := he ▸ jE_ret h hq
def jm_F (c : jm_Cf) (out : Option Value ⊕ Nat) (σ : jm_S) : Prop := ∃ w, jm_E c (out, σ, w)
theorem jm_E.F {c : jm_Cf} {out : Option Value ⊕ Nat} {σ : jm_S} {w : Bool} (h : jm_E c (out, σ, w)) : jm_F c out σ := ⟨w, h⟩
theorem jF_step {c c' : jm_Cf} {q : Prop} {out : Option Value ⊕ Nat} {σ : jm_S} (h : jm_step c = some (c', q)) (hq : q) (k : jm_F c' out σ) : jm_F c out σ := by
  obtain ⟨w, k⟩ := k
  exact ⟨w, jE_step h hq k⟩
theorem jF_ret {c : jm_Cf} {q : Prop} {out : Option Value ⊕ Nat} {σ : jm_S} {w : Bool} (h : jm_ret c = some ((out, σ, w), q)) (hq : q) : jm_F c out σ := ⟨w, jE_ret h hq⟩
theorem jF_call {c a : jm_Cf} {nx : Nat} {rest : List Value} {q : Prop} {v : Option Value} {σ σ1 : jm_S} {out : Option Value ⊕ Nat} (h : jm_call c = some (a, nx, rest, q)) (hq : q) (ka : jm_F a (.inl v) σ) (k : ∀ w, jm_F (jm_aft c nx rest v σ w) out σ1) : jm_F c out σ1 := by
  obtain ⟨w, ka⟩ := ka
  obtain ⟨w1, k⟩ := k w
  exact ⟨w1, jE_call h hq ka k⟩
theorem jF_callE {c a : jm_Cf} {nx : Nat} {rest : List Value} {q : Prop} {v : Option Value} {σ σ1 : jm_S} {w : Bool} {out : Option Value ⊕ Nat} (h : jm_call c = some (a, nx, rest, q)) (hq : q) (ka : jm_E a (.inl v, σ, w)) (k : jm_F (jm_aft c nx rest v σ w) out σ1) : jm_F c out σ1 := by
  obtain ⟨w1, k⟩ := k
  exact ⟨w1, jE_call h hq ka k⟩
theorem jF_thr {c a : jm_Cf} {nx : Nat} {rest : List Value} {q : Prop} {E : Nat} {σ : jm_S} (h : jm_call c = some (a, nx, rest, q)) (hq : q) (ka : jm_F a (.inr E) σ) (hv : jm_vs c = true) (ha : jt_hh (jm_mi a) = []) (hh : jt_hh (jm_mi c) = []) : jm_F c (.inr E) σ := by
  obtain ⟨w, ka⟩ := ka
  exact ⟨_, jE_thr h hq ka hv ha hh⟩
theorem jF_cat {c a : jm_Cf} {nx : Nat} {rest : List Value} {q : Prop} {E : Nat} {σ : jm_S} {x : Int32} (h : jm_call c = some (a, nx, rest, q)) (hq : q) (ka : jm_F a (.inr E) σ) (hv : jm_vs c = true) (ha : jt_hh (jm_mi a) = []) (hh : (jt_hd (jm_mi c)).lookup E = some x) : jm_F c (.inl (some (.int x))) σ := by
  obtain ⟨w, ka⟩ := ka
  exact ⟨_, jE_cat h hq ka hv ha hh⟩
theorem jF_eq {c : jm_Cf} {out : Option Value ⊕ Nat} {σ σ' : jm_S} (h : jm_F c out σ) (he : σ = σ') : jm_F c out σ' := he ▸ h
/-- another heap, another frame of the same value -/
theorem jF_to {c c' : jm_Cf} {out : Option Value ⊕ Nat} {σ : jm_S} (he : c = c') (h : jm_F c' out σ) : jm_F c out σ := he ▸ h
theorem jE_to {c c' : jm_Cf} {r : jm_Rs} (he : c = c') (h : jm_E c' r) : jm_E c r := he ▸ h
