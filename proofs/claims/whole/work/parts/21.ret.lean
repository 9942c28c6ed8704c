/-! answers -/
section
variable {l : Launch} {b0 sc L : Nat} {xs : Nat → Int32} {H0 : Heap} {D : va_G} {dA : Nat → ClassId} {d mi pc nx a b : Nat} {cv : Int32} {tl : List Nat} {al : List (Option Value)} {st : List Value} {w : Bool} {σ : jm_S} {q : Prop} {r : jm_Rs}
theorem jm_Q_of {below : List Frame} {args : Array Value} {s t : State} {cells slots c0 s0 : Nat} {out : Option Value ⊕ Nat} (h : MQ below (jm_Qc b0 sc L xs H0 D dA out σ) args s cells slots (fun z => b0 ≤ z ∧ w = true) t) (hc : cells + c0 = jm_nc σ) (hs : slots + s0 = jm_ns σ) : jm_Q b0 sc L xs H0 D dA below s out σ w c0 s0 t := by
  obtain ⟨o, a1, a2, ⟨b1, b2, b3, b4⟩, Ls, ⟨-, c2, c3⟩, c4⟩ := h
  refine ⟨o, a1, a2, b1, b2, b3, c2, Ls, ?_, c4⟩
  rw [show jm_nc σ - c0 = cells by omega, show jm_ns σ - s0 = slots by omega]
  exact c3
theorem jm_Qr {s t : State} {H : Heap} {locs : List Loc} {v : Option Value} {args : Array Value} (hz : H0.size = b0) (hwd : jm_wd b0 sc L xs D dA σ H) (hS : va_S (fun q => b0 ≤ q) H0 H locs) (ht : t.heap = H) (hW : s.WarmedH t.vm) : jm_Qc b0 sc L xs H0 D dA (.inl v) σ args s (.returned (v.map (jm_v b0 sc))) t :=
  ⟨rfl, by rw [ht]; exact hwd, fun z hz' => by rw [ht]; exact hS.2.1 z (by omega) (by omega), hW⟩
theorem jy_ireturn (hd : decode (jt_by mi) pc = .ok (.ireturn, nx - pc)) (hg : jm_gi mi pc nx a b cv tl .ireturn = true) (h : jm_rx d st w σ a tl .ireturn = some (r, q)) (hq : q) : jm_PP l b0 sc L xs H0 D dA d mi pc al st w σ r.1 r.2.1 r.2.2 := by
  simp only [jm_gi, Bool.and_eq_true, beq_iff_eq] at hg
  obtain ⟨rfl, hg⟩ := hg
  rw [Nat.add_sub_cancel_left] at hd
  simp only [jm_rx] at h
  split at h
  · rename_i x
    split at h
    · cases h
      simp only [decide_eq_true_eq] at hg
      refine ⟨⟨Nat.le_refl _, Nat.le_refl _, id, fun h => ⟨h, fun _ _ => rfl⟩⟩, fun p e R s m args below meth c H locs cells slots ls c0 s0 hT hlv hwd hS hw hw0 hc hs hz h1 h2 => ?_⟩
      exact jm_Wm (W.iret (Qc := jm_Qc b0 sc L xs H0 D dA (.inl (some (.int x))) σ) (free := fun z => b0 ≤ z ∧ w = true) hT.1 hT.2.1 (hT.2.2.2.1.trans hg) (fun t ht hWt => jm_Qr hT.2.2.2.2.2.2.2.2.2.2.2.2.2.2.2 hwd hS ht hWt) (fun z hz => ⟨hS.2.2 z hz, hw z hz⟩) hd (hlocks := hT.2.2.2.2.1)) (fun t ht => jm_Q_of ht hc hs)
    · cases h
      simp only [decide_eq_true_eq] at hg
      refine ⟨⟨Nat.le_refl _, Nat.le_refl _, id, fun h => ⟨h, fun _ _ => rfl⟩⟩, fun p e R s m args below meth c H locs cells slots ls c0 s0 hT hlv hwd hS hw hw0 hc hs hz h1 h2 => ?_⟩
      exact jm_Wm (W.zret (Qc := jm_Qc b0 sc L xs H0 D dA (.inl (some (.int x))) σ) (free := fun z => b0 ≤ z ∧ w = true) hT.1 hT.2.1 (hT.2.2.2.1.trans hg) (by rcases hq with rfl | rfl <;> rfl) (fun t ht hWt => jm_Qr hT.2.2.2.2.2.2.2.2.2.2.2.2.2.2.2 hwd hS ht hWt) (fun z hz => ⟨hS.2.2 z hz, hw z hz⟩) hd (hlocks := hT.2.2.2.2.1)) (fun t ht => jm_Q_of ht hc hs)
    · cases h
  · cases h
theorem jy_return (hd : decode (jt_by mi) pc = .ok (.return_, nx - pc)) (hg : jm_gi mi pc nx a b cv tl .return_ = true) (h : jm_rx d st w σ a tl .return_ = some (r, q)) (hq : q) : jm_PP l b0 sc L xs H0 D dA d mi pc al st w σ r.1 r.2.1 r.2.2 := by
  simp only [jm_gi, Bool.and_eq_true, beq_iff_eq, decide_eq_true_eq] at hg
  obtain ⟨rfl, hg⟩ := hg
  rw [Nat.add_sub_cancel_left] at hd
  simp only [jm_rx] at h
  split at h
  · cases h
    refine ⟨⟨Nat.le_refl _, Nat.le_refl _, id, fun h => ⟨h, fun _ _ => rfl⟩⟩, fun p e R s m args below meth c H locs cells slots ls c0 s0 hT hlv hwd hS hw hw0 hc hs hz h1 h2 => ?_⟩
    exact jm_Wm (W.vret (Qc := jm_Qc b0 sc L xs H0 D dA (.inl none) σ) (free := fun z => b0 ≤ z ∧ w = true) hT.1 hT.2.1 (hT.2.2.2.1.trans hg) (fun t ht hWt => jm_Qr (v := none) hT.2.2.2.2.2.2.2.2.2.2.2.2.2.2.2 hwd hS ht hWt) (fun z hz => ⟨hS.2.2 z hz, hw z hz⟩) hd (hlocks := hT.2.2.2.2.1)) (fun t ht => jm_Q_of ht hc hs)
  · cases h
theorem jy_areturn (hd : decode (jt_by mi) pc = .ok (.areturn, nx - pc)) (hg : jm_gi mi pc nx a b cv tl .areturn = true) (h : jm_rx d st w σ a tl .areturn = some (r, q)) (hq : q) : jm_PP l b0 sc L xs H0 D dA d mi pc al st w σ r.1 r.2.1 r.2.2 := by
  simp only [jm_gi, Bool.and_eq_true, beq_iff_eq] at hg
  obtain ⟨rfl, hg⟩ := hg
  rw [Nat.add_sub_cancel_left] at hd
  simp only [jm_rx] at h
  split at h
  · rename_i x
    cases h
    refine ⟨⟨Nat.le_refl _, Nat.le_refl _, id, fun h => ⟨h, fun _ _ => rfl⟩⟩, fun p e R s m args below meth c H locs cells slots ls c0 s0 hT hlv hwd hS hw hw0 hc hs hz h1 h2 => ?_⟩
    obtain ⟨n, hn⟩ : ∃ n, jt_rt mi = some (.object n) := by
      split at hg
      · exact ⟨_, by assumption⟩
      · cases hg
    exact jm_Wm (W.aret (Qc := jm_Qc b0 sc L xs H0 D dA (.inl (some (.ref x))) σ) (free := fun z => b0 ≤ z ∧ w = true) hT.1 hT.2.1 (hT.2.2.2.1.trans hn) (Or.inl ⟨n, rfl⟩) (by
      by_cases h0 : x = 0
      · subst h0; exact Or.inl rfl
      · exact Or.inr ⟨_, jm_v_r h0⟩) (fun t ht hWt => jm_Qr (v := some (.ref x)) hT.2.2.2.2.2.2.2.2.2.2.2.2.2.2.2 hwd hS ht hWt) (fun z hz => ⟨hS.2.2 z hz, hw z hz⟩) hd (hlocks := hT.2.2.2.2.1)) (fun t ht => jm_Q_of ht hc hs)
  · cases h
end
