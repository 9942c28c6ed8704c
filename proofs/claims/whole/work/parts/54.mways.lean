/-! runs of the small machine: the reference's circle and best -/
def mCircF (I : jHp) (g b : Nat) : Nat → Nat → Int32 → Int32
  | 0, _, _ => 0
  | r + 1, k, h => if h < 0 then 0 else if h = nI g then 0 else if I 188 (8 * h.toNatClampNeg + g) = nI b ∧ b ≠ g then nI k else mCircF I g b r (k + 1) (I 188 (8 * h.toNatClampNeg + g))
def mCircle (I : jHp) (g : Nat) : Nat → Nat → Int32
  | 0, _ => 0
  | r + 1, b => if mCircF I g b 8 1 (nI b) = 0 then mCircle I g r (b + 1) else mCircF I g b 8 1 (nI b)
/-- the heap with other distances -/
def sF (I : jHp) (f : Nat → Int32) : jHp := fun r j => if r = 208 then f j else I r j
theorem sF_up {I : jHp} {f : Nat → Int32} {l : Nat} {x : Int32} : jm_up (sF I f) 208 l x = sF I (upd f l x) := by
  funext k i
  unfold jm_up sF upd
  by_cases h : k = 208
  · by_cases h2 : i = l
    · simp only [h, h2, if_true]
    · simp only [h, h2, if_true, if_false]
  · simp only [h, if_false, ite_self]
theorem sF_s {I : jHp} {f : Nat → Int32} {j : Nat} : sF I f 208 j = f j := if_pos rfl
theorem sF_n {I : jHp} {f : Nat → Int32} {r j : Nat} (h : r ≠ 208) : sF I f r j = I r j := if_neg h
theorem sF_i {I : jHp} : sF I (I 208) = I := by
  funext k i
  unfold sF
  split
  · rename_i h; rw [h]
  · rfl
def fL (I : jHp) (rd k : Nat) : Nat → Nat → (Nat → Int32) → (Nat → Int32)
  | 0, _, f => f
  | r + 1, l, f => fL I rd k r (l + 1) (upd f l (if f k = nI rd ∧ ¬ I 184 (8 * k + l) = 0 ∧ ¬ I 183 l = 0 ∧ f l < 0 then nI (rd + 1) else f l))
def fK (I : jHp) (rd : Nat) : Nat → Nat → (Nat → Int32) → (Nat → Int32)
  | 0, _, f => f
  | r + 1, k, f => fK I rd r (k + 1) (fL I rd k 8 0 f)
def fR (I : jHp) : Nat → Nat → (Nat → Int32) → (Nat → Int32)
  | 0, _, f => f
  | r + 1, rd, f => fR I r (rd + 1) (fK I rd 8 0 f)
def fI (I : jHp) (a : Nat) : Nat → Nat → (Nat → Int32) → (Nat → Int32)
  | 0, _, f => f
  | r + 1, k, f => fI I a r (k + 1) (upd f k (if k = a ∧ ¬ I 183 a = 0 then 0 else -1))
section
variable {L t d : Nat} {G : Nat → Nat → Int64}
theorem mC_circX {x : Int32} {I : jHp} (h : x < 0 ∨ ¬ x < 8) : jm_F (d + 1, 57, 0, jm_en 57 [.ref 182, .int x], [], false, jS L I G t) (.inl (some (.int 0))) (jS L (jm_up I 182 0 1) G t) := by
  repeat (first | refine jF_step rfl trivial ?_ | refine jF_step rfl rfl ?_)
  refine jF_callE rfl ⟨Nat.le_of_ble_eq_true rfl, Nat.le_of_ble_eq_true rfl⟩ (mT_boatX h) ?_
  repeat (first | refine jF_step rfl trivial ?_ | refine jF_step rfl rfl ?_ | refine jF_step rfl lo_mod ?_ | refine jF_step rfl ⟨lo_mod, Or.inl rfl⟩ ?_ | refine jF_step rfl ⟨lo_mod, Or.inr rfl⟩ ?_ | simp (disch := omega) only [jS, jm_sI, jm_aft, jm_en, jI, nc8, up_s, up_k, up_i, k8, k9, k32, k3, r16, nI_add, rm2, rm3, rm4, rm5, rm6, rm7, rm8, rm9, rm10, rm11, rm12, rm13, rm15, rm16, rm17, rm18, rm19, rm21, rm22, rm23, rm24, rm25, rm26, rm27, rm28, rm29])
  exact jF_ret rfl trivial
theorem mT_circ0 {g b : Nat} {I : jHp} {out : Option Value ⊕ Nat} {σ : jm_S} (hg : g < 8) (hb : b < 8) (hN : ∀ i, i < 8 → I 188 (8 * i + g) = -1 ∨ ∃ n, n < 8 ∧ I 188 (8 * i + g) = nI n) : ∀ r k (h : Int32) (w : Bool), k + r = 9 → 1 ≤ k → (h = -1 ∨ ∃ n, n < 8 ∧ h = nI n) →
    (mCircF I g b r k h = 0 → ∀ w y3 y4, jm_F (d, 57, 85, [some (.ref 182), some (.int (nI g)), some (.int (nI b)), y3, y4], [], w, jS L I G t) out σ) →
    (¬ mCircF I g b r k h = 0 → out = .inl (some (.int (mCircF I g b r k h))) ∧ σ = jS L I G t) →
    jm_F (d, 57, 38, [some (.ref 182), some (.int (nI g)), some (.int (nI b)), some (.int h), some (.int (nI k))], [], w, jS L I G t) out σ := by
  intro r
  induction r with
  | zero =>
    intro k h w hk hk1 hh fin ret
    have : k = 9 := by omega
    subst this
    repeat (first | exact fin rfl _ _ _ | refine jF_step rfl trivial ?_ | refine jF_step rfl rfl ?_)
  | succ r ih =>
    intro k h w hk hk1 hh fin ret
    have hk9 : ¬ (9 : Int32) ≤ nI k := fun z => absurd (nI_lt (b := 9) (a := k) (by omega) (by decide)) (Int32.not_lt.mpr z)
    rw [mCircF] at fin ret
    repeat (first | refine jF_step rfl trivial ?_ | refine jF_step rfl rfl ?_)
    rw [if_neg hk9]
    repeat (first | refine jF_step rfl trivial ?_ | refine jF_step rfl rfl ?_)
    rcases hh with rfl | ⟨n, hn, rfl⟩
    · repeat (first | exact fin (if_pos (by decide)) _ _ _ | refine jF_step rfl trivial ?_ | refine jF_step rfl rfl ?_)
    · rw [if_neg (nin0 (show n < 1000 by omega))] at fin ret ⊢
      repeat (first | refine jF_step rfl trivial ?_ | refine jF_step rfl rfl ?_)
      by_cases h1 : nI n = nI g
      · rw [if_pos h1] at fin ret ⊢
        exact fin rfl _ _ _
      rw [if_neg h1] at fin ret ⊢
      rw [nc8 (show n < 1000 by omega)] at fin ret
      repeat (first | refine jF_step rfl trivial ?_ | refine jF_step rfl rfl ?_ | refine jF_step rfl lo_mod ?_ | refine jF_step rfl ⟨lo_mod, Or.inl rfl⟩ ?_ | refine jF_step rfl ⟨lo_mod, Or.inr rfl⟩ ?_)
      simp (disch := omega) only [jS, jm_sI, jm_aft, jm_en, jI, nc8, up_s, up_k, up_i, k8, k9, k32, k3, r16, nI_add, rm2, rm3, rm4, rm5, rm6, rm7, rm8, rm9, rm10, rm11, rm12, rm13, rm15, rm16, rm17, rm18, rm19, rm21, rm22, rm23, rm24, rm25, rm26, rm27, rm28, rm29]
      repeat (first | refine jF_step rfl trivial ?_ | refine jF_step rfl rfl ?_ | refine jF_step rfl (mx7  (show 8 * n + g < 64 by omega)) ?_ | refine jF_step rfl (mw7  (show 8 * n + g < 64 by omega)) ?_)
      simp (disch := omega) only [jS, jm_sI, jm_aft, jm_en, jI, nc8, up_s, up_k, up_i, k8, k9, k32, k3, r16, nI_add, rm2, rm3, rm4, rm5, rm6, rm7, rm8, rm9, rm10, rm11, rm12, rm13, rm15, rm16, rm17, rm18, rm19, rm21, rm22, rm23, rm24, rm25, rm26, rm27, rm28, rm29]
      have hh' := hN n hn
      generalize I 188 (8 * n + g) = h' at fin ret hh' ⊢
      by_cases h2 : h' = nI b
      · rw [if_pos h2]
        repeat (first | refine jF_step rfl trivial ?_ | refine jF_step rfl rfl ?_)
        by_cases h3 : b = g
        · rw [if_pos (congrArg nI h3)]
          rw [if_neg (fun z => z.2 h3)] at fin ret
          have k1 := fun w => ih (k + 1) h' w (by omega) (by omega) hh' fin ret
          simp only [← nI_1 (a := k)] at k1
          repeat (first | exact k1 _ | refine jF_step rfl trivial ?_ | refine jF_step rfl rfl ?_)
        · rw [if_neg (fun z => h3 ((nI_eq (by omega) (by omega)).mp z))]
          rw [if_pos ⟨h2, h3⟩] at ret
          obtain ⟨e1, e2⟩ := ret (nI_ne0 (by omega) (by omega))
          subst e1
          subst e2
          repeat (first | refine jF_step rfl trivial ?_ | refine jF_step rfl rfl ?_)
          exact jF_ret rfl trivial
      · rw [if_neg h2]
        rw [if_neg (fun z => h2 z.1)] at fin ret
        have k1 := fun w => ih (k + 1) h' w (by omega) (by omega) hh' fin ret
        simp only [← nI_1 (a := k)] at k1
        repeat (first | exact k1 _ | refine jF_step rfl trivial ?_ | refine jF_step rfl rfl ?_)
theorem mC_circ0 {g : Nat} {I : jHp} (hg : g < 8) (hN : ∀ i, i < 8 → I 188 (8 * i + g) = -1 ∨ ∃ n, n < 8 ∧ I 188 (8 * i + g) = nI n) : ∀ r b (w : Bool) (y3 y4 : Option Value), b + r = 8 → jm_F (d, 57, 27, [some (.ref 182), some (.int (nI g)), some (.int (nI b)), y3, y4], [], w, jS L I G t) (.inl (some (.int (mCircle I g r b)))) (jS L I G t) := by
  intro r
  induction r with
  | zero =>
    intro b w y3 y4 hb
    have : b = 8 := by omega
    subst this
    repeat (first | refine jF_step rfl trivial ?_ | refine jF_step rfl rfl ?_)
    exact jF_ret rfl trivial
  | succ r ih =>
    intro b w y3 y4 hb
    have hb8 : b < 8 := by omega
    have k1 := fun w y3 y4 => ih (b + 1) w y3 y4 (by omega)
    simp only [← nI_1 (a := b)] at k1
    rw [mCircle]
    repeat (first | refine jF_step rfl trivial ?_ | refine jF_step rfl rfl ?_)
    rw [if_neg (n8 hb8)]
    iterate 4 (first | refine jF_step rfl trivial ?_ | refine jF_step rfl rfl ?_)
    refine mT_circ0 hg hb8 hN 8 1 (nI b) _ rfl (by omega) (Or.inr ⟨b, hb8, rfl⟩) (fun z w y3 y4 => ?_) (fun z => ?_)
    · rw [if_pos z]
      repeat (first | exact k1 _ _ _ | refine jF_step rfl trivial ?_ | refine jF_step rfl rfl ?_)
    · rw [if_neg z]
      exact ⟨rfl, rfl⟩
theorem mC_circ {g : Nat} {I : jHp} (hg : g < 8) (hN : ∀ i, i < 8 → I 188 (8 * i + g) = -1 ∨ ∃ n, n < 8 ∧ I 188 (8 * i + g) = nI n) : jm_F (d + 1, 57, 0, jm_en 57 [.ref 182, .int (nI g)], [], false, jS L I G t) (.inl (some (.int (mCircle (jm_up I 182 0 0) g 8 0)))) (jS L (jm_up I 182 0 0) G t) := by
  have k1 := fun w y3 y4 => mC_circ0 (L := L) (t := t) (d := d + 1) (G := G) (I := jm_up I 182 0 0) hg (fun i hi => by rw [up_k (by omega)]; exact hN i hi) 8 0 w y3 y4 rfl
  generalize mCircle (jm_up I 182 0 0) g 8 0 = res at k1 ⊢
  repeat (first | refine jF_step rfl trivial ?_ | refine jF_step rfl rfl ?_)
  refine jF_callE rfl ⟨Nat.le_of_ble_eq_true rfl, Nat.le_of_ble_eq_true rfl⟩ (mT_boat hg) ?_
  repeat (first | exact k1 _ _ _ | refine jF_step rfl trivial ?_ | refine jF_step rfl rfl ?_ | refine jF_step rfl lo_mod ?_ | refine jF_step rfl ⟨lo_mod, Or.inl rfl⟩ ?_ | refine jF_step rfl ⟨lo_mod, Or.inr rfl⟩ ?_)
theorem mT_bi {a b : Nat} {I : jHp} {out : Option Value ⊕ Nat} {σ : jm_S} (ha : a < 8) : ∀ r k (f : Nat → Int32) (w : Bool), k + r = 8 → (∀ w, jm_F (d, 58, 71, [some (.ref 182), some (.int (nI a)), some (.int (nI b)), some (.int (nI 8)), none, none, none], [], w, jS L (sF I (fI I a r k f)) G t) out σ) → jm_F (d, 58, 34, [some (.ref 182), some (.int (nI a)), some (.int (nI b)), some (.int (nI k)), none, none, none], [], w, jS L (sF I f) G t) out σ := by
  intro r
  induction r with
  | zero =>
    intro k f w hk fin
    have : k = 8 := by omega
    subst this
    repeat (first | exact fin _ | refine jF_step rfl trivial ?_ | refine jF_step rfl rfl ?_)
  | succ r ih =>
    intro k f w hk fin
    have hk8 : k < 8 := by omega
    rw [fI] at fin
    have k1 := fun w => ih (k + 1) _ w (by omega) fin
    simp only [← nI_1 (a := k)] at k1
    repeat (first | refine jF_step rfl trivial ?_ | refine jF_step rfl rfl ?_)
    rw [if_neg (n8 hk8)]
    repeat (first | refine jF_step rfl trivial ?_ | refine jF_step rfl rfl ?_ | refine jF_step rfl lo_mod ?_ | refine jF_step rfl ⟨lo_mod, Or.inl rfl⟩ ?_ | refine jF_step rfl ⟨lo_mod, Or.inr rfl⟩ ?_)
    by_cases h : k = a
    · rw [if_pos (congrArg nI h)]
      repeat (first | refine jF_step rfl trivial ?_ | refine jF_step rfl rfl ?_ | refine jF_step rfl lo_mod ?_ | refine jF_step rfl ⟨lo_mod, Or.inl rfl⟩ ?_ | refine jF_step rfl ⟨lo_mod, Or.inr rfl⟩ ?_ | refine jF_step rfl (mw2  ha) ?_ | refine jF_step rfl ⟨mw2  ha, Or.inl rfl⟩ ?_ | refine jF_step rfl ⟨mw2  ha, Or.inr rfl⟩ ?_)
      simp (disch := omega) only [jS, jm_sI, jm_aft, jm_en, jI, nc8, up_s, up_k, up_i, k8, k9, k32, k3, r16, nI_add, rm2, rm3, rm4, rm5, rm6, rm7, rm8, rm9, rm10, rm11, rm12, rm13, rm15, rm16, rm17, rm18, rm19, rm21, rm22, rm23, rm24, rm25, rm26, rm27, rm28, rm29, sF_n]
      by_cases h2 : I 183 a = 0
      · rw [if_pos h2]
        rw [if_neg (fun z => z.2 h2)] at k1
        iterate 1 (first | refine jF_step rfl trivial ?_ | refine jF_step rfl rfl ?_)
        iterate 1 (first | refine jF_step rfl trivial ?_ | refine jF_step rfl rfl ?_ | refine jF_step rfl (mx29  hk8) ?_ | refine jF_step rfl (mw29  hk8) ?_)
        simp (disch := omega) only [jS, jm_sI, jm_aft, jm_en, jI, nc8, up_s, up_k, up_i, k8, k9, k32, k3, r16, nI_add, rm2, rm3, rm4, rm5, rm6, rm7, rm8, rm9, rm10, rm11, rm12, rm13, rm15, rm16, rm17, rm18, rm19, rm21, rm22, rm23, rm24, rm25, rm26, rm27, rm28, rm29, sF_up]
        repeat (first | exact k1 _ | refine jF_step rfl trivial ?_ | refine jF_step rfl rfl ?_)
      · rw [if_neg h2]
        rw [if_pos ⟨h, h2⟩] at k1
        iterate 2 (first | refine jF_step rfl trivial ?_ | refine jF_step rfl rfl ?_)
        iterate 1 (first | refine jF_step rfl trivial ?_ | refine jF_step rfl rfl ?_ | refine jF_step rfl (mx29  hk8) ?_ | refine jF_step rfl (mw29  hk8) ?_)
        simp (disch := omega) only [jS, jm_sI, jm_aft, jm_en, jI, nc8, up_s, up_k, up_i, k8, k9, k32, k3, r16, nI_add, rm2, rm3, rm4, rm5, rm6, rm7, rm8, rm9, rm10, rm11, rm12, rm13, rm15, rm16, rm17, rm18, rm19, rm21, rm22, rm23, rm24, rm25, rm26, rm27, rm28, rm29, sF_up]
        repeat (first | exact k1 _ | refine jF_step rfl trivial ?_ | refine jF_step rfl rfl ?_)
    · rw [if_neg (fun z => h ((nI_eq (by omega) (by omega)).mp z))]
      rw [if_neg (fun z => h z.1)] at k1
      iterate 1 (first | refine jF_step rfl trivial ?_ | refine jF_step rfl rfl ?_)
      iterate 1 (first | refine jF_step rfl trivial ?_ | refine jF_step rfl rfl ?_ | refine jF_step rfl (mx29  hk8) ?_ | refine jF_step rfl (mw29  hk8) ?_)
      simp (disch := omega) only [jS, jm_sI, jm_aft, jm_en, jI, nc8, up_s, up_k, up_i, k8, k9, k32, k3, r16, nI_add, rm2, rm3, rm4, rm5, rm6, rm7, rm8, rm9, rm10, rm11, rm12, rm13, rm15, rm16, rm17, rm18, rm19, rm21, rm22, rm23, rm24, rm25, rm26, rm27, rm28, rm29, sF_up]
      repeat (first | exact k1 _ | refine jF_step rfl trivial ?_ | refine jF_step rfl rfl ?_)
theorem mT_bl2 {x : Int32} {a b rd k l : Nat} {c : Int32} {I : jHp} {f : Nat → Int32} {out : Option Value ⊕ Nat} {σ : jm_S} {w : Bool} {y : Option Value} (hl : l < 8) (hx : x = if c = 0 then f l else nI (rd + 1)) (fin : ∀ w y, jm_F (d, 58, 178, [some (.ref 182), some (.int (nI a)), some (.int (nI b)), some (.int (nI rd)), some (.int (nI k)), some (.int (nI l)), y], [], w, jS L (sF I (upd f l x)) G t) out σ) : jm_F (d, 58, 151, [some (.ref 182), some (.int (nI a)), some (.int (nI b)), some (.int (nI rd)), some (.int (nI k)), some (.int (nI l)), y], [.int c], w, jS L (sF I f) G t) out σ := by
  subst hx
  repeat (first | refine jF_step rfl trivial ?_ | refine jF_step rfl rfl ?_ | refine jF_step rfl lo_mod ?_ | refine jF_step rfl ⟨lo_mod, Or.inl rfl⟩ ?_ | refine jF_step rfl ⟨lo_mod, Or.inr rfl⟩ ?_)
  by_cases h : c = 0
  · rw [if_pos h] at fin ⊢
    iterate 3 (first | refine jF_step rfl trivial ?_ | refine jF_step rfl rfl ?_ | refine jF_step rfl lo_mod ?_ | refine jF_step rfl ⟨lo_mod, Or.inl rfl⟩ ?_ | refine jF_step rfl ⟨lo_mod, Or.inr rfl⟩ ?_)
    iterate 1 (first | refine jF_step rfl trivial ?_ | refine jF_step rfl rfl ?_ | refine jF_step rfl (mx29  hl) ?_ | refine jF_step rfl (mw29  hl) ?_)
    simp (disch := omega) only [jS, jm_sI, jm_aft, jm_en, jI, nc8, up_s, up_k, up_i, k8, k9, k32, k3, r16, nI_add, rm2, rm3, rm4, rm5, rm6, rm7, rm8, rm9, rm10, rm11, rm12, rm13, rm15, rm16, rm17, rm18, rm19, rm21, rm22, rm23, rm24, rm25, rm26, rm27, rm28, rm29, sF_s]
    iterate 1 (first | refine jF_step rfl trivial ?_ | refine jF_step rfl rfl ?_ | refine jF_step rfl (mx29  hl) ?_ | refine jF_step rfl (mw29  hl) ?_)
    simp (disch := omega) only [jS, jm_sI, jm_aft, jm_en, jI, nc8, up_s, up_k, up_i, k8, k9, k32, k3, r16, nI_add, rm2, rm3, rm4, rm5, rm6, rm7, rm8, rm9, rm10, rm11, rm12, rm13, rm15, rm16, rm17, rm18, rm19, rm21, rm22, rm23, rm24, rm25, rm26, rm27, rm28, rm29, sF_up]
    exact fin _ _
  · rw [if_neg h] at fin ⊢
    iterate 4 (first | refine jF_step rfl trivial ?_ | refine jF_step rfl rfl ?_ | refine jF_step rfl lo_mod ?_ | refine jF_step rfl ⟨lo_mod, Or.inl rfl⟩ ?_ | refine jF_step rfl ⟨lo_mod, Or.inr rfl⟩ ?_)
    simp (disch := omega) only [jS, jm_sI, jm_aft, jm_en, jI, nc8, up_s, up_k, up_i, k8, k9, k32, k3, r16, nI_add, rm2, rm3, rm4, rm5, rm6, rm7, rm8, rm9, rm10, rm11, rm12, rm13, rm15, rm16, rm17, rm18, rm19, rm21, rm22, rm23, rm24, rm25, rm26, rm27, rm28, rm29, nI_1]
    iterate 1 (first | refine jF_step rfl trivial ?_ | refine jF_step rfl rfl ?_ | refine jF_step rfl (mx29  hl) ?_ | refine jF_step rfl (mw29  hl) ?_)
    simp (disch := omega) only [jS, jm_sI, jm_aft, jm_en, jI, nc8, up_s, up_k, up_i, k8, k9, k32, k3, r16, nI_add, rm2, rm3, rm4, rm5, rm6, rm7, rm8, rm9, rm10, rm11, rm12, rm13, rm15, rm16, rm17, rm18, rm19, rm21, rm22, rm23, rm24, rm25, rm26, rm27, rm28, rm29, sF_up]
    exact fin _ _
theorem mT_bl {a b rd k : Nat} {I : jHp} {out : Option Value ⊕ Nat} {σ : jm_S} (hk : k < 8) : ∀ r l (f : Nat → Int32) (w : Bool) (y : Option Value), l + r = 8 → (∀ w y, jm_F (d, 58, 184, [some (.ref 182), some (.int (nI a)), some (.int (nI b)), some (.int (nI rd)), some (.int (nI k)), some (.int (nI 8)), y], [], w, jS L (sF I (fL I rd k r l f)) G t) out σ) → jm_F (d, 58, 92, [some (.ref 182), some (.int (nI a)), some (.int (nI b)), some (.int (nI rd)), some (.int (nI k)), some (.int (nI l)), y], [], w, jS L (sF I f) G t) out σ := by
  intro r
  induction r with
  | zero =>
    intro l f w y hl fin
    have : l = 8 := by omega
    subst this
    repeat (first | exact fin _ _ | refine jF_step rfl trivial ?_ | refine jF_step rfl rfl ?_)
  | succ r ih =>
    intro l f w y hl fin
    have hl8 : l < 8 := by omega
    rw [fL] at fin
    have k0 := fun w y => ih (l + 1) _ w y (by omega) fin
    simp only [← nI_1 (a := l)] at k0
    have k1 : ∀ w y, jm_F (d, 58, 178, [some (.ref 182), some (.int (nI a)), some (.int (nI b)), some (.int (nI rd)), some (.int (nI k)), some (.int (nI l)), y], [], w, jS L (sF I (upd f l (if f k = nI rd ∧ ¬ I 184 (8 * k + l) = 0 ∧ ¬ I 183 l = 0 ∧ f l < 0 then nI (rd + 1) else f l))) G t) out σ := by
      intro w y
      repeat (first | exact k0 _ _ | refine jF_step rfl trivial ?_ | refine jF_step rfl rfl ?_)
    repeat (first | refine jF_step rfl trivial ?_ | refine jF_step rfl rfl ?_)
    rw [if_neg (n8 hl8)]
    repeat (first | refine jF_step rfl trivial ?_ | refine jF_step rfl rfl ?_ | refine jF_step rfl lo_mod ?_ | refine jF_step rfl ⟨lo_mod, Or.inl rfl⟩ ?_ | refine jF_step rfl ⟨lo_mod, Or.inr rfl⟩ ?_)
    iterate 1 (first | refine jF_step rfl trivial ?_ | refine jF_step rfl rfl ?_ | refine jF_step rfl (mx29  hk) ?_ | refine jF_step rfl (mw29  hk) ?_)
    simp (disch := omega) only [jS, jm_sI, jm_aft, jm_en, jI, nc8, up_s, up_k, up_i, k8, k9, k32, k3, r16, nI_add, rm2, rm3, rm4, rm5, rm6, rm7, rm8, rm9, rm10, rm11, rm12, rm13, rm15, rm16, rm17, rm18, rm19, rm21, rm22, rm23, rm24, rm25, rm26, rm27, rm28, rm29, sF_s]
    repeat (first | refine jF_step rfl trivial ?_ | refine jF_step rfl rfl ?_)
    by_cases h1 : f k = nI rd
    · rw [if_pos h1]
      repeat (first | refine jF_step rfl trivial ?_ | refine jF_step rfl rfl ?_ | refine jF_step rfl lo_mod ?_ | refine jF_step rfl ⟨lo_mod, Or.inl rfl⟩ ?_ | refine jF_step rfl ⟨lo_mod, Or.inr rfl⟩ ?_)
      simp (disch := omega) only [jS, jm_sI, jm_aft, jm_en, jI, nc8, up_s, up_k, up_i, k8, k9, k32, k3, r16, nI_add, rm2, rm3, rm4, rm5, rm6, rm7, rm8, rm9, rm10, rm11, rm12, rm13, rm15, rm16, rm17, rm18, rm19, rm21, rm22, rm23, rm24, rm25, rm26, rm27, rm28, rm29]
      iterate 1 (first | refine jF_step rfl trivial ?_ | refine jF_step rfl rfl ?_ | refine jF_step rfl (mw3  (show 8 * k + l < 64 by omega)) ?_ | refine jF_step rfl ⟨mw3  (show 8 * k + l < 64 by omega), Or.inl rfl⟩ ?_ | refine jF_step rfl ⟨mw3  (show 8 * k + l < 64 by omega), Or.inr rfl⟩ ?_)
      simp (disch := omega) only [jS, jm_sI, jm_aft, jm_en, jI, nc8, up_s, up_k, up_i, k8, k9, k32, k3, r16, nI_add, rm2, rm3, rm4, rm5, rm6, rm7, rm8, rm9, rm10, rm11, rm12, rm13, rm15, rm16, rm17, rm18, rm19, rm21, rm22, rm23, rm24, rm25, rm26, rm27, rm28, rm29, sF_n]
      repeat (first | refine jF_step rfl trivial ?_ | refine jF_step rfl rfl ?_)
      by_cases h2 : I 184 (8 * k + l) = 0
      · rw [if_pos h2]
        rw [if_neg (fun z => z.2.1 h2)] at k1
        iterate 1 (first | refine jF_step rfl trivial ?_ | refine jF_step rfl rfl ?_)
        exact mT_bl2 (c := 0) hl8 (if_pos rfl).symm k1
      rw [if_neg h2]
      repeat (first | refine jF_step rfl trivial ?_ | refine jF_step rfl rfl ?_ | refine jF_step rfl lo_mod ?_ | refine jF_step rfl ⟨lo_mod, Or.inl rfl⟩ ?_ | refine jF_step rfl ⟨lo_mod, Or.inr rfl⟩ ?_)
      iterate 1 (first | refine jF_step rfl trivial ?_ | refine jF_step rfl rfl ?_ | refine jF_step rfl (mw2  hl8) ?_ | refine jF_step rfl ⟨mw2  hl8, Or.inl rfl⟩ ?_ | refine jF_step rfl ⟨mw2  hl8, Or.inr rfl⟩ ?_)
      simp (disch := omega) only [jS, jm_sI, jm_aft, jm_en, jI, nc8, up_s, up_k, up_i, k8, k9, k32, k3, r16, nI_add, rm2, rm3, rm4, rm5, rm6, rm7, rm8, rm9, rm10, rm11, rm12, rm13, rm15, rm16, rm17, rm18, rm19, rm21, rm22, rm23, rm24, rm25, rm26, rm27, rm28, rm29, sF_n]
      repeat (first | refine jF_step rfl trivial ?_ | refine jF_step rfl rfl ?_)
      by_cases h3 : I 183 l = 0
      · rw [if_pos h3]
        rw [if_neg (fun z => z.2.2.1 h3)] at k1
        iterate 1 (first | refine jF_step rfl trivial ?_ | refine jF_step rfl rfl ?_)
        exact mT_bl2 (c := 0) hl8 (if_pos rfl).symm k1
      rw [if_neg h3]
      repeat (first | refine jF_step rfl trivial ?_ | refine jF_step rfl rfl ?_ | refine jF_step rfl lo_mod ?_ | refine jF_step rfl ⟨lo_mod, Or.inl rfl⟩ ?_ | refine jF_step rfl ⟨lo_mod, Or.inr rfl⟩ ?_)
      iterate 1 (first | refine jF_step rfl trivial ?_ | refine jF_step rfl rfl ?_ | refine jF_step rfl (mx29  hl8) ?_ | refine jF_step rfl (mw29  hl8) ?_)
      simp (disch := omega) only [jS, jm_sI, jm_aft, jm_en, jI, nc8, up_s, up_k, up_i, k8, k9, k32, k3, r16, nI_add, rm2, rm3, rm4, rm5, rm6, rm7, rm8, rm9, rm10, rm11, rm12, rm13, rm15, rm16, rm17, rm18, rm19, rm21, rm22, rm23, rm24, rm25, rm26, rm27, rm28, rm29, sF_s]
      repeat (first | refine jF_step rfl trivial ?_ | refine jF_step rfl rfl ?_)
      by_cases h4 : 0 ≤ f l
      · rw [if_pos h4]
        rw [if_neg (fun z => absurd z.2.2.2 (Int32.not_lt.mpr h4))] at k1
        iterate 1 (first | refine jF_step rfl trivial ?_ | refine jF_step rfl rfl ?_)
        exact mT_bl2 (c := 0) hl8 (if_pos rfl).symm k1
      · rw [if_neg h4]
        rw [if_pos ⟨h1, h2, h3, Int32.not_le.mp h4⟩] at k1
        iterate 2 (first | refine jF_step rfl trivial ?_ | refine jF_step rfl rfl ?_)
        exact mT_bl2 (c := 1) hl8 (if_neg (by decide)).symm k1
    · rw [if_neg h1]
      rw [if_neg (fun z => h1 z.1)] at k1
      iterate 1 (first | refine jF_step rfl trivial ?_ | refine jF_step rfl rfl ?_)
      exact mT_bl2 (c := 0) hl8 (if_pos rfl).symm k1
theorem mT_bk {a b rd : Nat} {I : jHp} {out : Option Value ⊕ Nat} {σ : jm_S} : ∀ r k (f : Nat → Int32) (w : Bool) (y5 y6 : Option Value), k + r = 8 → (∀ w y5 y6, jm_F (d, 58, 190, [some (.ref 182), some (.int (nI a)), some (.int (nI b)), some (.int (nI rd)), some (.int (nI 8)), y5, y6], [], w, jS L (sF I (fK I rd r k f)) G t) out σ) → jm_F (d, 58, 82, [some (.ref 182), some (.int (nI a)), some (.int (nI b)), some (.int (nI rd)), some (.int (nI k)), y5, y6], [], w, jS L (sF I f) G t) out σ := by
  intro r
  induction r with
  | zero =>
    intro k f w y5 y6 hk fin
    have : k = 8 := by omega
    subst this
    repeat (first | exact fin _ _ _ | refine jF_step rfl trivial ?_ | refine jF_step rfl rfl ?_)
  | succ r ih =>
    intro k f w y5 y6 hk fin
    have hk8 : k < 8 := by omega
    rw [fK] at fin
    have k0 := fun w y5 y6 => ih (k + 1) _ w y5 y6 (by omega) fin
    simp only [← nI_1 (a := k)] at k0
    repeat (first | refine jF_step rfl trivial ?_ | refine jF_step rfl rfl ?_)
    rw [if_neg (n8 hk8)]
    iterate 2 (first | refine jF_step rfl trivial ?_ | refine jF_step rfl rfl ?_)
    refine mT_bl hk8 8 0 f _ _ rfl (fun w y => ?_)
    repeat (first | exact k0 _ _ _ | refine jF_step rfl trivial ?_ | refine jF_step rfl rfl ?_)
theorem mT_br {a b : Nat} {I : jHp} {out : Option Value ⊕ Nat} {σ : jm_S} : ∀ r rd (f : Nat → Int32) (w : Bool) (y4 y5 y6 : Option Value), rd + r = 8 → (∀ w y4 y5 y6, jm_F (d, 58, 196, [some (.ref 182), some (.int (nI a)), some (.int (nI b)), some (.int (nI 8)), y4, y5, y6], [], w, jS L (sF I (fR I r rd f)) G t) out σ) → jm_F (d, 58, 73, [some (.ref 182), some (.int (nI a)), some (.int (nI b)), some (.int (nI rd)), y4, y5, y6], [], w, jS L (sF I f) G t) out σ := by
  intro r
  induction r with
  | zero =>
    intro rd f w y4 y5 y6 hk fin
    have : rd = 8 := by omega
    subst this
    repeat (first | exact fin _ _ _ _ | refine jF_step rfl trivial ?_ | refine jF_step rfl rfl ?_)
  | succ r ih =>
    intro rd f w y4 y5 y6 hk fin
    have hk8 : rd < 8 := by omega
    rw [fR] at fin
    have k0 := fun w y4 y5 y6 => ih (rd + 1) _ w y4 y5 y6 (by omega) fin
    simp only [← nI_1 (a := rd)] at k0
    repeat (first | refine jF_step rfl trivial ?_ | refine jF_step rfl rfl ?_)
    rw [if_neg (n8 hk8)]
    iterate 2 (first | refine jF_step rfl trivial ?_ | refine jF_step rfl rfl ?_)
    refine mT_bk 8 0 f _ _ _ rfl (fun w y5 y6 => ?_)
    repeat (first | exact k0 _ _ _ _ | refine jF_step rfl trivial ?_ | refine jF_step rfl rfl ?_)
/-- the distances from a -/
def mFar (I : jHp) (a : Nat) : Nat → Int32 := fR (jm_up I 182 0 0) 8 0 (fI (jm_up I 182 0 0) a 8 0 (I 208))
theorem mC_best {a b : Nat} {I : jHp} (ha : a < 8) (hb : b < 8) : jm_F (d + 1, 58, 0, jm_en 58 [.ref 182, .int (nI a), .int (nI b)], [], false, jS L I G t) (.inl (some (.int (mFar I a b)))) (jS L (sF (jm_up I 182 0 0) (mFar I a)) G t) := by
  have k1 : ∀ w, jm_F (d + 1, 58, 34, [some (.ref 182), some (.int (nI a)), some (.int (nI b)), some (.int (nI 0)), none, none, none], [], w, jS L (sF (jm_up I 182 0 0) (I 208)) G t) (.inl (some (.int (mFar I a b)))) (jS L (sF (jm_up I 182 0 0) (mFar I a)) G t) := by
    intro w
    refine mT_bi ha 8 0 (I 208) w rfl (fun w => ?_)
    iterate 2 (first | refine jF_step rfl trivial ?_ | refine jF_step rfl rfl ?_)
    refine mT_br 8 0 _ _ _ _ _ rfl (fun w y4 y5 y6 => ?_)
    unfold mFar
    generalize fR (jm_up I 182 0 0) 8 0 (fI (jm_up I 182 0 0) a 8 0 (I 208)) = f
    repeat (first | refine jF_step rfl trivial ?_ | refine jF_step rfl rfl ?_ | refine jF_step rfl lo_mod ?_ | refine jF_step rfl ⟨lo_mod, Or.inl rfl⟩ ?_ | refine jF_step rfl ⟨lo_mod, Or.inr rfl⟩ ?_)
    iterate 1 (first | refine jF_step rfl trivial ?_ | refine jF_step rfl rfl ?_ | refine jF_step rfl (mx29  hb) ?_ | refine jF_step rfl (mw29  hb) ?_)
    simp (disch := omega) only [jS, jm_sI, jm_aft, jm_en, jI, nc8, up_s, up_k, up_i, k8, k9, k32, k3, r16, nI_add, rm2, rm3, rm4, rm5, rm6, rm7, rm8, rm9, rm10, rm11, rm12, rm13, rm15, rm16, rm17, rm18, rm19, rm21, rm22, rm23, rm24, rm25, rm26, rm27, rm28, rm29, sF_s]
    exact jF_ret rfl trivial
  have e : sF (jm_up I 182 0 0) (I 208) = jm_up I 182 0 0 := by
    have e1 : I 208 = jm_up I 182 0 0 208 := by funext j; rw [up_k (by omega)]
    rw [e1]; exact sF_i
  rw [e] at k1
  generalize mFar I a = f at k1 ⊢
  repeat (first | refine jF_step rfl trivial ?_ | refine jF_step rfl rfl ?_)
  refine jF_callE rfl ⟨Nat.le_of_ble_eq_true rfl, Nat.le_of_ble_eq_true rfl⟩ (mT_boat ha) ?_
  repeat (first | refine jF_step rfl trivial ?_ | refine jF_step rfl rfl ?_)
  refine jF_callE rfl ⟨Nat.le_of_ble_eq_true rfl, Nat.le_of_ble_eq_true rfl⟩ (mT_boat hb) ?_
  repeat (first | exact k1 _ | refine jF_step rfl trivial ?_ | refine jF_step rfl rfl ?_ | refine jF_step rfl lo_mod ?_ | refine jF_step rfl ⟨lo_mod, Or.inl rfl⟩ ?_ | refine jF_step rfl ⟨lo_mod, Or.inr rfl⟩ ?_)
theorem mC_bestX {x y : Int32} {I : jHp} (h : (x < 0 ∨ ¬ x < 8) ∨ (y < 0 ∨ ¬ y < 8)) : jm_F (d + 1, 58, 0, jm_en 58 [.ref 182, .int x, .int y], [], false, jS L I G t) (.inl (some (.int 0))) (jS L (jm_up I 182 0 1) G t) := by
  repeat (first | refine jF_step rfl trivial ?_ | refine jF_step rfl rfl ?_)
  by_cases hx : x < 0 ∨ ¬ x < 8
  · refine jF_callE rfl ⟨Nat.le_of_ble_eq_true rfl, Nat.le_of_ble_eq_true rfl⟩ (mT_boatX hx) ?_
    repeat (first | refine jF_step rfl trivial ?_ | refine jF_step rfl rfl ?_ | refine jF_step rfl lo_mod ?_ | refine jF_step rfl ⟨lo_mod, Or.inl rfl⟩ ?_ | refine jF_step rfl ⟨lo_mod, Or.inr rfl⟩ ?_ | simp (disch := omega) only [jS, jm_sI, jm_aft, jm_en, jI, nc8, up_s, up_k, up_i, k8, k9, k32, k3, r16, nI_add, rm2, rm3, rm4, rm5, rm6, rm7, rm8, rm9, rm10, rm11, rm12, rm13, rm15, rm16, rm17, rm18, rm19, rm21, rm22, rm23, rm24, rm25, rm26, rm27, rm28, rm29])
    exact jF_ret rfl trivial
  · obtain ⟨i, hi, rfl⟩ := nb_of hx
    refine jF_callE rfl ⟨Nat.le_of_ble_eq_true rfl, Nat.le_of_ble_eq_true rfl⟩ (mT_boat hi) ?_
    repeat (first | refine jF_step rfl trivial ?_ | refine jF_step rfl rfl ?_)
    refine jF_callE rfl ⟨Nat.le_of_ble_eq_true rfl, Nat.le_of_ble_eq_true rfl⟩ (mT_boatX (h.elim (fun z => absurd z hx) id)) ?_
    repeat (first | refine jF_step rfl trivial ?_ | refine jF_step rfl rfl ?_ | refine jF_step rfl lo_mod ?_ | refine jF_step rfl ⟨lo_mod, Or.inl rfl⟩ ?_ | refine jF_step rfl ⟨lo_mod, Or.inr rfl⟩ ?_ | simp (disch := omega) only [jS, jm_sI, jm_aft, jm_en, jI, nc8, up_s, up_k, up_i, k8, k9, k32, k3, r16, nI_add, rm2, rm3, rm4, rm5, rm6, rm7, rm8, rm9, rm10, rm11, rm12, rm13, rm15, rm16, rm17, rm18, rm19, rm21, rm22, rm23, rm24, rm25, rm26, rm27, rm28, rm29])
    exact jF_ret rfl trivial
end
