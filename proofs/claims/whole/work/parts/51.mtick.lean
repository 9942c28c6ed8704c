/-! runs of the small machine: the reference ticks -/
def mLoseE (k : Nat) (I : jHp) : jHp := mShow k (jm_up (jm_up (jm_up I 186 k (I 186 k + 1)) 187 k (-1)) 188 k (-1))
def mLoseW (i o : Nat) : Nat → Nat → jHp → jHp
  | 0, _, I => I
  | r + 1, g, I => mLoseW i o r (g + 1) (if g ≠ i ∧ I 188 (8 * i + g) = nI o then mLoseE (8 * i + g) I else I)
def mForget (i : Nat) : Nat → Nat → jHp → jHp
  | 0, _, I => I
  | r + 1, o, I => mForget i r (o + 1) (if I 185 (8 * i + o) < 0 ∨ I 182 1 - I 185 (8 * i + o) ≤ 5 then I else mLoseW i o 8 0 (jm_up I 185 (8 * i + o) (-1)))
def mSettleE (k : Nat) (I : jHp) : jHp := if I 192 k = 0 ∨ 4 * (I 182 1 - I 193 k) < 2 * I 194 k then I else mShow k I
def mSettle (i : Nat) : Nat → Nat → jHp → jHp
  | 0, _, I => I
  | r + 1, g, I => mSettle i r (g + 1) (mSettleE (8 * i + g) I)
def mTick : Nat → Nat → jHp → jHp
  | 0, _, I => I
  | r + 1, i, I => mTick r (i + 1) (if I 183 i = 0 then I else mSettle i 8 0 (mForget i 8 0 I))
theorem mLoseE_r {k r j : Nat} {I : jHp} (h : r < 186 ∨ 194 < r) : mLoseE k I r j = I r j := by
  unfold mLoseE; rw [mShow_r h, up_k (by omega), up_k (by omega), up_k (by omega)]
theorem mLoseW_r {i o q j : Nat} (h : q < 186 ∨ 194 < q) : ∀ r g I, mLoseW i o r g I q j = I q j := by
  intro r
  induction r with
  | zero => intro g I; rfl
  | succ r ih =>
    intro g I
    rw [mLoseW, ih]
    split
    · exact mLoseE_r h
    · rfl
theorem mForget_r {i q j : Nat} (h : q < 185 ∨ 194 < q) : ∀ r o I, mForget i r o I q j = I q j := by
  intro r
  induction r with
  | zero => intro g I; rfl
  | succ r ih =>
    intro g I
    rw [mForget, ih]
    split
    · rfl
    · rw [mLoseW_r (by omega), up_k (by omega)]
theorem mSettle_r {i q j : Nat} (h : q < 186 ∨ 194 < q) : ∀ r o I, mSettle i r o I q j = I q j := by
  intro r
  induction r with
  | zero => intro g I; rfl
  | succ r ih =>
    intro g I
    rw [mSettle, ih]
    unfold mSettleE
    split
    · rfl
    · rw [mShow_r h]
section
variable {L t d : Nat} {G : Nat → Nat → Int64}
theorem mT_lose0 {i o : Nat} (hi : i < 8) : ∀ r g (I : jHp) (w : Bool) (y : Option Value), g + r = 8 → jm_F (d + 1, 47, 14, [some (.ref 182), some (.int (nI i)), some (.int (nI o)), some (.int (nI g)), y], [], w, jS L I G t) (.inl none) (jS L (mLoseW i o r g I) G t) := by
  intro r
  induction r with
  | zero =>
    intro g I w y hg
    have : g = 8 := by omega
    subst this
    repeat (first | refine jF_step rfl trivial ?_ | refine jF_step rfl rfl ?_)
    exact jF_ret rfl trivial
  | succ r ih =>
    intro g I w y hg
    have hg8 : g < 8 := by omega
    have hk : 8 * i + g < 64 := by omega
    have k1 := fun I w y => ih (g + 1) I w y (by omega)
    simp only [← nI_1 (a := g)] at k1
    rw [mLoseW]
    repeat (first | refine jF_step rfl trivial ?_ | refine jF_step rfl rfl ?_)
    rw [if_neg (n8 hg8)]
    repeat (first | refine jF_step rfl trivial ?_ | refine jF_step rfl rfl ?_ | simp (disch := omega) only [jS, jm_sI, jm_aft, jm_en, jI, nc8, up_s, up_k, up_i, k8, k9, k32, k3, r16, nI_add, rm2, rm3, rm4, rm5, rm6, rm7, rm8, rm9, rm10, rm11, rm12, rm13, rm15, rm16, rm17, rm18, rm19, rm21, rm22, rm23, rm24, rm25, rm26, rm27, rm28, rm29])
    by_cases h : g = i
    · rw [if_pos (congrArg nI h), if_neg (fun z => z.1 h)]
      repeat (first | exact k1 _ _ _ | refine jF_step rfl trivial ?_ | refine jF_step rfl rfl ?_)
    · rw [if_neg (fun z => h ((nI_eq (by omega) (by omega)).mp z))]
      repeat (first | refine jF_step rfl trivial ?_ | refine jF_step rfl rfl ?_ | refine jF_step rfl lo_mod ?_ | refine jF_step rfl ⟨lo_mod, Or.inl rfl⟩ ?_ | refine jF_step rfl ⟨lo_mod, Or.inr rfl⟩ ?_ | refine jF_step rfl (mx7  hk) ?_ | refine jF_step rfl (mw7  hk) ?_ | simp (disch := omega) only [jS, jm_sI, jm_aft, jm_en, jI, nc8, up_s, up_k, up_i, k8, k9, k32, k3, r16, nI_add, rm2, rm3, rm4, rm5, rm6, rm7, rm8, rm9, rm10, rm11, rm12, rm13, rm15, rm16, rm17, rm18, rm19, rm21, rm22, rm23, rm24, rm25, rm26, rm27, rm28, rm29])
      by_cases h2 : I 188 (8 * i + g) = nI o
      · rw [if_pos h2, if_pos ⟨h, h2⟩]
        repeat (first | refine jF_step rfl trivial ?_ | refine jF_step rfl rfl ?_ | refine jF_step rfl lo_mod ?_ | refine jF_step rfl ⟨lo_mod, Or.inl rfl⟩ ?_ | refine jF_step rfl ⟨lo_mod, Or.inr rfl⟩ ?_ | refine jF_step rfl ⟨rfl, rfl⟩ ?_ | refine jF_step rfl ⟨⟨rfl, rfl⟩, Or.inl rfl⟩ ?_ | refine jF_step rfl ⟨⟨rfl, rfl⟩, Or.inr rfl⟩ ?_ | refine jF_step rfl (mx5  hk) ?_ | refine jF_step rfl (mw5  hk) ?_ | refine jF_step rfl (mx6  hk) ?_ | refine jF_step rfl (mw6  hk) ?_ | refine jF_step rfl (mx7  hk) ?_ | refine jF_step rfl (mw7  hk) ?_ | simp (disch := omega) only [jS, jm_sI, jm_aft, jm_en, jI, nc8, up_s, up_k, up_i, k8, k9, k32, k3, r16, nI_add, rm2, rm3, rm4, rm5, rm6, rm7, rm8, rm9, rm10, rm11, rm12, rm13, rm15, rm16, rm17, rm18, rm19, rm21, rm22, rm23, rm24, rm25, rm26, rm27, rm28, rm29])
        refine jF_callE rfl ⟨Nat.le_of_ble_eq_true rfl, lo_mod⟩ (mT_show hk) ?_
        repeat (first | exact k1 _ _ _ | refine jF_step rfl trivial ?_ | refine jF_step rfl rfl ?_)
      · rw [if_neg h2, if_neg (fun z => h2 z.2)]
        repeat (first | exact k1 _ _ _ | refine jF_step rfl trivial ?_ | refine jF_step rfl rfl ?_)
theorem mT_lose {i o : Nat} {I : jHp} (hi : i < 8) (ho : o < 8) : jm_F (d + 1, 47, 0, jm_en 47 [.ref 182, .int (nI i), .int (nI o)], [], false, jS L I G t) (.inl none) (jS L (mLoseW i o 8 0 (jm_up I 185 (8 * i + o) (-1))) G t) := by
  have k1 := fun w y => mT_lose0 (L := L) (t := t) (d := d) (G := G) (o := o) hi 8 0 (jm_up I 185 (8 * i + o) (-1)) w y rfl
  repeat (first | refine jF_step rfl trivial ?_ | refine jF_step rfl rfl ?_ | refine jF_step rfl lo_mod ?_ | refine jF_step rfl ⟨lo_mod, Or.inl rfl⟩ ?_ | refine jF_step rfl ⟨lo_mod, Or.inr rfl⟩ ?_)
  simp (disch := omega) only [jS, jm_sI, jm_aft, jm_en, jI, nc8, up_s, up_k, up_i, k8, k9, k32, k3, r16, nI_add, rm2, rm3, rm4, rm5, rm6, rm7, rm8, rm9, rm10, rm11, rm12, rm13, rm15, rm16, rm17, rm18, rm19, rm21, rm22, rm23, rm24, rm25, rm26, rm27, rm28, rm29]
  iterate 1 (first | refine jF_step rfl trivial ?_ | refine jF_step rfl rfl ?_ | refine jF_step rfl (mx4  (show 8 * i + o < 64 by omega)) ?_ | refine jF_step rfl (mw4  (show 8 * i + o < 64 by omega)) ?_)
  simp (disch := omega) only [jS, jm_sI, jm_aft, jm_en, jI, nc8, up_s, up_k, up_i, k8, k9, k32, k3, r16, nI_add, rm2, rm3, rm4, rm5, rm6, rm7, rm8, rm9, rm10, rm11, rm12, rm13, rm15, rm16, rm17, rm18, rm19, rm21, rm22, rm23, rm24, rm25, rm26, rm27, rm28, rm29]
  repeat (first | exact k1 _ _ | refine jF_step rfl trivial ?_ | refine jF_step rfl rfl ?_)
theorem mT_forget0 {i : Nat} {out : Option Value ⊕ Nat} {σ : jm_S} (hi : i < 8) : ∀ r o (I : jHp) (w : Bool), o + r = 8 → ¬ I 183 i = 0 → (∀ w, jm_F (d + 2, 48, 86, [some (.ref 182), some (.int (nI i)), some (.int (nI 8))], [], w, jS L (mForget i r o I) G t) out σ) → jm_F (d + 2, 48, 25, [some (.ref 182), some (.int (nI i)), some (.int (nI o))], [], w, jS L I G t) out σ := by
  intro r
  induction r with
  | zero =>
    intro o I w ho hn fin
    have : o = 8 := by omega
    subst this
    repeat (first | exact fin _ | refine jF_step rfl trivial ?_ | refine jF_step rfl rfl ?_)
  | succ r ih =>
    intro o I w ho hn fin
    have ho8 : o < 8 := by omega
    have hk : 8 * i + o < 64 := by omega
    rw [mForget] at fin
    repeat (first | refine jF_step rfl trivial ?_ | refine jF_step rfl rfl ?_)
    rw [if_neg (n8 ho8)]
    repeat (first | refine jF_step rfl trivial ?_ | refine jF_step rfl rfl ?_ | refine jF_step rfl lo_mod ?_ | refine jF_step rfl ⟨lo_mod, Or.inl rfl⟩ ?_ | refine jF_step rfl ⟨lo_mod, Or.inr rfl⟩ ?_ | refine jF_step rfl (mw2  hi) ?_ | refine jF_step rfl ⟨mw2  hi, Or.inl rfl⟩ ?_ | refine jF_step rfl ⟨mw2  hi, Or.inr rfl⟩ ?_ | simp (disch := omega) only [jS, jm_sI, jm_aft, jm_en, jI, nc8, up_s, up_k, up_i, k8, k9, k32, k3, r16, nI_add, rm2, rm3, rm4, rm5, rm6, rm7, rm8, rm9, rm10, rm11, rm12, rm13, rm15, rm16, rm17, rm18, rm19, rm21, rm22, rm23, rm24, rm25, rm26, rm27, rm28, rm29])
    rw [if_neg hn]
    repeat (first | refine jF_step rfl trivial ?_ | refine jF_step rfl rfl ?_ | refine jF_step rfl lo_mod ?_ | refine jF_step rfl ⟨lo_mod, Or.inl rfl⟩ ?_ | refine jF_step rfl ⟨lo_mod, Or.inr rfl⟩ ?_ | refine jF_step rfl (mx4  hk) ?_ | refine jF_step rfl (mw4  hk) ?_ | simp (disch := omega) only [jS, jm_sI, jm_aft, jm_en, jI, nc8, up_s, up_k, up_i, k8, k9, k32, k3, r16, nI_add, rm2, rm3, rm4, rm5, rm6, rm7, rm8, rm9, rm10, rm11, rm12, rm13, rm15, rm16, rm17, rm18, rm19, rm21, rm22, rm23, rm24, rm25, rm26, rm27, rm28, rm29])
    by_cases h1 : I 185 (8 * i + o) < 0
    · rw [if_pos (Or.inl h1)] at fin
      rw [if_pos h1]
      have k1 := fun w => ih (o + 1) I w (by omega) hn fin
      simp only [← nI_1 (a := o)] at k1
      repeat (first | exact k1 _ | refine jF_step rfl trivial ?_ | refine jF_step rfl rfl ?_)
    rw [if_neg h1]
    repeat (first | refine jF_step rfl trivial ?_ | refine jF_step rfl rfl ?_ | refine jF_step rfl lo_mod ?_ | refine jF_step rfl ⟨lo_mod, Or.inl rfl⟩ ?_ | refine jF_step rfl ⟨lo_mod, Or.inr rfl⟩ ?_ | refine jF_step rfl (mx4  hk) ?_ | refine jF_step rfl (mw4  hk) ?_ | simp (disch := omega) only [jS, jm_sI, jm_aft, jm_en, jI, nc8, up_s, up_k, up_i, k8, k9, k32, k3, r16, nI_add, rm2, rm3, rm4, rm5, rm6, rm7, rm8, rm9, rm10, rm11, rm12, rm13, rm15, rm16, rm17, rm18, rm19, rm21, rm22, rm23, rm24, rm25, rm26, rm27, rm28, rm29])
    by_cases h2 : I 182 1 - I 185 (8 * i + o) ≤ 5
    · rw [if_pos (Or.inr h2)] at fin
      rw [if_pos h2]
      have k1 := fun w => ih (o + 1) I w (by omega) hn fin
      simp only [← nI_1 (a := o)] at k1
      repeat (first | exact k1 _ | refine jF_step rfl trivial ?_ | refine jF_step rfl rfl ?_)
    · rw [if_neg (fun z => z.elim h1 h2)] at fin
      rw [if_neg h2]
      have k1 := fun w => ih (o + 1) (mLoseW i o 8 0 (jm_up I 185 (8 * i + o) (-1))) w (by omega) (by rw [mLoseW_r (by omega), up_k (by omega)]; exact hn) fin
      simp only [← nI_1 (a := o)] at k1
      repeat (first | refine jF_step rfl trivial ?_ | refine jF_step rfl rfl ?_)
      refine jF_call rfl ⟨Nat.le_of_ble_eq_true rfl, lo_mod⟩ (mT_lose hi ho8) (fun w => ?_)
      repeat (first | exact k1 _ | refine jF_step rfl trivial ?_ | refine jF_step rfl rfl ?_)
theorem mT_settle0 {i : Nat} {out : Option Value ⊕ Nat} {σ : jm_S} (hi : i < 8) : ∀ r g (I : jHp) (w : Bool), g + r = 8 → ¬ I 183 i = 0 → (∀ w y, jm_F (d + 2, 48, 155, [some (.ref 182), some (.int (nI i)), y], [], w, jS L (mSettle i r g I) G t) out σ) → jm_F (d + 2, 48, 91, [some (.ref 182), some (.int (nI i)), some (.int (nI (8 * i + g)))], [], w, jS L I G t) out σ := by
  have e8 : ∀ a : Nat, nI a + 8 = nI (a + 8) := fun a => nI_add a 8
  intro r
  induction r with
  | zero =>
    intro g I w hg hn fin
    have : g = 8 := by omega
    subst this
    repeat (first | refine jF_step rfl trivial ?_ | refine jF_step rfl rfl ?_)
    simp (disch := omega) only [jS, jm_sI, jm_aft, jm_en, jI, nc8, up_s, up_k, up_i, k8, k9, k32, k3, r16, nI_add, rm2, rm3, rm4, rm5, rm6, rm7, rm8, rm9, rm10, rm11, rm12, rm13, rm15, rm16, rm17, rm18, rm19, rm21, rm22, rm23, rm24, rm25, rm26, rm27, rm28, rm29, e8]
    rw [if_pos (n_ge' (Nat.le_refl _) (by omega))]
    exact fin _ _
  | succ r ih =>
    intro g I w hg hn fin
    have hg8 : g < 8 := by omega
    have hk : 8 * i + g < 64 := by omega
    rw [mSettle, mSettleE] at fin
    repeat (first | refine jF_step rfl trivial ?_ | refine jF_step rfl rfl ?_)
    simp (disch := omega) only [jS, jm_sI, jm_aft, jm_en, jI, nc8, up_s, up_k, up_i, k8, k9, k32, k3, r16, nI_add, rm2, rm3, rm4, rm5, rm6, rm7, rm8, rm9, rm10, rm11, rm12, rm13, rm15, rm16, rm17, rm18, rm19, rm21, rm22, rm23, rm24, rm25, rm26, rm27, rm28, rm29, e8]
    rw [if_neg (n_ge (by omega) (by omega))]
    repeat (first | refine jF_step rfl trivial ?_ | refine jF_step rfl rfl ?_ | refine jF_step rfl lo_mod ?_ | refine jF_step rfl ⟨lo_mod, Or.inl rfl⟩ ?_ | refine jF_step rfl ⟨lo_mod, Or.inr rfl⟩ ?_ | refine jF_step rfl (mw2  hi) ?_ | refine jF_step rfl ⟨mw2  hi, Or.inl rfl⟩ ?_ | refine jF_step rfl ⟨mw2  hi, Or.inr rfl⟩ ?_ | simp (disch := omega) only [jS, jm_sI, jm_aft, jm_en, jI, nc8, up_s, up_k, up_i, k8, k9, k32, k3, r16, nI_add, rm2, rm3, rm4, rm5, rm6, rm7, rm8, rm9, rm10, rm11, rm12, rm13, rm15, rm16, rm17, rm18, rm19, rm21, rm22, rm23, rm24, rm25, rm26, rm27, rm28, rm29])
    rw [if_neg hn]
    repeat (first | refine jF_step rfl trivial ?_ | refine jF_step rfl rfl ?_ | refine jF_step rfl lo_mod ?_ | refine jF_step rfl ⟨lo_mod, Or.inl rfl⟩ ?_ | refine jF_step rfl ⟨lo_mod, Or.inr rfl⟩ ?_ | refine jF_step rfl (mw11  hk) ?_ | refine jF_step rfl ⟨mw11  hk, Or.inl rfl⟩ ?_ | refine jF_step rfl ⟨mw11  hk, Or.inr rfl⟩ ?_ | simp (disch := omega) only [jS, jm_sI, jm_aft, jm_en, jI, nc8, up_s, up_k, up_i, k8, k9, k32, k3, r16, nI_add, rm2, rm3, rm4, rm5, rm6, rm7, rm8, rm9, rm10, rm11, rm12, rm13, rm15, rm16, rm17, rm18, rm19, rm21, rm22, rm23, rm24, rm25, rm26, rm27, rm28, rm29])
    by_cases h1 : I 192 (8 * i + g) = 0
    · rw [if_pos (Or.inl h1)] at fin
      rw [if_pos h1]
      have k1 := fun w => ih (g + 1) I w (by omega) hn fin
      simp only [show 8 * i + (g + 1) = 8 * i + g + 1 by omega, ← nI_1 (a := 8 * i + g)] at k1
      repeat (first | exact k1 _ | refine jF_step rfl trivial ?_ | refine jF_step rfl rfl ?_)
    rw [if_neg h1]
    repeat (first | refine jF_step rfl trivial ?_ | refine jF_step rfl rfl ?_ | refine jF_step rfl lo_mod ?_ | refine jF_step rfl ⟨lo_mod, Or.inl rfl⟩ ?_ | refine jF_step rfl ⟨lo_mod, Or.inr rfl⟩ ?_ | refine jF_step rfl (mx12  hk) ?_ | refine jF_step rfl (mw12  hk) ?_ | refine jF_step rfl (mx13  hk) ?_ | refine jF_step rfl (mw13  hk) ?_ | simp (disch := omega) only [jS, jm_sI, jm_aft, jm_en, jI, nc8, up_s, up_k, up_i, k8, k9, k32, k3, r16, nI_add, rm2, rm3, rm4, rm5, rm6, rm7, rm8, rm9, rm10, rm11, rm12, rm13, rm15, rm16, rm17, rm18, rm19, rm21, rm22, rm23, rm24, rm25, rm26, rm27, rm28, rm29])
    by_cases h2 : 4 * (I 182 1 - I 193 (8 * i + g)) < 2 * I 194 (8 * i + g)
    · rw [if_pos (Or.inr h2)] at fin
      rw [if_pos h2]
      have k1 := fun w => ih (g + 1) I w (by omega) hn fin
      simp only [show 8 * i + (g + 1) = 8 * i + g + 1 by omega, ← nI_1 (a := 8 * i + g)] at k1
      repeat (first | exact k1 _ | refine jF_step rfl trivial ?_ | refine jF_step rfl rfl ?_)
    · rw [if_neg (fun z => z.elim h1 h2)] at fin
      rw [if_neg h2]
      have k1 := fun w => ih (g + 1) (mShow (8 * i + g) I) w (by omega) (by rw [mShow_r (by omega)]; exact hn) fin
      simp only [show 8 * i + (g + 1) = 8 * i + g + 1 by omega, ← nI_1 (a := 8 * i + g)] at k1
      repeat (first | refine jF_step rfl trivial ?_ | refine jF_step rfl rfl ?_)
      refine jF_callE rfl ⟨Nat.le_of_ble_eq_true rfl, lo_mod⟩ (mT_show hk) ?_
      repeat (first | exact k1 _ | refine jF_step rfl trivial ?_ | refine jF_step rfl rfl ?_)
theorem mC_tick0 {now : Int32} : ∀ r i (I : jHp) (w : Bool) (y : Option Value), i + r = 8 → I 182 1 = now → jm_F (d + 2, 48, 17, [some (.ref 182), some (.int (nI i)), y], [], w, jS L I G t) (.inl (some (.int now))) (jS L (mTick r i I) G t) := by
  have e8 : ∀ a : Nat, nI a + 8 = nI (a + 8) := fun a => nI_add a 8
  intro r
  induction r with
  | zero =>
    intro i I w y hi hn
    have : i = 8 := by omega
    subst this
    repeat (first | refine jF_step rfl trivial ?_ | refine jF_step rfl rfl ?_ | refine jF_step rfl lo_mod ?_ | refine jF_step rfl ⟨lo_mod, Or.inl rfl⟩ ?_ | refine jF_step rfl ⟨lo_mod, Or.inr rfl⟩ ?_)
    rw [show (jS L I G t).2.2.2.1 182 1 = now from hn]
    exact jF_ret rfl trivial
  | succ r ih =>
    intro i I w y hi hn
    have hi8 : i < 8 := by omega
    have k1 := fun I w y h => ih (i + 1) I w y (by omega) h
    simp only [← nI_1 (a := i)] at k1
    rw [mTick]
    repeat (first | refine jF_step rfl trivial ?_ | refine jF_step rfl rfl ?_)
    rw [if_neg (n8 hi8)]
    by_cases h : I 183 i = 0
    · rw [if_pos h]
      repeat (first | refine jF_step rfl trivial ?_ | refine jF_step rfl rfl ?_ | refine jF_step rfl lo_mod ?_ | refine jF_step rfl ⟨lo_mod, Or.inl rfl⟩ ?_ | refine jF_step rfl ⟨lo_mod, Or.inr rfl⟩ ?_ | refine jF_step rfl (mw2  hi8) ?_ | refine jF_step rfl ⟨mw2  hi8, Or.inl rfl⟩ ?_ | refine jF_step rfl ⟨mw2  hi8, Or.inr rfl⟩ ?_ | simp (disch := omega) only [jS, jm_sI, jm_aft, jm_en, jI, nc8, up_s, up_k, up_i, k8, k9, k32, k3, r16, nI_add, rm2, rm3, rm4, rm5, rm6, rm7, rm8, rm9, rm10, rm11, rm12, rm13, rm15, rm16, rm17, rm18, rm19, rm21, rm22, rm23, rm24, rm25, rm26, rm27, rm28, rm29])
      rw [if_pos h]
      repeat (first | refine jF_step rfl trivial ?_ | refine jF_step rfl rfl ?_)
      simp (disch := omega) only [jS, jm_sI, jm_aft, jm_en, jI, nc8, up_s, up_k, up_i, k8, k9, k32, k3, r16, nI_add, rm2, rm3, rm4, rm5, rm6, rm7, rm8, rm9, rm10, rm11, rm12, rm13, rm15, rm16, rm17, rm18, rm19, rm21, rm22, rm23, rm24, rm25, rm26, rm27, rm28, rm29, e8]
      rw [if_neg (n_ge (by omega) (by omega))]
      repeat (first | refine jF_step rfl trivial ?_ | refine jF_step rfl rfl ?_ | refine jF_step rfl lo_mod ?_ | refine jF_step rfl ⟨lo_mod, Or.inl rfl⟩ ?_ | refine jF_step rfl ⟨lo_mod, Or.inr rfl⟩ ?_ | refine jF_step rfl (mw2  hi8) ?_ | refine jF_step rfl ⟨mw2  hi8, Or.inl rfl⟩ ?_ | refine jF_step rfl ⟨mw2  hi8, Or.inr rfl⟩ ?_ | simp (disch := omega) only [jS, jm_sI, jm_aft, jm_en, jI, nc8, up_s, up_k, up_i, k8, k9, k32, k3, r16, nI_add, rm2, rm3, rm4, rm5, rm6, rm7, rm8, rm9, rm10, rm11, rm12, rm13, rm15, rm16, rm17, rm18, rm19, rm21, rm22, rm23, rm24, rm25, rm26, rm27, rm28, rm29])
      rw [if_pos h]
      repeat (first | exact k1 _ _ _ hn | refine jF_step rfl trivial ?_ | refine jF_step rfl rfl ?_)
    · rw [if_neg h]
      have e1 : mForget i 8 0 I 182 1 = now := by rw [mForget_r (by omega), hn]
      have e2 : mSettle i 8 0 (mForget i 8 0 I) 182 1 = now := by rw [mSettle_r (by omega), e1]
      have e3 : ¬ mForget i 8 0 I 183 i = 0 := by rw [mForget_r (by omega)]; exact h
      have k3 : ∀ w y, jm_F (d + 2, 48, 155, [some (.ref 182), some (.int (nI i)), y], [], w, jS L (mSettle i 8 0 (mForget i 8 0 I)) G t) (.inl (some (.int now))) (jS L (mTick r (i + 1) (mSettle i 8 0 (mForget i 8 0 I))) G t) := by
        intro w y
        repeat (first | exact k1 _ _ _ e2 | refine jF_step rfl trivial ?_ | refine jF_step rfl rfl ?_)
      have k4 : ∀ w, jm_F (d + 2, 48, 86, [some (.ref 182), some (.int (nI i)), some (.int (nI 8))], [], w, jS L (mForget i 8 0 I) G t) (.inl (some (.int now))) (jS L (mTick r (i + 1) (mSettle i 8 0 (mForget i 8 0 I))) G t) := by
        intro w
        have k5 := fun w => mT_settle0 hi8 8 0 (mForget i 8 0 I) w rfl e3 k3
        iterate 3 (first | refine jF_step rfl trivial ?_ | refine jF_step rfl rfl ?_)
        simp (disch := omega) only [jS, jm_sI, jm_aft, jm_en, jI, nc8, up_s, up_k, up_i, k8, k9, k32, k3, r16, nI_add, rm2, rm3, rm4, rm5, rm6, rm7, rm8, rm9, rm10, rm11, rm12, rm13, rm15, rm16, rm17, rm18, rm19, rm21, rm22, rm23, rm24, rm25, rm26, rm27, rm28, rm29]
        repeat (first | exact k5 _ | refine jF_step rfl trivial ?_ | refine jF_step rfl rfl ?_)
      have k2 := fun w => mT_forget0 hi8 8 0 I w rfl h k4
      repeat (first | exact k2 _ | refine jF_step rfl trivial ?_ | refine jF_step rfl rfl ?_)
theorem mC_tick {I : jHp} : jm_F (d + 2, 48, 0, jm_en 48 [.ref 182], [], false, jS L I G t) (.inl (some (.int (I 182 1 + 1)))) (jS L (mTick 8 0 (jm_up (jm_up I 182 0 0) 182 1 (I 182 1 + 1))) G t) := by
  have k1 := fun w y => mC_tick0 (L := L) (t := t) (d := d) (G := G) (now := I 182 1 + 1) 8 0 (jm_up (jm_up I 182 0 0) 182 1 (I 182 1 + 1)) w y rfl up_s
  iterate 9 (first | refine jF_step rfl trivial ?_ | refine jF_step rfl rfl ?_ | refine jF_step rfl lo_mod ?_ | refine jF_step rfl ⟨lo_mod, Or.inl rfl⟩ ?_ | refine jF_step rfl ⟨lo_mod, Or.inr rfl⟩ ?_)
  simp (disch := omega) only [jS, jm_sI, jm_aft, jm_en, jI, nc8, up_s, up_k, up_i, k8, k9, k32, k3, r16, nI_add, rm2, rm3, rm4, rm5, rm6, rm7, rm8, rm9, rm10, rm11, rm12, rm13, rm15, rm16, rm17, rm18, rm19, rm21, rm22, rm23, rm24, rm25, rm26, rm27, rm28, rm29]
  repeat (first | exact k1 _ _ | refine jF_step rfl trivial ?_ | refine jF_step rfl rfl ?_)
end
