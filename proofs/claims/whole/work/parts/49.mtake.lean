/-! runs of the small machine: the reference takes a row -/
def mT5 (k : Nat) (m : Int32) (I : jHp) : jHp := if m < 0 ∨ I 189 k < 0 ∨ I 190 k < 0 ∨ m ≤ I 190 k ∨ I 194 k = 0 then mShow k I else jm_up I 192 k 1
def mT4 (k : Nat) (n m f : Int32) (I : jHp) : jHp := mT5 k m (jm_up (jm_up (jm_up I 186 k n) 187 k m) 188 k (if 0 ≤ m then f else -1))
def mT3 (k : Nat) (n m f s : Int32) (I : jHp) : jHp := mT4 k n m f (jm_up I 193 k (if s = 0 then (if m < 0 then I 193 k else I 182 1) else I 193 k))
def mT2 (k : Nat) (n m f s : Int32) (I : jHp) : jHp := mT3 k n m f s (jm_up I 194 k (if s = 0 then I 194 k else (3 * I 194 k + 4 * (I 182 1 - I 193 k)) / 4))
def mBet (I : jHp) (k : Nat) (n m : Int32) : Int32 := if 0 ≤ I 186 k then (if I 186 k < n then 1 else if n = I 186 k then (if m < 0 then 0 else if I 187 k ≤ m then 0 else 1) else 0) else (if m < 0 then 0 else 1)
section
variable {L t d : Nat} {I : jHp} {G : Nat → Nat → Int64}
theorem mT_t5b {k : Nat} {b f g n m r : Int32} {w : Bool} {y7 y8 y9 : Option Value} (hk : k < 64) : jm_F (d + 1, 45, 283, [some (.ref 182), some (.int b), some (.int f), some (.int g), some (.int n), some (.int m), some (.int (nI k)), y7, y8, y9], [.int r], w, jS L I G t) (.inl (some (.int 1))) (jS L (if r = 0 then jm_up I 192 k 1 else mShow k I) G t) := by
  repeat (first | refine jF_step rfl trivial ?_ | refine jF_step rfl rfl ?_)
  by_cases h : r = 0
  · rw [if_pos h, if_pos h]
    repeat (first | refine jF_step rfl trivial ?_ | refine jF_step rfl rfl ?_ | refine jF_step rfl lo_mod ?_ | refine jF_step rfl ⟨lo_mod, Or.inl rfl⟩ ?_ | refine jF_step rfl ⟨lo_mod, Or.inr rfl⟩ ?_ | refine jF_step rfl (mw11  hk) ?_ | refine jF_step rfl ⟨mw11  hk, Or.inl rfl⟩ ?_ | refine jF_step rfl ⟨mw11  hk, Or.inr rfl⟩ ?_ | simp (disch := omega) only [jS, jm_sI, jm_aft, jm_en, jI, nc8, up_s, up_k, up_i, k8, k9, k32, k3, r16, nI_add, rm2, rm3, rm4, rm5, rm6, rm7, rm8, rm9, rm10, rm11, rm12, rm13, rm15, rm16, rm17, rm18, rm19, rm21, rm22, rm23, rm24, rm25, rm26, rm27, rm28, rm29])
    exact jF_ret rfl (Or.inr rfl)
  · rw [if_neg h, if_neg h]
    repeat (first | refine jF_step rfl trivial ?_ | refine jF_step rfl rfl ?_)
    refine jF_callE rfl ⟨Nat.le_of_ble_eq_true rfl, lo_mod⟩ (mT_show hk) ?_
    repeat (first | refine jF_step rfl trivial ?_ | refine jF_step rfl rfl ?_)
    exact jF_ret rfl (Or.inr rfl)
theorem mT_t5 {k : Nat} {b f g n m : Int32} {w : Bool} {y7 y8 y9 : Option Value} (hk : k < 64) : jm_F (d + 1, 45, 231, [some (.ref 182), some (.int b), some (.int f), some (.int g), some (.int n), some (.int m), some (.int (nI k)), y7, y8, y9], [], w, jS L I G t) (.inl (some (.int 1))) (jS L (mT5 k m I) G t) := by
  have fin := fun r w => mT_t5b (L := L) (t := t) (d := d) (I := I) (G := G) (b := b) (f := f) (g := g) (n := n) (m := m) (r := r) (w := w) (y7 := y7) (y8 := y8) (y9 := y9) hk
  have f0 := fun w => fin 0 w
  have f1 := fun w => fin 1 w
  rw [if_pos rfl] at f0
  rw [if_neg (by decide)] at f1
  unfold mT5
  generalize mShow k I = I1 at f1 ⊢
  repeat (first | refine jF_step rfl trivial ?_ | refine jF_step rfl rfl ?_)
  by_cases h1 : m < 0
  · rw [if_pos h1, if_pos (Or.inl h1)]
    repeat (first | exact f1 _ | refine jF_step rfl trivial ?_ | refine jF_step rfl rfl ?_)
  rw [if_neg h1]
  repeat (first | refine jF_step rfl trivial ?_ | refine jF_step rfl rfl ?_ | refine jF_step rfl lo_mod ?_ | refine jF_step rfl ⟨lo_mod, Or.inl rfl⟩ ?_ | refine jF_step rfl ⟨lo_mod, Or.inr rfl⟩ ?_ | refine jF_step rfl (mx8  hk) ?_ | refine jF_step rfl (mw8  hk) ?_ | simp (disch := omega) only [jS, jm_sI, jm_aft, jm_en, jI, nc8, up_s, up_k, up_i, k8, k9, k32, k3, r16, nI_add, rm2, rm3, rm4, rm5, rm6, rm7, rm8, rm9, rm10, rm11, rm12, rm13, rm15, rm16, rm17, rm18, rm19, rm21, rm22, rm23, rm24, rm25, rm26, rm27, rm28, rm29])
  by_cases h2 : I 189 k < 0
  · rw [if_pos h2, if_pos (Or.inr (Or.inl h2))]
    repeat (first | exact f1 _ | refine jF_step rfl trivial ?_ | refine jF_step rfl rfl ?_)
  rw [if_neg h2]
  repeat (first | refine jF_step rfl trivial ?_ | refine jF_step rfl rfl ?_ | refine jF_step rfl lo_mod ?_ | refine jF_step rfl ⟨lo_mod, Or.inl rfl⟩ ?_ | refine jF_step rfl ⟨lo_mod, Or.inr rfl⟩ ?_ | refine jF_step rfl (mx9  hk) ?_ | refine jF_step rfl (mw9  hk) ?_ | simp (disch := omega) only [jS, jm_sI, jm_aft, jm_en, jI, nc8, up_s, up_k, up_i, k8, k9, k32, k3, r16, nI_add, rm2, rm3, rm4, rm5, rm6, rm7, rm8, rm9, rm10, rm11, rm12, rm13, rm15, rm16, rm17, rm18, rm19, rm21, rm22, rm23, rm24, rm25, rm26, rm27, rm28, rm29])
  by_cases h3 : I 190 k < 0
  · rw [if_pos h3, if_pos (Or.inr (Or.inr (Or.inl h3)))]
    repeat (first | exact f1 _ | refine jF_step rfl trivial ?_ | refine jF_step rfl rfl ?_)
  rw [if_neg h3]
  repeat (first | refine jF_step rfl trivial ?_ | refine jF_step rfl rfl ?_ | refine jF_step rfl lo_mod ?_ | refine jF_step rfl ⟨lo_mod, Or.inl rfl⟩ ?_ | refine jF_step rfl ⟨lo_mod, Or.inr rfl⟩ ?_ | refine jF_step rfl (mx9  hk) ?_ | refine jF_step rfl (mw9  hk) ?_ | simp (disch := omega) only [jS, jm_sI, jm_aft, jm_en, jI, nc8, up_s, up_k, up_i, k8, k9, k32, k3, r16, nI_add, rm2, rm3, rm4, rm5, rm6, rm7, rm8, rm9, rm10, rm11, rm12, rm13, rm15, rm16, rm17, rm18, rm19, rm21, rm22, rm23, rm24, rm25, rm26, rm27, rm28, rm29])
  by_cases h4 : m ≤ I 190 k
  · rw [if_pos h4, if_pos (Or.inr (Or.inr (Or.inr (Or.inl h4))))]
    repeat (first | exact f1 _ | refine jF_step rfl trivial ?_ | refine jF_step rfl rfl ?_)
  rw [if_neg h4]
  repeat (first | refine jF_step rfl trivial ?_ | refine jF_step rfl rfl ?_ | refine jF_step rfl lo_mod ?_ | refine jF_step rfl ⟨lo_mod, Or.inl rfl⟩ ?_ | refine jF_step rfl ⟨lo_mod, Or.inr rfl⟩ ?_ | refine jF_step rfl (mx13  hk) ?_ | refine jF_step rfl (mw13  hk) ?_ | simp (disch := omega) only [jS, jm_sI, jm_aft, jm_en, jI, nc8, up_s, up_k, up_i, k8, k9, k32, k3, r16, nI_add, rm2, rm3, rm4, rm5, rm6, rm7, rm8, rm9, rm10, rm11, rm12, rm13, rm15, rm16, rm17, rm18, rm19, rm21, rm22, rm23, rm24, rm25, rm26, rm27, rm28, rm29])
  by_cases h5 : I 194 k = 0
  · rw [if_pos h5, if_pos (Or.inr (Or.inr (Or.inr (Or.inr h5))))]
    repeat (first | exact f1 _ | refine jF_step rfl trivial ?_ | refine jF_step rfl rfl ?_)
  · rw [if_neg h5, if_neg (fun z => z.elim h1 (fun z => z.elim h2 (fun z => z.elim h3 (fun z => z.elim h4 h5))))]
    repeat (first | exact f0 _ | refine jF_step rfl trivial ?_ | refine jF_step rfl rfl ?_)
theorem mT_t4 {k : Nat} {b f g n m : Int32} {w : Bool} {y7 y8 y9 : Option Value} (hk : k < 64) : jm_F (d + 1, 45, 196, [some (.ref 182), some (.int b), some (.int f), some (.int g), some (.int n), some (.int m), some (.int (nI k)), y7, y8, y9], [], w, jS L I G t) (.inl (some (.int 1))) (jS L (mT4 k n m f I) G t) := by
  unfold mT4
  have fin := fun I w => mT_t5 (L := L) (t := t) (d := d) (I := I) (G := G) (b := b) (f := f) (g := g) (n := n) (m := m) (w := w) (y7 := y7) (y8 := y8) (y9 := y9) hk
  repeat (first | refine jF_step rfl trivial ?_ | refine jF_step rfl rfl ?_ | refine jF_step rfl lo_mod ?_ | refine jF_step rfl ⟨lo_mod, Or.inl rfl⟩ ?_ | refine jF_step rfl ⟨lo_mod, Or.inr rfl⟩ ?_ | refine jF_step rfl (mx5  hk) ?_ | refine jF_step rfl (mw5  hk) ?_ | refine jF_step rfl (mx6  hk) ?_ | refine jF_step rfl (mw6  hk) ?_ | simp (disch := omega) only [jS, jm_sI, jm_aft, jm_en, jI, nc8, up_s, up_k, up_i, k8, k9, k32, k3, r16, nI_add, rm2, rm3, rm4, rm5, rm6, rm7, rm8, rm9, rm10, rm11, rm12, rm13, rm15, rm16, rm17, rm18, rm19, rm21, rm22, rm23, rm24, rm25, rm26, rm27, rm28, rm29])
  by_cases h1 : 0 ≤ m
  · rw [if_pos h1, if_pos h1]
    iterate 1 (first | refine jF_step rfl trivial ?_ | refine jF_step rfl rfl ?_)
    iterate 1 (first | refine jF_step rfl trivial ?_ | refine jF_step rfl rfl ?_ | refine jF_step rfl (mx7  hk) ?_ | refine jF_step rfl (mw7  hk) ?_)
    simp (disch := omega) only [jS, jm_sI, jm_aft, jm_en, jI, nc8, up_s, up_k, up_i, k8, k9, k32, k3, r16, nI_add, rm2, rm3, rm4, rm5, rm6, rm7, rm8, rm9, rm10, rm11, rm12, rm13, rm15, rm16, rm17, rm18, rm19, rm21, rm22, rm23, rm24, rm25, rm26, rm27, rm28, rm29]
    exact fin _ _
  · rw [if_neg h1, if_neg h1]
    iterate 2 (first | refine jF_step rfl trivial ?_ | refine jF_step rfl rfl ?_)
    iterate 1 (first | refine jF_step rfl trivial ?_ | refine jF_step rfl rfl ?_ | refine jF_step rfl (mx7  hk) ?_ | refine jF_step rfl (mw7  hk) ?_)
    simp (disch := omega) only [jS, jm_sI, jm_aft, jm_en, jI, nc8, up_s, up_k, up_i, k8, k9, k32, k3, r16, nI_add, rm2, rm3, rm4, rm5, rm6, rm7, rm8, rm9, rm10, rm11, rm12, rm13, rm15, rm16, rm17, rm18, rm19, rm21, rm22, rm23, rm24, rm25, rm26, rm27, rm28, rm29]
    exact fin _ _
theorem mT_t3 {k : Nat} {b f g n m s : Int32} {w : Bool} {y7 y9 : Option Value} (hk : k < 64) : jm_F (d + 1, 45, 165, [some (.ref 182), some (.int b), some (.int f), some (.int g), some (.int n), some (.int m), some (.int (nI k)), y7, some (.int s), y9], [], w, jS L I G t) (.inl (some (.int 1))) (jS L (mT3 k n m f s I) G t) := by
  unfold mT3
  have fin := fun I w => mT_t4 (L := L) (t := t) (d := d) (I := I) (G := G) (b := b) (f := f) (g := g) (n := n) (m := m) (w := w) (y7 := y7) (y8 := some (.int s)) (y9 := y9) hk
  repeat (first | refine jF_step rfl trivial ?_ | refine jF_step rfl rfl ?_ | refine jF_step rfl lo_mod ?_ | refine jF_step rfl ⟨lo_mod, Or.inl rfl⟩ ?_ | refine jF_step rfl ⟨lo_mod, Or.inr rfl⟩ ?_)
  by_cases h1 : s = 0
  · rw [if_pos h1, if_pos h1]
    repeat (first | refine jF_step rfl trivial ?_ | refine jF_step rfl rfl ?_)
    by_cases h2 : m < 0
    · rw [if_pos h2, if_pos h2]
      iterate 3 (first | refine jF_step rfl trivial ?_ | refine jF_step rfl rfl ?_ | refine jF_step rfl lo_mod ?_ | refine jF_step rfl ⟨lo_mod, Or.inl rfl⟩ ?_ | refine jF_step rfl ⟨lo_mod, Or.inr rfl⟩ ?_)
      iterate 1 (first | refine jF_step rfl trivial ?_ | refine jF_step rfl rfl ?_ | refine jF_step rfl (mx12  hk) ?_ | refine jF_step rfl (mw12  hk) ?_)
      iterate 1 (first | refine jF_step rfl trivial ?_ | refine jF_step rfl rfl ?_ | refine jF_step rfl (mx12  hk) ?_ | refine jF_step rfl (mw12  hk) ?_)
      simp (disch := omega) only [jS, jm_sI, jm_aft, jm_en, jI, nc8, up_s, up_k, up_i, k8, k9, k32, k3, r16, nI_add, rm2, rm3, rm4, rm5, rm6, rm7, rm8, rm9, rm10, rm11, rm12, rm13, rm15, rm16, rm17, rm18, rm19, rm21, rm22, rm23, rm24, rm25, rm26, rm27, rm28, rm29]
      exact fin _ _
    · rw [if_neg h2, if_neg h2]
      iterate 3 (first | refine jF_step rfl trivial ?_ | refine jF_step rfl rfl ?_ | refine jF_step rfl lo_mod ?_ | refine jF_step rfl ⟨lo_mod, Or.inl rfl⟩ ?_ | refine jF_step rfl ⟨lo_mod, Or.inr rfl⟩ ?_)
      iterate 1 (first | refine jF_step rfl trivial ?_ | refine jF_step rfl rfl ?_ | refine jF_step rfl (mx12  hk) ?_ | refine jF_step rfl (mw12  hk) ?_)
      simp (disch := omega) only [jS, jm_sI, jm_aft, jm_en, jI, nc8, up_s, up_k, up_i, k8, k9, k32, k3, r16, nI_add, rm2, rm3, rm4, rm5, rm6, rm7, rm8, rm9, rm10, rm11, rm12, rm13, rm15, rm16, rm17, rm18, rm19, rm21, rm22, rm23, rm24, rm25, rm26, rm27, rm28, rm29]
      exact fin _ _
  · rw [if_neg h1, if_neg h1]
    iterate 3 (first | refine jF_step rfl trivial ?_ | refine jF_step rfl rfl ?_ | refine jF_step rfl lo_mod ?_ | refine jF_step rfl ⟨lo_mod, Or.inl rfl⟩ ?_ | refine jF_step rfl ⟨lo_mod, Or.inr rfl⟩ ?_)
    iterate 1 (first | refine jF_step rfl trivial ?_ | refine jF_step rfl rfl ?_ | refine jF_step rfl (mx12  hk) ?_ | refine jF_step rfl (mw12  hk) ?_)
    iterate 1 (first | refine jF_step rfl trivial ?_ | refine jF_step rfl rfl ?_ | refine jF_step rfl (mx12  hk) ?_ | refine jF_step rfl (mw12  hk) ?_)
    simp (disch := omega) only [jS, jm_sI, jm_aft, jm_en, jI, nc8, up_s, up_k, up_i, k8, k9, k32, k3, r16, nI_add, rm2, rm3, rm4, rm5, rm6, rm7, rm8, rm9, rm10, rm11, rm12, rm13, rm15, rm16, rm17, rm18, rm19, rm21, rm22, rm23, rm24, rm25, rm26, rm27, rm28, rm29]
    exact fin _ _
theorem mT_t2 {k : Nat} {b f g n m s : Int32} {w : Bool} {y7 y9 : Option Value} (hk : k < 64) : jm_F (d + 1, 45, 117, [some (.ref 182), some (.int b), some (.int f), some (.int g), some (.int n), some (.int m), some (.int (nI k)), y7, some (.int s), y9], [], w, jS L I G t) (.inl (some (.int 1))) (jS L (mT2 k n m f s I) G t) := by
  unfold mT2
  have fin := fun I w => mT_t3 (L := L) (t := t) (d := d) (I := I) (G := G) (b := b) (f := f) (g := g) (n := n) (m := m) (s := s) (w := w) (y7 := y7) (y9 := y9) hk
  repeat (first | refine jF_step rfl trivial ?_ | refine jF_step rfl rfl ?_ | refine jF_step rfl lo_mod ?_ | refine jF_step rfl ⟨lo_mod, Or.inl rfl⟩ ?_ | refine jF_step rfl ⟨lo_mod, Or.inr rfl⟩ ?_)
  by_cases h1 : s = 0
  · rw [if_pos h1, if_pos h1]
    iterate 3 (first | refine jF_step rfl trivial ?_ | refine jF_step rfl rfl ?_ | refine jF_step rfl lo_mod ?_ | refine jF_step rfl ⟨lo_mod, Or.inl rfl⟩ ?_ | refine jF_step rfl ⟨lo_mod, Or.inr rfl⟩ ?_)
    iterate 1 (first | refine jF_step rfl trivial ?_ | refine jF_step rfl rfl ?_ | refine jF_step rfl (mx13  hk) ?_ | refine jF_step rfl (mw13  hk) ?_)
    iterate 1 (first | refine jF_step rfl trivial ?_ | refine jF_step rfl rfl ?_ | refine jF_step rfl (mx13  hk) ?_ | refine jF_step rfl (mw13  hk) ?_)
    simp (disch := omega) only [jS, jm_sI, jm_aft, jm_en, jI, nc8, up_s, up_k, up_i, k8, k9, k32, k3, r16, nI_add, rm2, rm3, rm4, rm5, rm6, rm7, rm8, rm9, rm10, rm11, rm12, rm13, rm15, rm16, rm17, rm18, rm19, rm21, rm22, rm23, rm24, rm25, rm26, rm27, rm28, rm29]
    exact fin _ _
  · rw [if_neg h1, if_neg h1]
    iterate 20 (first | refine jF_step rfl trivial ?_ | refine jF_step rfl rfl ?_ | refine jF_step rfl lo_mod ?_ | refine jF_step rfl ⟨lo_mod, Or.inl rfl⟩ ?_ | refine jF_step rfl ⟨lo_mod, Or.inr rfl⟩ ?_ | refine jF_step rfl (show ¬ (4 : Int32) = 0 by decide) ?_ | refine jF_step rfl (mx12  hk) ?_ | refine jF_step rfl (mw12  hk) ?_ | refine jF_step rfl (mx13  hk) ?_ | refine jF_step rfl (mw13  hk) ?_)
    simp (disch := omega) only [jS, jm_sI, jm_aft, jm_en, jI, nc8, up_s, up_k, up_i, k8, k9, k32, k3, r16, nI_add, rm2, rm3, rm4, rm5, rm6, rm7, rm8, rm9, rm10, rm11, rm12, rm13, rm15, rm16, rm17, rm18, rm19, rm21, rm22, rm23, rm24, rm25, rm26, rm27, rm28, rm29]
    exact fin _ _
theorem mT_take1 {i g : Nat} {f n m r : Int32} {y8 y9 : Option Value} (hi : i < 8) (hg : g < 8) (h : i = g ∨ 15 < m ∨ r = 0) : jm_F (d + 1, 45, 77, [some (.ref 182), some (.int (nI i)), some (.int f), some (.int (nI g)), some (.int n), some (.int m), some (.int (nI (8 * i + g))), none, y8, y9], [.int r], false, jS L I G t) (.inl (some (.int 0))) (jS L I G t) := by
  repeat (first | refine jF_step rfl trivial ?_ | refine jF_step rfl rfl ?_)
  by_cases h1 : g = i
  · rw [if_pos (congrArg nI h1)]
    repeat (first | refine jF_step rfl trivial ?_ | refine jF_step rfl rfl ?_)
    exact jF_ret rfl (Or.inl rfl)
  rw [if_neg (fun z => h1 ((nI_eq (by omega) (by omega)).mp z))]
  repeat (first | refine jF_step rfl trivial ?_ | refine jF_step rfl rfl ?_)
  by_cases h2 : 15 < m
  · rw [if_pos h2]
    repeat (first | refine jF_step rfl trivial ?_ | refine jF_step rfl rfl ?_)
    exact jF_ret rfl (Or.inl rfl)
  rw [if_neg h2]
  repeat (first | refine jF_step rfl trivial ?_ | refine jF_step rfl rfl ?_)
  rw [if_pos (h.elim (fun z => absurd z.symm h1) (fun z => z.elim (fun z => absurd z h2) id))]
  repeat (first | refine jF_step rfl trivial ?_ | refine jF_step rfl rfl ?_)
  exact jF_ret rfl (Or.inl rfl)
theorem mT_take2 {i g : Nat} {f n m r : Int32} {y8 y9 : Option Value} (hi : i < 8) (hg : g < 8) (h1 : i ≠ g) (h2 : ¬ 15 < m) (h3 : ¬ r = 0) : jm_F (d + 1, 45, 77, [some (.ref 182), some (.int (nI i)), some (.int f), some (.int (nI g)), some (.int n), some (.int m), some (.int (nI (8 * i + g))), none, y8, y9], [.int r], false, jS L I G t) (.inl (some (.int 1))) (jS L (mT2 (8 * i + g) n m f (if n = I 186 (8 * i + g) then 1 else 0) I) G t) := by
  have hk : 8 * i + g < 64 := by omega
  have fin := fun s w => mT_t2 (L := L) (t := t) (d := d) (I := I) (G := G) (b := nI i) (f := f) (g := nI g) (n := n) (m := m) (s := s) (w := w) (y7 := some (.int r)) (y9 := y9) hk
  repeat (first | refine jF_step rfl trivial ?_ | refine jF_step rfl rfl ?_)
  rw [if_neg (fun z => h1 ((nI_eq (by omega) (by omega)).mp z).symm)]
  repeat (first | refine jF_step rfl trivial ?_ | refine jF_step rfl rfl ?_)
  rw [if_neg h2]
  repeat (first | refine jF_step rfl trivial ?_ | refine jF_step rfl rfl ?_)
  rw [if_neg h3]
  repeat (first | refine jF_step rfl trivial ?_ | refine jF_step rfl rfl ?_ | refine jF_step rfl lo_mod ?_ | refine jF_step rfl ⟨lo_mod, Or.inl rfl⟩ ?_ | refine jF_step rfl ⟨lo_mod, Or.inr rfl⟩ ?_ | refine jF_step rfl (mx5  hk) ?_ | refine jF_step rfl (mw5  hk) ?_ | simp (disch := omega) only [jS, jm_sI, jm_aft, jm_en, jI, nc8, up_s, up_k, up_i, k8, k9, k32, k3, r16, nI_add, rm2, rm3, rm4, rm5, rm6, rm7, rm8, rm9, rm10, rm11, rm12, rm13, rm15, rm16, rm17, rm18, rm19, rm21, rm22, rm23, rm24, rm25, rm26, rm27, rm28, rm29])
  by_cases h4 : n = I 186 (8 * i + g)
  · rw [if_pos h4, if_pos h4]
    repeat (first | exact fin _ _ | refine jF_step rfl trivial ?_ | refine jF_step rfl rfl ?_)
  · rw [if_neg h4, if_neg h4]
    repeat (first | exact fin _ _ | refine jF_step rfl trivial ?_ | refine jF_step rfl rfl ?_)
theorem mT_bet {i g : Nat} {f n m : Int32} {out : Option Value ⊕ Nat} {σ : jm_S} (hi : i < 8) (hg : g < 8) (fin : jm_F (d + 1, 45, 77, [some (.ref 182), some (.int (nI i)), some (.int f), some (.int (nI g)), some (.int n), some (.int m), some (.int (nI (8 * i + g))), none, none, none], [.int (mBet I (8 * i + g) n m)], false, jS L I G t) out σ) : jm_F (d + 1, 45, 0, jm_en 45 [.ref 182, .int (nI i), .int f, .int (nI g), .int n, .int m], [], false, jS L I G t) out σ := by
  have hk : 8 * i + g < 64 := by omega
  unfold mBet at fin
  repeat (first | refine jF_step rfl trivial ?_ | refine jF_step rfl rfl ?_ | refine jF_step rfl lo_mod ?_ | refine jF_step rfl ⟨lo_mod, Or.inl rfl⟩ ?_ | refine jF_step rfl ⟨lo_mod, Or.inr rfl⟩ ?_ | refine jF_step rfl (mx5  hk) ?_ | refine jF_step rfl (mw5  hk) ?_ | simp (disch := omega) only [jS, jm_sI, jm_aft, jm_en, jI, nc8, up_s, up_k, up_i, k8, k9, k32, k3, r16, nI_add, rm2, rm3, rm4, rm5, rm6, rm7, rm8, rm9, rm10, rm11, rm12, rm13, rm15, rm16, rm17, rm18, rm19, rm21, rm22, rm23, rm24, rm25, rm26, rm27, rm28, rm29])
  by_cases h1 : 0 ≤ I 186 (8 * i + g)
  · rw [if_pos h1] at fin ⊢
    repeat (first | refine jF_step rfl trivial ?_ | refine jF_step rfl rfl ?_ | refine jF_step rfl lo_mod ?_ | refine jF_step rfl ⟨lo_mod, Or.inl rfl⟩ ?_ | refine jF_step rfl ⟨lo_mod, Or.inr rfl⟩ ?_ | refine jF_step rfl (mx5  hk) ?_ | refine jF_step rfl (mw5  hk) ?_ | simp (disch := omega) only [jS, jm_sI, jm_aft, jm_en, jI, nc8, up_s, up_k, up_i, k8, k9, k32, k3, r16, nI_add, rm2, rm3, rm4, rm5, rm6, rm7, rm8, rm9, rm10, rm11, rm12, rm13, rm15, rm16, rm17, rm18, rm19, rm21, rm22, rm23, rm24, rm25, rm26, rm27, rm28, rm29])
    by_cases h2 : I 186 (8 * i + g) < n
    · rw [if_pos h2] at fin ⊢
      repeat (first | exact fin | refine jF_step rfl trivial ?_ | refine jF_step rfl rfl ?_)
    · rw [if_neg h2] at fin ⊢
      repeat (first | refine jF_step rfl trivial ?_ | refine jF_step rfl rfl ?_ | refine jF_step rfl lo_mod ?_ | refine jF_step rfl ⟨lo_mod, Or.inl rfl⟩ ?_ | refine jF_step rfl ⟨lo_mod, Or.inr rfl⟩ ?_ | refine jF_step rfl (mx5  hk) ?_ | refine jF_step rfl (mw5  hk) ?_ | simp (disch := omega) only [jS, jm_sI, jm_aft, jm_en, jI, nc8, up_s, up_k, up_i, k8, k9, k32, k3, r16, nI_add, rm2, rm3, rm4, rm5, rm6, rm7, rm8, rm9, rm10, rm11, rm12, rm13, rm15, rm16, rm17, rm18, rm19, rm21, rm22, rm23, rm24, rm25, rm26, rm27, rm28, rm29])
      by_cases h3 : n = I 186 (8 * i + g)
      · rw [if_pos h3] at fin ⊢
        repeat (first | refine jF_step rfl trivial ?_ | refine jF_step rfl rfl ?_)
        by_cases h4 : m < 0
        · rw [if_pos h4] at fin ⊢
          repeat (first | exact fin | refine jF_step rfl trivial ?_ | refine jF_step rfl rfl ?_)
        · rw [if_neg h4] at fin ⊢
          repeat (first | refine jF_step rfl trivial ?_ | refine jF_step rfl rfl ?_ | refine jF_step rfl lo_mod ?_ | refine jF_step rfl ⟨lo_mod, Or.inl rfl⟩ ?_ | refine jF_step rfl ⟨lo_mod, Or.inr rfl⟩ ?_ | refine jF_step rfl (mx6  hk) ?_ | refine jF_step rfl (mw6  hk) ?_ | simp (disch := omega) only [jS, jm_sI, jm_aft, jm_en, jI, nc8, up_s, up_k, up_i, k8, k9, k32, k3, r16, nI_add, rm2, rm3, rm4, rm5, rm6, rm7, rm8, rm9, rm10, rm11, rm12, rm13, rm15, rm16, rm17, rm18, rm19, rm21, rm22, rm23, rm24, rm25, rm26, rm27, rm28, rm29])
          by_cases h5 : I 187 (8 * i + g) ≤ m
          · rw [if_pos h5] at fin ⊢
            repeat (first | exact fin | refine jF_step rfl trivial ?_ | refine jF_step rfl rfl ?_)
          · rw [if_neg h5] at fin ⊢
            repeat (first | exact fin | refine jF_step rfl trivial ?_ | refine jF_step rfl rfl ?_)
      · rw [if_neg h3] at fin ⊢
        repeat (first | exact fin | refine jF_step rfl trivial ?_ | refine jF_step rfl rfl ?_)
  · rw [if_neg h1] at fin ⊢
    repeat (first | refine jF_step rfl trivial ?_ | refine jF_step rfl rfl ?_)
    by_cases h4 : m < 0
    · rw [if_pos h4] at fin ⊢
      repeat (first | exact fin | refine jF_step rfl trivial ?_ | refine jF_step rfl rfl ?_)
    · rw [if_neg h4] at fin ⊢
      repeat (first | exact fin | refine jF_step rfl trivial ?_ | refine jF_step rfl rfl ?_)
abbrev mDoes (I : jHp) (i g : Nat) (n m : Int32) : Prop := i ≠ g ∧ ¬ 15 < m ∧ ¬ mBet I (8 * i + g) n m = 0
def mTake (i g : Nat) (n m f : Int32) (I : jHp) : jHp := mT2 (8 * i + g) n m f (if n = I 186 (8 * i + g) then 1 else 0) I
theorem mT_take {i g : Nat} {f n m : Int32} (hi : i < 8) (hg : g < 8) : jm_F (d + 1, 45, 0, jm_en 45 [.ref 182, .int (nI i), .int f, .int (nI g), .int n, .int m], [], false, jS L I G t) (.inl (some (.int (if mDoes I i g n m then 1 else 0)))) (jS L (if mDoes I i g n m then mTake i g n m f I else I) G t) := by
  refine mT_bet hi hg ?_
  by_cases h : mDoes I i g n m
  · rw [if_pos h, if_pos h]
    exact mT_take2 hi hg h.1 h.2.1 h.2.2
  · rw [if_neg h, if_neg h]
    refine mT_take1 hi hg ?_
    by_cases h1 : i = g
    · exact Or.inl h1
    by_cases h2 : 15 < m
    · exact Or.inr (Or.inl h2)
    by_cases h3 : mBet I (8 * i + g) n m = 0
    · exact Or.inr (Or.inr h3)
    exact absurd ⟨h1, h2, h3⟩ h
end
