/-! runs of the small machine: the reference casts, and is asked for an entry -/
def mAdd (c k g n : Nat) (I : jHp) : jHp := jm_up (jm_up (jm_up (jm_up I 197 (8 * c + n) (nI g)) 198 (8 * c + n) (I 189 k)) 199 (8 * c + n) (I 190 k)) 196 c (nI (n + 1))
def mFill (c i : Nat) (full : Int32) : Nat → Nat → Nat → jHp → jHp
  | 0, _, _, I => I
  | r + 1, g, n, I => if I 189 (8 * i + g) < 0 ∨ (full = 0 ∧ I 191 (8 * i + g) = 0) then mFill c i full r (g + 1) n (jm_up I 191 (8 * i + g) 0) else mFill c i full r (g + 1) (n + 1) (jm_up (mAdd c (8 * i + g) g n I) 191 (8 * i + g) 0)
def mCast (i k : Nat) (full : Int32) (I : jHp) : jHp := jm_up (mFill (k % 16) i full 8 0 0 (jm_up (jm_up (if full = 0 then jm_up I 182 0 0 else mShow (9 * i) (jm_up (jm_up I 182 0 0) 186 (9 * i) (I 186 (9 * i) + 2))) 195 (k % 16) (nI i)) 196 (k % 16) 0)) 182 14 (nI (k + 1))
theorem mFill_r {c i : Nat} {full : Int32} {q j : Nat} (h : q ≠ 191) (h1 : q < 196 ∨ 199 < q) : ∀ r g n I, mFill c i full r g n I q j = I q j := by
  intro r
  induction r with
  | zero => intro g n I; rfl
  | succ r ih =>
    intro g n I
    rw [mFill]
    split
    · rw [ih, up_k h]
    · rw [ih, up_k h]
      unfold mAdd
      rw [up_k (by omega), up_k (by omega), up_k (by omega), up_k (by omega)]
section
variable {L t d : Nat} {G : Nat → Nat → Int64}
theorem mT_fill1 {c i g n : Nat} {full : Int32} {w : Bool} {out : Option Value ⊕ Nat} {σ : jm_S} {I : jHp} (hc : c < 16) (hi : i < 8) (hg : g < 8) (hn : n < 8) (en : I 196 c = nI n)
    (h : ∀ w, jm_F (d + 1, 39, 202, [some (.ref 182), some (.int (nI i)), some (.int full), some (.int (nI c)), some (.int (nI g)), some (.int (nI (8 * i + g)))], [], w, jS L (mAdd c (8 * i + g) g n I) G t) out σ) :
    jm_F (d + 1, 39, 128, [some (.ref 182), some (.int (nI i)), some (.int full), some (.int (nI c)), some (.int (nI g)), some (.int (nI (8 * i + g)))], [], w, jS L I G t) out σ := by
  have hk : 8 * i + g < 64 := by omega
  have h128 : 8 * c + n < 128 := by omega
  unfold mAdd at h
  repeat (first | refine jF_step rfl trivial ?_ | refine jF_step rfl rfl ?_ | refine jF_step rfl lo_mod ?_ | refine jF_step rfl ⟨lo_mod, Or.inl rfl⟩ ?_ | refine jF_step rfl ⟨lo_mod, Or.inr rfl⟩ ?_ | refine jF_step rfl (mx16  hc) ?_ | refine jF_step rfl (mw16  hc) ?_)
  simp (disch := omega) only [jS, jm_sI, jm_aft, jm_en, jI, nc8, up_s, up_k, up_i, k8, k9, k32, k3, r16, nI_add, rm2, rm3, rm4, rm5, rm6, rm7, rm8, rm9, rm10, rm11, rm12, rm13, rm15, rm16, rm17, rm18, rm19, rm21, rm22, rm23, rm24, rm25, rm26, rm27, rm28, rm29, en]
  iterate 2 (first | refine jF_step rfl trivial ?_ | refine jF_step rfl rfl ?_ | refine jF_step rfl (mx17  h128) ?_ | refine jF_step rfl (mw17  h128) ?_)
  simp (disch := omega) only [jS, jm_sI, jm_aft, jm_en, jI, nc8, up_s, up_k, up_i, k8, k9, k32, k3, r16, nI_add, rm2, rm3, rm4, rm5, rm6, rm7, rm8, rm9, rm10, rm11, rm12, rm13, rm15, rm16, rm17, rm18, rm19, rm21, rm22, rm23, rm24, rm25, rm26, rm27, rm28, rm29, en]
  repeat (first | refine jF_step rfl trivial ?_ | refine jF_step rfl rfl ?_ | refine jF_step rfl lo_mod ?_ | refine jF_step rfl ⟨lo_mod, Or.inl rfl⟩ ?_ | refine jF_step rfl ⟨lo_mod, Or.inr rfl⟩ ?_ | refine jF_step rfl (mx16  hc) ?_ | refine jF_step rfl (mw16  hc) ?_)
  simp (disch := omega) only [jS, jm_sI, jm_aft, jm_en, jI, nc8, up_s, up_k, up_i, k8, k9, k32, k3, r16, nI_add, rm2, rm3, rm4, rm5, rm6, rm7, rm8, rm9, rm10, rm11, rm12, rm13, rm15, rm16, rm17, rm18, rm19, rm21, rm22, rm23, rm24, rm25, rm26, rm27, rm28, rm29, en]
  repeat (first | refine jF_step rfl trivial ?_ | refine jF_step rfl rfl ?_ | refine jF_step rfl lo_mod ?_ | refine jF_step rfl ⟨lo_mod, Or.inl rfl⟩ ?_ | refine jF_step rfl ⟨lo_mod, Or.inr rfl⟩ ?_ | refine jF_step rfl (mx8  hk) ?_ | refine jF_step rfl (mw8  hk) ?_)
  simp (disch := omega) only [jS, jm_sI, jm_aft, jm_en, jI, nc8, up_s, up_k, up_i, k8, k9, k32, k3, r16, nI_add, rm2, rm3, rm4, rm5, rm6, rm7, rm8, rm9, rm10, rm11, rm12, rm13, rm15, rm16, rm17, rm18, rm19, rm21, rm22, rm23, rm24, rm25, rm26, rm27, rm28, rm29, en]
  iterate 1 (first | refine jF_step rfl trivial ?_ | refine jF_step rfl rfl ?_ | refine jF_step rfl (mx18  h128) ?_ | refine jF_step rfl (mw18  h128) ?_)
  simp (disch := omega) only [jS, jm_sI, jm_aft, jm_en, jI, nc8, up_s, up_k, up_i, k8, k9, k32, k3, r16, nI_add, rm2, rm3, rm4, rm5, rm6, rm7, rm8, rm9, rm10, rm11, rm12, rm13, rm15, rm16, rm17, rm18, rm19, rm21, rm22, rm23, rm24, rm25, rm26, rm27, rm28, rm29, en]
  repeat (first | refine jF_step rfl trivial ?_ | refine jF_step rfl rfl ?_ | refine jF_step rfl lo_mod ?_ | refine jF_step rfl ⟨lo_mod, Or.inl rfl⟩ ?_ | refine jF_step rfl ⟨lo_mod, Or.inr rfl⟩ ?_ | refine jF_step rfl (mx16  hc) ?_ | refine jF_step rfl (mw16  hc) ?_)
  simp (disch := omega) only [jS, jm_sI, jm_aft, jm_en, jI, nc8, up_s, up_k, up_i, k8, k9, k32, k3, r16, nI_add, rm2, rm3, rm4, rm5, rm6, rm7, rm8, rm9, rm10, rm11, rm12, rm13, rm15, rm16, rm17, rm18, rm19, rm21, rm22, rm23, rm24, rm25, rm26, rm27, rm28, rm29, en]
  repeat (first | refine jF_step rfl trivial ?_ | refine jF_step rfl rfl ?_ | refine jF_step rfl lo_mod ?_ | refine jF_step rfl ⟨lo_mod, Or.inl rfl⟩ ?_ | refine jF_step rfl ⟨lo_mod, Or.inr rfl⟩ ?_ | refine jF_step rfl (mx9  hk) ?_ | refine jF_step rfl (mw9  hk) ?_)
  simp (disch := omega) only [jS, jm_sI, jm_aft, jm_en, jI, nc8, up_s, up_k, up_i, k8, k9, k32, k3, r16, nI_add, rm2, rm3, rm4, rm5, rm6, rm7, rm8, rm9, rm10, rm11, rm12, rm13, rm15, rm16, rm17, rm18, rm19, rm21, rm22, rm23, rm24, rm25, rm26, rm27, rm28, rm29, en]
  iterate 1 (first | refine jF_step rfl trivial ?_ | refine jF_step rfl rfl ?_ | refine jF_step rfl (mx19  h128) ?_ | refine jF_step rfl (mw19  h128) ?_)
  simp (disch := omega) only [jS, jm_sI, jm_aft, jm_en, jI, nc8, up_s, up_k, up_i, k8, k9, k32, k3, r16, nI_add, rm2, rm3, rm4, rm5, rm6, rm7, rm8, rm9, rm10, rm11, rm12, rm13, rm15, rm16, rm17, rm18, rm19, rm21, rm22, rm23, rm24, rm25, rm26, rm27, rm28, rm29, en]
  iterate 3 (first | refine jF_step rfl trivial ?_ | refine jF_step rfl rfl ?_ | refine jF_step rfl lo_mod ?_ | refine jF_step rfl ⟨lo_mod, Or.inl rfl⟩ ?_ | refine jF_step rfl ⟨lo_mod, Or.inr rfl⟩ ?_)
  iterate 1 (first | refine jF_step rfl trivial ?_ | refine jF_step rfl rfl ?_ | refine jF_step rfl ⟨rfl, rfl⟩ ?_ | refine jF_step rfl ⟨⟨rfl, rfl⟩, Or.inl rfl⟩ ?_ | refine jF_step rfl ⟨⟨rfl, rfl⟩, Or.inr rfl⟩ ?_)
  iterate 1 (first | refine jF_step rfl trivial ?_ | refine jF_step rfl rfl ?_ | refine jF_step rfl (mx16  hc) ?_ | refine jF_step rfl (mw16  hc) ?_)
  simp (disch := omega) only [jS, jm_sI, jm_aft, jm_en, jI, nc8, up_s, up_k, up_i, k8, k9, k32, k3, r16, nI_add, rm2, rm3, rm4, rm5, rm6, rm7, rm8, rm9, rm10, rm11, rm12, rm13, rm15, rm16, rm17, rm18, rm19, rm21, rm22, rm23, rm24, rm25, rm26, rm27, rm28, rm29, en]
  iterate 2 (first | refine jF_step rfl trivial ?_ | refine jF_step rfl rfl ?_)
  simp (disch := omega) only [jS, jm_sI, jm_aft, jm_en, jI, nc8, up_s, up_k, up_i, k8, k9, k32, k3, r16, nI_add, rm2, rm3, rm4, rm5, rm6, rm7, rm8, rm9, rm10, rm11, rm12, rm13, rm15, rm16, rm17, rm18, rm19, rm21, rm22, rm23, rm24, rm25, rm26, rm27, rm28, rm29, nI_1]
  iterate 1 (first | refine jF_step rfl trivial ?_ | refine jF_step rfl rfl ?_ | refine jF_step rfl (mx16  hc) ?_ | refine jF_step rfl (mw16  hc) ?_)
  simp (disch := omega) only [jS, jm_sI, jm_aft, jm_en, jI, nc8, up_s, up_k, up_i, k8, k9, k32, k3, r16, nI_add, rm2, rm3, rm4, rm5, rm6, rm7, rm8, rm9, rm10, rm11, rm12, rm13, rm15, rm16, rm17, rm18, rm19, rm21, rm22, rm23, rm24, rm25, rm26, rm27, rm28, rm29]
  exact h _
theorem mT_fill0 {c i : Nat} {full : Int32} {out : Option Value ⊕ Nat} {σ : jm_S} (hc : c < 16) (hi : i < 8) : ∀ r g n (I : jHp) (w : Bool) (x : Option Value), g + r = 8 → n ≤ g → I 196 c = nI n → (∀ w x, jm_F (d + 1, 39, 216, [some (.ref 182), some (.int (nI i)), some (.int full), some (.int (nI c)), some (.int (nI 8)), x], [], w, jS L (mFill c i full r g n I) G t) out σ) → jm_F (d + 1, 39, 88, [some (.ref 182), some (.int (nI i)), some (.int full), some (.int (nI c)), some (.int (nI g)), x], [], w, jS L I G t) out σ := by
  intro r
  induction r with
  | zero =>
    intro g n I w x hg hn en fin
    have : g = 8 := by omega
    subst this
    repeat (first | exact fin _ _ | refine jF_step rfl trivial ?_ | refine jF_step rfl rfl ?_)
  | succ r ih =>
    intro g n I w x hg hn en fin
    have hg8 : g < 8 := by omega
    have hk : 8 * i + g < 64 := by omega
    rw [mFill] at fin
    have k1 : (I 189 (8 * i + g) < 0 ∨ (full = 0 ∧ I 191 (8 * i + g) = 0)) → ∀ w, jm_F (d + 1, 39, 202, [some (.ref 182), some (.int (nI i)), some (.int full), some (.int (nI c)), some (.int (nI g)), some (.int (nI (8 * i + g)))], [], w, jS L I G t) out σ := by
      intro hb w
      rw [if_pos hb] at fin
      have k1 := fun w x => ih (g + 1) n (jm_up I 191 (8 * i + g) 0) w x (by omega) (by omega) (by rw [up_k (by omega), en]) fin
      simp only [← nI_1 (a := g)] at k1
      iterate 4 (first | refine jF_step rfl trivial ?_ | refine jF_step rfl rfl ?_ | refine jF_step rfl lo_mod ?_ | refine jF_step rfl ⟨lo_mod, Or.inl rfl⟩ ?_ | refine jF_step rfl ⟨lo_mod, Or.inr rfl⟩ ?_)
      iterate 1 (first | refine jF_step rfl trivial ?_ | refine jF_step rfl rfl ?_ | refine jF_step rfl (mw10  hk) ?_ | refine jF_step rfl ⟨mw10  hk, Or.inl rfl⟩ ?_ | refine jF_step rfl ⟨mw10  hk, Or.inr rfl⟩ ?_)
      simp (disch := omega) only [jS, jm_sI, jm_aft, jm_en, jI, nc8, up_s, up_k, up_i, k8, k9, k32, k3, r16, nI_add, rm2, rm3, rm4, rm5, rm6, rm7, rm8, rm9, rm10, rm11, rm12, rm13, rm15, rm16, rm17, rm18, rm19, rm21, rm22, rm23, rm24, rm25, rm26, rm27, rm28, rm29]
      repeat (first | exact k1 _ _ | refine jF_step rfl trivial ?_ | refine jF_step rfl rfl ?_)
    have k2 : ¬ (I 189 (8 * i + g) < 0 ∨ (full = 0 ∧ I 191 (8 * i + g) = 0)) → ∀ w, jm_F (d + 1, 39, 128, [some (.ref 182), some (.int (nI i)), some (.int full), some (.int (nI c)), some (.int (nI g)), some (.int (nI (8 * i + g)))], [], w, jS L I G t) out σ := by
      intro hb w
      rw [if_neg hb] at fin
      have k1 := fun w x => ih (g + 1) (n + 1) (jm_up (mAdd c (8 * i + g) g n I) 191 (8 * i + g) 0) w x (by omega) (by omega) (by rw [up_k (by omega)]; exact up_s) fin
      simp only [← nI_1 (a := g)] at k1
      refine mT_fill1 hc hi hg8 (by omega) en (fun w => ?_)
      iterate 4 (first | refine jF_step rfl trivial ?_ | refine jF_step rfl rfl ?_ | refine jF_step rfl lo_mod ?_ | refine jF_step rfl ⟨lo_mod, Or.inl rfl⟩ ?_ | refine jF_step rfl ⟨lo_mod, Or.inr rfl⟩ ?_)
      iterate 1 (first | refine jF_step rfl trivial ?_ | refine jF_step rfl rfl ?_ | refine jF_step rfl (mw10  hk) ?_ | refine jF_step rfl ⟨mw10  hk, Or.inl rfl⟩ ?_ | refine jF_step rfl ⟨mw10  hk, Or.inr rfl⟩ ?_)
      simp (disch := omega) only [jS, jm_sI, jm_aft, jm_en, jI, nc8, up_s, up_k, up_i, k8, k9, k32, k3, r16, nI_add, rm2, rm3, rm4, rm5, rm6, rm7, rm8, rm9, rm10, rm11, rm12, rm13, rm15, rm16, rm17, rm18, rm19, rm21, rm22, rm23, rm24, rm25, rm26, rm27, rm28, rm29]
      repeat (first | exact k1 _ _ | refine jF_step rfl trivial ?_ | refine jF_step rfl rfl ?_)
    repeat (first | refine jF_step rfl trivial ?_ | refine jF_step rfl rfl ?_)
    rw [if_neg (n8 hg8)]
    repeat (first | refine jF_step rfl trivial ?_ | refine jF_step rfl rfl ?_)
    simp (disch := omega) only [jS, jm_sI, jm_aft, jm_en, jI, nc8, up_s, up_k, up_i, k8, k9, k32, k3, r16, nI_add, rm2, rm3, rm4, rm5, rm6, rm7, rm8, rm9, rm10, rm11, rm12, rm13, rm15, rm16, rm17, rm18, rm19, rm21, rm22, rm23, rm24, rm25, rm26, rm27, rm28, rm29]
    repeat (first | refine jF_step rfl trivial ?_ | refine jF_step rfl rfl ?_ | refine jF_step rfl lo_mod ?_ | refine jF_step rfl ⟨lo_mod, Or.inl rfl⟩ ?_ | refine jF_step rfl ⟨lo_mod, Or.inr rfl⟩ ?_ | refine jF_step rfl (mx8  hk) ?_ | refine jF_step rfl (mw8  hk) ?_)
    simp (disch := omega) only [jS, jm_sI, jm_aft, jm_en, jI, nc8, up_s, up_k, up_i, k8, k9, k32, k3, r16, nI_add, rm2, rm3, rm4, rm5, rm6, rm7, rm8, rm9, rm10, rm11, rm12, rm13, rm15, rm16, rm17, rm18, rm19, rm21, rm22, rm23, rm24, rm25, rm26, rm27, rm28, rm29]
    by_cases h1 : I 189 (8 * i + g) < 0
    · rw [if_pos h1]
      exact k1 (Or.inl h1) _
    rw [if_neg h1]
    repeat (first | refine jF_step rfl trivial ?_ | refine jF_step rfl rfl ?_)
    by_cases h2 : full = 0
    · rw [if_pos h2]
      repeat (first | refine jF_step rfl trivial ?_ | refine jF_step rfl rfl ?_ | refine jF_step rfl lo_mod ?_ | refine jF_step rfl ⟨lo_mod, Or.inl rfl⟩ ?_ | refine jF_step rfl ⟨lo_mod, Or.inr rfl⟩ ?_ | refine jF_step rfl (mw10  hk) ?_ | refine jF_step rfl ⟨mw10  hk, Or.inl rfl⟩ ?_ | refine jF_step rfl ⟨mw10  hk, Or.inr rfl⟩ ?_)
      simp (disch := omega) only [jS, jm_sI, jm_aft, jm_en, jI, nc8, up_s, up_k, up_i, k8, k9, k32, k3, r16, nI_add, rm2, rm3, rm4, rm5, rm6, rm7, rm8, rm9, rm10, rm11, rm12, rm13, rm15, rm16, rm17, rm18, rm19, rm21, rm22, rm23, rm24, rm25, rm26, rm27, rm28, rm29]
      by_cases h3 : I 191 (8 * i + g) = 0
      · rw [if_pos h3]
        exact k1 (Or.inr ⟨h2, h3⟩) _
      · rw [if_neg h3]
        exact k2 (fun z => z.elim h1 (fun z => h3 z.2)) _
    · rw [if_neg h2]
      exact k2 (fun z => z.elim h1 (fun z => h2 z.1)) _
theorem mC_cast1 {i k : Nat} {full : Int32} {w : Bool} {x4 x5 : Option Value} {I : jHp} (hi : i < 8) (hk : k < 2 ^ 30) (ek : I 182 14 = nI k) : jm_F (d + 1, 39, 63, [some (.ref 182), some (.int (nI i)), some (.int full), none, x4, x5], [], w, jS L I G t) (.inl (some (.int (nI k)))) (jS L (jm_up (mFill (k % 16) i full 8 0 0 (jm_up (jm_up I 195 (k % 16) (nI i)) 196 (k % 16) 0)) 182 14 (nI (k + 1))) G t) := by
  have hm : k % 16 < 16 := Nat.mod_lt _ (by decide)
  have e1 : mFill (k % 16) i full 8 0 0 (jm_up (jm_up I 195 (k % 16) (nI i)) 196 (k % 16) 0) 182 14 = nI k := by
    rw [mFill_r (by omega) (by omega), up_k (by omega), up_k (by omega), ek]
  have fin : ∀ w x, jm_F (d + 1, 39, 216, [some (.ref 182), some (.int (nI i)), some (.int full), some (.int (nI (k % 16))), some (.int (nI 8)), x], [], w, jS L (mFill (k % 16) i full 8 0 0 (jm_up (jm_up I 195 (k % 16) (nI i)) 196 (k % 16) 0)) G t) (.inl (some (.int (nI k)))) (jS L (jm_up (mFill (k % 16) i full 8 0 0 (jm_up (jm_up I 195 (k % 16) (nI i)) 196 (k % 16) 0)) 182 14 (nI (k + 1))) G t) := by
    intro w x
    generalize mFill (k % 16) i full 8 0 0 (jm_up (jm_up I 195 (k % 16) (nI i)) 196 (k % 16) 0) = I1 at e1 ⊢
    repeat (first | refine jF_step rfl trivial ?_ | refine jF_step rfl rfl ?_ | refine jF_step rfl lo_mod ?_ | refine jF_step rfl ⟨lo_mod, Or.inl rfl⟩ ?_ | refine jF_step rfl ⟨lo_mod, Or.inr rfl⟩ ?_)
    simp (disch := omega) only [jS, jm_sI, jm_aft, jm_en, jI, nc8, up_s, up_k, up_i, k8, k9, k32, k3, r16, nI_add, rm2, rm3, rm4, rm5, rm6, rm7, rm8, rm9, rm10, rm11, rm12, rm13, rm15, rm16, rm17, rm18, rm19, rm21, rm22, rm23, rm24, rm25, rm26, rm27, rm28, rm29, e1, nI_1, nI_pred]
    exact jF_ret rfl trivial
  have k1 := fun w x => mT_fill0 (L := L) (t := t) (d := d) (G := G) (full := full) hm hi 8 0 0 (jm_up (jm_up I 195 (k % 16) (nI i)) 196 (k % 16) 0) w x rfl (Nat.le_refl _) up_s fin
  iterate 2 (first | refine jF_step rfl trivial ?_ | refine jF_step rfl rfl ?_ | refine jF_step rfl lo_mod ?_ | refine jF_step rfl ⟨lo_mod, Or.inl rfl⟩ ?_ | refine jF_step rfl ⟨lo_mod, Or.inr rfl⟩ ?_)
  simp (disch := omega) only [jS, jm_sI, jm_aft, jm_en, jI, nc8, up_s, up_k, up_i, k8, k9, k32, k3, r16, nI_add, rm2, rm3, rm4, rm5, rm6, rm7, rm8, rm9, rm10, rm11, rm12, rm13, rm15, rm16, rm17, rm18, rm19, rm21, rm22, rm23, rm24, rm25, rm26, rm27, rm28, rm29, ek]
  repeat (first | refine jF_step rfl trivial ?_ | refine jF_step rfl rfl ?_ | refine jF_step rfl (show ¬ (16 : Int32) = 0 by decide) ?_ | refine jF_step rfl lo_mod ?_ | refine jF_step rfl ⟨lo_mod, Or.inl rfl⟩ ?_ | refine jF_step rfl ⟨lo_mod, Or.inr rfl⟩ ?_)
  simp (disch := omega) only [jS, jm_sI, jm_aft, jm_en, jI, nc8, up_s, up_k, up_i, k8, k9, k32, k3, r16, nI_add, rm2, rm3, rm4, rm5, rm6, rm7, rm8, rm9, rm10, rm11, rm12, rm13, rm15, rm16, rm17, rm18, rm19, rm21, rm22, rm23, rm24, rm25, rm26, rm27, rm28, rm29]
  iterate 1 (first | refine jF_step rfl trivial ?_ | refine jF_step rfl rfl ?_ | refine jF_step rfl (mx15  hm) ?_ | refine jF_step rfl (mw15  hm) ?_)
  simp (disch := omega) only [jS, jm_sI, jm_aft, jm_en, jI, nc8, up_s, up_k, up_i, k8, k9, k32, k3, r16, nI_add, rm2, rm3, rm4, rm5, rm6, rm7, rm8, rm9, rm10, rm11, rm12, rm13, rm15, rm16, rm17, rm18, rm19, rm21, rm22, rm23, rm24, rm25, rm26, rm27, rm28, rm29]
  iterate 4 (first | refine jF_step rfl trivial ?_ | refine jF_step rfl rfl ?_ | refine jF_step rfl lo_mod ?_ | refine jF_step rfl ⟨lo_mod, Or.inl rfl⟩ ?_ | refine jF_step rfl ⟨lo_mod, Or.inr rfl⟩ ?_)
  iterate 1 (first | refine jF_step rfl trivial ?_ | refine jF_step rfl rfl ?_ | refine jF_step rfl (mx16  hm) ?_ | refine jF_step rfl (mw16  hm) ?_)
  simp (disch := omega) only [jS, jm_sI, jm_aft, jm_en, jI, nc8, up_s, up_k, up_i, k8, k9, k32, k3, r16, nI_add, rm2, rm3, rm4, rm5, rm6, rm7, rm8, rm9, rm10, rm11, rm12, rm13, rm15, rm16, rm17, rm18, rm19, rm21, rm22, rm23, rm24, rm25, rm26, rm27, rm28, rm29]
  repeat (first | exact k1 _ _ | refine jF_step rfl trivial ?_ | refine jF_step rfl rfl ?_)
theorem mC_cast {i k : Nat} {full : Int32} {I : jHp} (hi : i < 8) (hk : k < 2 ^ 30) (ek : I 182 14 = nI k) (ho : ¬ I 183 i = 0) : jm_F (d + 1, 39, 0, jm_en 39 [.ref 182, .int (nI i), .int full], [], false, jS L I G t) (.inl (some (.int (nI k)))) (jS L (mCast i k full I) G t) := by
  have h64 : 9 * i < 64 := by omega
  unfold mCast
  repeat (first | refine jF_step rfl trivial ?_ | refine jF_step rfl rfl ?_)
  refine jF_callE rfl ⟨Nat.le_of_ble_eq_true rfl, Nat.le_of_ble_eq_true rfl⟩ (mT_boat hi) ?_
  repeat (first | refine jF_step rfl trivial ?_ | refine jF_step rfl rfl ?_ | refine jF_step rfl lo_mod ?_ | refine jF_step rfl ⟨lo_mod, Or.inl rfl⟩ ?_ | refine jF_step rfl ⟨lo_mod, Or.inr rfl⟩ ?_ | refine jF_step rfl (mw2  hi) ?_ | refine jF_step rfl ⟨mw2  hi, Or.inl rfl⟩ ?_ | refine jF_step rfl ⟨mw2  hi, Or.inr rfl⟩ ?_)
  simp (disch := omega) only [jS, jm_sI, jm_aft, jm_en, jI, nc8, up_s, up_k, up_i, k8, k9, k32, k3, r16, nI_add, rm2, rm3, rm4, rm5, rm6, rm7, rm8, rm9, rm10, rm11, rm12, rm13, rm15, rm16, rm17, rm18, rm19, rm21, rm22, rm23, rm24, rm25, rm26, rm27, rm28, rm29]
  rw [if_neg ho]
  repeat (first | refine jF_step rfl trivial ?_ | refine jF_step rfl rfl ?_ | refine jF_step rfl lo_mod ?_ | refine jF_step rfl ⟨lo_mod, Or.inl rfl⟩ ?_ | refine jF_step rfl ⟨lo_mod, Or.inr rfl⟩ ?_)
  simp (disch := omega) only [jS, jm_sI, jm_aft, jm_en, jI, nc8, up_s, up_k, up_i, k8, k9, k32, k3, r16, nI_add, rm2, rm3, rm4, rm5, rm6, rm7, rm8, rm9, rm10, rm11, rm12, rm13, rm15, rm16, rm17, rm18, rm19, rm21, rm22, rm23, rm24, rm25, rm26, rm27, rm28, rm29]
  by_cases h : full = 0
  · rw [if_pos h, if_pos h]
    exact mC_cast1 hi hk (by rw [up_i (by omega), ek])
  · rw [if_neg h, if_neg h]
    iterate 5 (first | refine jF_step rfl trivial ?_ | refine jF_step rfl rfl ?_ | refine jF_step rfl lo_mod ?_ | refine jF_step rfl ⟨lo_mod, Or.inl rfl⟩ ?_ | refine jF_step rfl ⟨lo_mod, Or.inr rfl⟩ ?_)
    simp (disch := omega) only [jS, jm_sI, jm_aft, jm_en, jI, nc8, up_s, up_k, up_i, k8, k9, k32, k3, r16, nI_add, rm2, rm3, rm4, rm5, rm6, rm7, rm8, rm9, rm10, rm11, rm12, rm13, rm15, rm16, rm17, rm18, rm19, rm21, rm22, rm23, rm24, rm25, rm26, rm27, rm28, rm29]
    iterate 1 (first | refine jF_step rfl trivial ?_ | refine jF_step rfl rfl ?_ | refine jF_step rfl ⟨rfl, rfl⟩ ?_ | refine jF_step rfl ⟨⟨rfl, rfl⟩, Or.inl rfl⟩ ?_ | refine jF_step rfl ⟨⟨rfl, rfl⟩, Or.inr rfl⟩ ?_)
    iterate 1 (first | refine jF_step rfl trivial ?_ | refine jF_step rfl rfl ?_ | refine jF_step rfl (mx5  h64) ?_ | refine jF_step rfl (mw5  h64) ?_)
    simp (disch := omega) only [jS, jm_sI, jm_aft, jm_en, jI, nc8, up_s, up_k, up_i, k8, k9, k32, k3, r16, nI_add, rm2, rm3, rm4, rm5, rm6, rm7, rm8, rm9, rm10, rm11, rm12, rm13, rm15, rm16, rm17, rm18, rm19, rm21, rm22, rm23, rm24, rm25, rm26, rm27, rm28, rm29]
    iterate 2 (first | refine jF_step rfl trivial ?_ | refine jF_step rfl rfl ?_)
    iterate 1 (first | refine jF_step rfl trivial ?_ | refine jF_step rfl rfl ?_ | refine jF_step rfl (mx5  h64) ?_ | refine jF_step rfl (mw5  h64) ?_)
    simp (disch := omega) only [jS, jm_sI, jm_aft, jm_en, jI, nc8, up_s, up_k, up_i, k8, k9, k32, k3, r16, nI_add, rm2, rm3, rm4, rm5, rm6, rm7, rm8, rm9, rm10, rm11, rm12, rm13, rm15, rm16, rm17, rm18, rm19, rm21, rm22, rm23, rm24, rm25, rm26, rm27, rm28, rm29]
    repeat (first | refine jF_step rfl trivial ?_ | refine jF_step rfl rfl ?_)
    simp (disch := omega) only [jS, jm_sI, jm_aft, jm_en, jI, nc8, up_s, up_k, up_i, k8, k9, k32, k3, r16, nI_add, rm2, rm3, rm4, rm5, rm6, rm7, rm8, rm9, rm10, rm11, rm12, rm13, rm15, rm16, rm17, rm18, rm19, rm21, rm22, rm23, rm24, rm25, rm26, rm27, rm28, rm29]
    refine jF_callE rfl ⟨Nat.le_of_ble_eq_true rfl, lo_mod⟩ (mT_show h64) ?_
    exact mC_cast1 hi hk (by rw [mShow_r (by omega), up_k (by omega), up_i (by omega), ek])
theorem mC_castX {x full : Int32} {I : jHp} (h : x < 0 ∨ ¬ x < 8) : jm_F (d + 1, 39, 0, jm_en 39 [.ref 182, .int x, .int full], [], false, jS L I G t) (.inl (some (.int 0))) (jS L (jm_up I 182 0 1) G t) := by
  repeat (first | refine jF_step rfl trivial ?_ | refine jF_step rfl rfl ?_)
  refine jF_callE rfl ⟨Nat.le_of_ble_eq_true rfl, Nat.le_of_ble_eq_true rfl⟩ (mT_boatX h) ?_
  repeat (first | refine jF_step rfl trivial ?_ | refine jF_step rfl rfl ?_ | refine jF_step rfl lo_mod ?_ | refine jF_step rfl ⟨lo_mod, Or.inl rfl⟩ ?_ | refine jF_step rfl ⟨lo_mod, Or.inr rfl⟩ ?_ | simp (disch := omega) only [jS, jm_sI, jm_aft, jm_en, jI, nc8, up_s, up_k, up_i, k8, k9, k32, k3, r16, nI_add, rm2, rm3, rm4, rm5, rm6, rm7, rm8, rm9, rm10, rm11, rm12, rm13, rm15, rm16, rm17, rm18, rm19, rm21, rm22, rm23, rm24, rm25, rm26, rm27, rm28, rm29])
  exact jF_ret rfl trivial
theorem mC_castY {i : Nat} {full : Int32} {I : jHp} (hi : i < 8) (ho : I 183 i = 0) : jm_F (d + 1, 39, 0, jm_en 39 [.ref 182, .int (nI i), .int full], [], false, jS L I G t) (.inl (some (.int 0))) (jS L (jm_up I 182 0 2) G t) := by
  repeat (first | refine jF_step rfl trivial ?_ | refine jF_step rfl rfl ?_)
  refine jF_callE rfl ⟨Nat.le_of_ble_eq_true rfl, Nat.le_of_ble_eq_true rfl⟩ (mT_boat hi) ?_
  repeat (first | refine jF_step rfl trivial ?_ | refine jF_step rfl rfl ?_ | refine jF_step rfl lo_mod ?_ | refine jF_step rfl ⟨lo_mod, Or.inl rfl⟩ ?_ | refine jF_step rfl ⟨lo_mod, Or.inr rfl⟩ ?_ | refine jF_step rfl (mw2  hi) ?_ | refine jF_step rfl ⟨mw2  hi, Or.inl rfl⟩ ?_ | refine jF_step rfl ⟨mw2  hi, Or.inr rfl⟩ ?_)
  simp (disch := omega) only [jS, jm_sI, jm_aft, jm_en, jI, nc8, up_s, up_k, up_i, k8, k9, k32, k3, r16, nI_add, rm2, rm3, rm4, rm5, rm6, rm7, rm8, rm9, rm10, rm11, rm12, rm13, rm15, rm16, rm17, rm18, rm19, rm21, rm22, rm23, rm24, rm25, rm26, rm27, rm28, rm29]
  rw [if_pos ho]
  repeat (first | refine jF_step rfl trivial ?_ | refine jF_step rfl rfl ?_ | refine jF_step rfl lo_mod ?_ | refine jF_step rfl ⟨lo_mod, Or.inl rfl⟩ ?_ | refine jF_step rfl ⟨lo_mod, Or.inr rfl⟩ ?_ | simp (disch := omega) only [jS, jm_sI, jm_aft, jm_en, jI, nc8, up_s, up_k, up_i, k8, k9, k32, k3, r16, nI_add, rm2, rm3, rm4, rm5, rm6, rm7, rm8, rm9, rm10, rm11, rm12, rm13, rm15, rm16, rm17, rm18, rm19, rm21, rm22, rm23, rm24, rm25, rm26, rm27, rm28, rm29])
  exact jF_ret rfl trivial
theorem mC_entX {x p j k : Int32} {I : jHp} (h : mIsCast I x = 0) : jm_F (d + 2, 44, 0, jm_en 44 [.ref 182, .int x, .int p, .int j, .int k], [], false, jS L I G t) (.inl (some (.int 0))) (jS L (jm_up I 182 0 1) G t) := by
  repeat (first | refine jF_step rfl trivial ?_ | refine jF_step rfl rfl ?_)
  refine jF_callE rfl ⟨Nat.le_of_ble_eq_true rfl, lo_mod⟩ (mT_isPartX h) ?_
  repeat (first | refine jF_step rfl trivial ?_ | refine jF_step rfl rfl ?_ | refine jF_step rfl lo_mod ?_ | refine jF_step rfl ⟨lo_mod, Or.inl rfl⟩ ?_ | refine jF_step rfl ⟨lo_mod, Or.inr rfl⟩ ?_ | simp (disch := omega) only [jS, jm_sI, jm_aft, jm_en, jI, nc8, up_s, up_k, up_i, k8, k9, k32, k3, r16, nI_add, rm2, rm3, rm4, rm5, rm6, rm7, rm8, rm9, rm10, rm11, rm12, rm13, rm15, rm16, rm17, rm18, rm19, rm21, rm22, rm23, rm24, rm25, rm26, rm27, rm28, rm29])
  exact jF_ret rfl trivial
theorem mC_entY {c : Nat} {p j k : Int32} {I : jHp} (hc : c < 2 ^ 30) (h : ¬ mIsCast I (nI c) = 0) (h2 : mIsPart I c p = 0 ∨ k < 0 ∨ ¬ k ≤ 2) : jm_F (d + 2, 44, 0, jm_en 44 [.ref 182, .int (nI c), .int p, .int j, .int k], [], false, jS L I G t) (.inl (some (.int 0))) (jS L (jm_up I 182 0 1) G t) := by
  repeat (first | refine jF_step rfl trivial ?_ | refine jF_step rfl rfl ?_)
  refine jF_callE rfl ⟨Nat.le_of_ble_eq_true rfl, lo_mod⟩ (mT_isPart hc h) ?_
  repeat (first | refine jF_step rfl trivial ?_ | refine jF_step rfl rfl ?_)
  by_cases h1 : mIsPart I c p = 0
  · rw [if_pos h1]
    repeat (first | refine jF_step rfl trivial ?_ | refine jF_step rfl rfl ?_ | refine jF_step rfl lo_mod ?_ | refine jF_step rfl ⟨lo_mod, Or.inl rfl⟩ ?_ | refine jF_step rfl ⟨lo_mod, Or.inr rfl⟩ ?_ | simp (disch := omega) only [jS, jm_sI, jm_aft, jm_en, jI, nc8, up_s, up_k, up_i, k8, k9, k32, k3, r16, nI_add, rm2, rm3, rm4, rm5, rm6, rm7, rm8, rm9, rm10, rm11, rm12, rm13, rm15, rm16, rm17, rm18, rm19, rm21, rm22, rm23, rm24, rm25, rm26, rm27, rm28, rm29])
    exact jF_ret rfl trivial
  rw [if_neg h1]
  repeat (first | refine jF_step rfl trivial ?_ | refine jF_step rfl rfl ?_)
  by_cases h3 : k < 0
  · rw [if_pos h3]
    repeat (first | refine jF_step rfl trivial ?_ | refine jF_step rfl rfl ?_ | refine jF_step rfl lo_mod ?_ | refine jF_step rfl ⟨lo_mod, Or.inl rfl⟩ ?_ | refine jF_step rfl ⟨lo_mod, Or.inr rfl⟩ ?_ | simp (disch := omega) only [jS, jm_sI, jm_aft, jm_en, jI, nc8, up_s, up_k, up_i, k8, k9, k32, k3, r16, nI_add, rm2, rm3, rm4, rm5, rm6, rm7, rm8, rm9, rm10, rm11, rm12, rm13, rm15, rm16, rm17, rm18, rm19, rm21, rm22, rm23, rm24, rm25, rm26, rm27, rm28, rm29])
    exact jF_ret rfl trivial
  rw [if_neg h3]
  repeat (first | refine jF_step rfl trivial ?_ | refine jF_step rfl rfl ?_)
  rw [if_neg (h2.elim (fun z => absurd z h1) (fun z => z.elim (fun z => absurd z h3) id))]
  repeat (first | refine jF_step rfl trivial ?_ | refine jF_step rfl rfl ?_ | refine jF_step rfl lo_mod ?_ | refine jF_step rfl ⟨lo_mod, Or.inl rfl⟩ ?_ | refine jF_step rfl ⟨lo_mod, Or.inr rfl⟩ ?_ | simp (disch := omega) only [jS, jm_sI, jm_aft, jm_en, jI, nc8, up_s, up_k, up_i, k8, k9, k32, k3, r16, nI_add, rm2, rm3, rm4, rm5, rm6, rm7, rm8, rm9, rm10, rm11, rm12, rm13, rm15, rm16, rm17, rm18, rm19, rm21, rm22, rm23, rm24, rm25, rm26, rm27, rm28, rm29])
  exact jF_ret rfl trivial
theorem mC_entW {c k : Nat} {p j : Int32} {I : jHp} (hc : c < 2 ^ 30) (h : ¬ mIsCast I (nI c) = 0) (h1 : ¬ mIsPart I c p = 0) (hk : k < 3) (h2 : j < 0 ∨ 2 < j ∨ ¬ 3 * p + j < I 196 (c % 16)) : jm_F (d + 2, 44, 0, jm_en 44 [.ref 182, .int (nI c), .int p, .int j, .int (nI k)], [], false, jS L I G t) (.inl (some (.int 0))) (jS L (jm_up I 182 0 2) G t) := by
  have hm : c % 16 < 16 := Nat.mod_lt _ (by decide)
  repeat (first | refine jF_step rfl trivial ?_ | refine jF_step rfl rfl ?_)
  refine jF_callE rfl ⟨Nat.le_of_ble_eq_true rfl, lo_mod⟩ (mT_isPart hc h) ?_
  repeat (first | refine jF_step rfl trivial ?_ | refine jF_step rfl rfl ?_)
  rw [if_neg h1]
  repeat (first | refine jF_step rfl trivial ?_ | refine jF_step rfl rfl ?_)
  rw [if_neg (nin0 (by omega))]
  repeat (first | refine jF_step rfl trivial ?_ | refine jF_step rfl rfl ?_)
  rw [if_pos (show nI k ≤ 2 from nI_le (b := 2) (by omega) (by decide))]
  repeat (first | refine jF_step rfl trivial ?_ | refine jF_step rfl rfl ?_)
  by_cases h3 : j < 0
  · rw [if_pos h3]
    repeat (first | refine jF_step rfl trivial ?_ | refine jF_step rfl rfl ?_ | refine jF_step rfl lo_mod ?_ | refine jF_step rfl ⟨lo_mod, Or.inl rfl⟩ ?_ | refine jF_step rfl ⟨lo_mod, Or.inr rfl⟩ ?_ | simp (disch := omega) only [jS, jm_sI, jm_aft, jm_en, jI, nc8, up_s, up_k, up_i, k8, k9, k32, k3, r16, nI_add, rm2, rm3, rm4, rm5, rm6, rm7, rm8, rm9, rm10, rm11, rm12, rm13, rm15, rm16, rm17, rm18, rm19, rm21, rm22, rm23, rm24, rm25, rm26, rm27, rm28, rm29])
    exact jF_ret rfl trivial
  rw [if_neg h3]
  repeat (first | refine jF_step rfl trivial ?_ | refine jF_step rfl rfl ?_)
  by_cases h4 : 2 < j
  · rw [if_pos h4]
    repeat (first | refine jF_step rfl trivial ?_ | refine jF_step rfl rfl ?_ | refine jF_step rfl lo_mod ?_ | refine jF_step rfl ⟨lo_mod, Or.inl rfl⟩ ?_ | refine jF_step rfl ⟨lo_mod, Or.inr rfl⟩ ?_ | simp (disch := omega) only [jS, jm_sI, jm_aft, jm_en, jI, nc8, up_s, up_k, up_i, k8, k9, k32, k3, r16, nI_add, rm2, rm3, rm4, rm5, rm6, rm7, rm8, rm9, rm10, rm11, rm12, rm13, rm15, rm16, rm17, rm18, rm19, rm21, rm22, rm23, rm24, rm25, rm26, rm27, rm28, rm29])
    exact jF_ret rfl trivial
  rw [if_neg h4]
  repeat (first | refine jF_step rfl trivial ?_ | refine jF_step rfl rfl ?_ | refine jF_step rfl lo_mod ?_ | refine jF_step rfl ⟨lo_mod, Or.inl rfl⟩ ?_ | refine jF_step rfl ⟨lo_mod, Or.inr rfl⟩ ?_ | refine jF_step rfl (show ¬ (16 : Int32) = 0 by decide) ?_)
  simp (disch := omega) only [jS, jm_sI, jm_aft, jm_en, jI, nc8, up_s, up_k, up_i, k8, k9, k32, k3, r16, nI_add, rm2, rm3, rm4, rm5, rm6, rm7, rm8, rm9, rm10, rm11, rm12, rm13, rm15, rm16, rm17, rm18, rm19, rm21, rm22, rm23, rm24, rm25, rm26, rm27, rm28, rm29]
  repeat (first | refine jF_step rfl trivial ?_ | refine jF_step rfl rfl ?_ | refine jF_step rfl (mx16  hm) ?_ | refine jF_step rfl (mw16  hm) ?_)
  simp (disch := omega) only [jS, jm_sI, jm_aft, jm_en, jI, nc8, up_s, up_k, up_i, k8, k9, k32, k3, r16, nI_add, rm2, rm3, rm4, rm5, rm6, rm7, rm8, rm9, rm10, rm11, rm12, rm13, rm15, rm16, rm17, rm18, rm19, rm21, rm22, rm23, rm24, rm25, rm26, rm27, rm28, rm29]
  rw [if_neg (h2.elim (fun z => absurd z h3) (fun z => z.elim (fun z => absurd z h4) id))]
  repeat (first | refine jF_step rfl trivial ?_ | refine jF_step rfl rfl ?_ | refine jF_step rfl lo_mod ?_ | refine jF_step rfl ⟨lo_mod, Or.inl rfl⟩ ?_ | refine jF_step rfl ⟨lo_mod, Or.inr rfl⟩ ?_ | simp (disch := omega) only [jS, jm_sI, jm_aft, jm_en, jI, nc8, up_s, up_k, up_i, k8, k9, k32, k3, r16, nI_add, rm2, rm3, rm4, rm5, rm6, rm7, rm8, rm9, rm10, rm11, rm12, rm13, rm15, rm16, rm17, rm18, rm19, rm21, rm22, rm23, rm24, rm25, rm26, rm27, rm28, rm29])
  exact jF_ret rfl trivial
theorem mC_ent {c k p j : Nat} {I : jHp} (hc : c < 2 ^ 30) (h : ¬ mIsCast I (nI c) = 0) (h1 : ¬ mIsPart I c (nI p) = 0) (hk : k < 3) (hj : j < 3) (hpj : 3 * p + j < 8) (h2 : nI (3 * p + j) < I 196 (c % 16)) : jm_F (d + 2, 44, 0, jm_en 44 [.ref 182, .int (nI c), .int (nI p), .int (nI j), .int (nI k)], [], false, jS L I G t) (.inl (some (.int (I (197 + k) (8 * (c % 16) + (3 * p + j)))))) (jS L (jm_up I 182 0 0) G t) := by
  have hm : c % 16 < 16 := Nat.mod_lt _ (by decide)
  have h128 : 8 * (c % 16) + 3 * p + j < 128 := by omega
  rw [show 8 * (c % 16) + (3 * p + j) = 8 * (c % 16) + 3 * p + j by omega]
  repeat (first | refine jF_step rfl trivial ?_ | refine jF_step rfl rfl ?_)
  refine jF_callE rfl ⟨Nat.le_of_ble_eq_true rfl, lo_mod⟩ (mT_isPart hc h) ?_
  repeat (first | refine jF_step rfl trivial ?_ | refine jF_step rfl rfl ?_)
  rw [if_neg h1]
  repeat (first | refine jF_step rfl trivial ?_ | refine jF_step rfl rfl ?_)
  rw [if_neg (nin0 (by omega))]
  repeat (first | refine jF_step rfl trivial ?_ | refine jF_step rfl rfl ?_)
  rw [if_pos (show nI k ≤ 2 from nI_le (b := 2) (by omega) (by decide))]
  repeat (first | refine jF_step rfl trivial ?_ | refine jF_step rfl rfl ?_)
  rw [if_neg (nin0 (by omega))]
  repeat (first | refine jF_step rfl trivial ?_ | refine jF_step rfl rfl ?_)
  rw [if_neg (show ¬ (2 : Int32) < nI j from fun z => absurd (nI_le (b := 2) (a := j) (by omega) (by decide)) (Int32.not_le.mpr z))]
  repeat (first | refine jF_step rfl trivial ?_ | refine jF_step rfl rfl ?_ | refine jF_step rfl lo_mod ?_ | refine jF_step rfl ⟨lo_mod, Or.inl rfl⟩ ?_ | refine jF_step rfl ⟨lo_mod, Or.inr rfl⟩ ?_ | refine jF_step rfl (show ¬ (16 : Int32) = 0 by decide) ?_)
  simp (disch := omega) only [jS, jm_sI, jm_aft, jm_en, jI, nc8, up_s, up_k, up_i, k8, k9, k32, k3, r16, nI_add, rm2, rm3, rm4, rm5, rm6, rm7, rm8, rm9, rm10, rm11, rm12, rm13, rm15, rm16, rm17, rm18, rm19, rm21, rm22, rm23, rm24, rm25, rm26, rm27, rm28, rm29]
  repeat (first | refine jF_step rfl trivial ?_ | refine jF_step rfl rfl ?_ | refine jF_step rfl (mx16  hm) ?_ | refine jF_step rfl (mw16  hm) ?_)
  simp (disch := omega) only [jS, jm_sI, jm_aft, jm_en, jI, nc8, up_s, up_k, up_i, k8, k9, k32, k3, r16, nI_add, rm2, rm3, rm4, rm5, rm6, rm7, rm8, rm9, rm10, rm11, rm12, rm13, rm15, rm16, rm17, rm18, rm19, rm21, rm22, rm23, rm24, rm25, rm26, rm27, rm28, rm29]
  rw [if_pos h2]
  repeat (first | refine jF_step rfl trivial ?_ | refine jF_step rfl rfl ?_ | refine jF_step rfl lo_mod ?_ | refine jF_step rfl ⟨lo_mod, Or.inl rfl⟩ ?_ | refine jF_step rfl ⟨lo_mod, Or.inr rfl⟩ ?_ | refine jF_step rfl (show ¬ (16 : Int32) = 0 by decide) ?_)
  simp (disch := omega) only [jS, jm_sI, jm_aft, jm_en, jI, nc8, up_s, up_k, up_i, k8, k9, k32, k3, r16, nI_add, rm2, rm3, rm4, rm5, rm6, rm7, rm8, rm9, rm10, rm11, rm12, rm13, rm15, rm16, rm17, rm18, rm19, rm21, rm22, rm23, rm24, rm25, rm26, rm27, rm28, rm29]
  match k, hk with
  | 0, _ =>
    repeat (first | refine jF_step rfl trivial ?_ | refine jF_step rfl rfl ?_ | refine jF_step rfl lo_mod ?_ | refine jF_step rfl ⟨lo_mod, Or.inl rfl⟩ ?_ | refine jF_step rfl ⟨lo_mod, Or.inr rfl⟩ ?_ | refine jF_step rfl (mx17  h128) ?_ | refine jF_step rfl (mw17  h128) ?_ | simp (disch := omega) only [jS, jm_sI, jm_aft, jm_en, jI, nc8, up_s, up_k, up_i, k8, k9, k32, k3, r16, nI_add, rm2, rm3, rm4, rm5, rm6, rm7, rm8, rm9, rm10, rm11, rm12, rm13, rm15, rm16, rm17, rm18, rm19, rm21, rm22, rm23, rm24, rm25, rm26, rm27, rm28, rm29])
    exact jF_ret rfl trivial
  | 1, _ =>
    repeat (first | refine jF_step rfl trivial ?_ | refine jF_step rfl rfl ?_ | refine jF_step rfl lo_mod ?_ | refine jF_step rfl ⟨lo_mod, Or.inl rfl⟩ ?_ | refine jF_step rfl ⟨lo_mod, Or.inr rfl⟩ ?_ | refine jF_step rfl (mx18  h128) ?_ | refine jF_step rfl (mw18  h128) ?_ | simp (disch := omega) only [jS, jm_sI, jm_aft, jm_en, jI, nc8, up_s, up_k, up_i, k8, k9, k32, k3, r16, nI_add, rm2, rm3, rm4, rm5, rm6, rm7, rm8, rm9, rm10, rm11, rm12, rm13, rm15, rm16, rm17, rm18, rm19, rm21, rm22, rm23, rm24, rm25, rm26, rm27, rm28, rm29])
    exact jF_ret rfl trivial
  | 2, _ =>
    repeat (first | refine jF_step rfl trivial ?_ | refine jF_step rfl rfl ?_ | refine jF_step rfl lo_mod ?_ | refine jF_step rfl ⟨lo_mod, Or.inl rfl⟩ ?_ | refine jF_step rfl ⟨lo_mod, Or.inr rfl⟩ ?_ | refine jF_step rfl (mx19  h128) ?_ | refine jF_step rfl (mw19  h128) ?_ | simp (disch := omega) only [jS, jm_sI, jm_aft, jm_en, jI, nc8, up_s, up_k, up_i, k8, k9, k32, k3, r16, nI_add, rm2, rm3, rm4, rm5, rm6, rm7, rm8, rm9, rm10, rm11, rm12, rm13, rm15, rm16, rm17, rm18, rm19, rm21, rm22, rm23, rm24, rm25, rm26, rm27, rm28, rm29])
    exact jF_ret rfl trivial
end
