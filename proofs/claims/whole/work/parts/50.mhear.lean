/-! runs of the small machine: the reference hears, ticks, casts -/
theorem mShow_r {k r j : Nat} {I : jHp} (h : r < 186 ∨ 194 < r) : mShow k I r j = I r j := by
  unfold mShow; rw [up_k (by omega), up_k (by omega), up_k (by omega), up_k (by omega)]
theorem mT5_r {k r j : Nat} {m : Int32} {I : jHp} (h : r < 186 ∨ 194 < r) : mT5 k m I r j = I r j := by
  unfold mT5; split
  · exact mShow_r h
  · exact up_k (by omega)
theorem mTake_r {i g r j : Nat} {n m f : Int32} {I : jHp} (h : r < 186 ∨ 194 < r) : mTake i g n m f I r j = I r j := by
  unfold mTake mT2 mT3 mT4; rw [mT5_r h, up_k (by omega), up_k (by omega), up_k (by omega), up_k (by omega), up_k (by omega)]
def mG (I : jHp) (c k : Nat) : Nat := (I 197 (8 * c + k)).toNatClampNeg
def mM (I : jHp) (c k : Nat) : Int32 := if 0 ≤ I 199 (8 * c + k) then I 199 (8 * c + k) + 1 else -1
def mHear (i c : Nat) (f : Int32) : Nat → Nat → Int32 → jHp → jHp × Int32
  | 0, _, x, I => (I, x)
  | r + 1, k, x, I => if mDoes I i (mG I c k) (I 198 (8 * c + k)) (mM I c k) then mHear i c f r (k + 1) (x + 1) (mTake i (mG I c k) (I 198 (8 * c + k)) (mM I c k) f I) else mHear i c f r (k + 1) (x + 0) I
section
variable {L t d : Nat} {G : Nat → Nat → Int64}
theorem mT_hear0 {i c p z s : Nat} {late : Int32} (hi : i < 8) (hc : c < 2 ^ 30) (hz : z ≤ 8) (hp : p * 3 ≤ z) : ∀ r k (xs : Int32) (I : jHp) (w : Bool) (y8 y9 : Option Value), k + r = p * 3 + hRows z p → p * 3 ≤ k → I 196 (c % 16) = nI z → (∀ k, k < z → ∃ g, g < 8 ∧ I 197 (8 * (c % 16) + k) = nI g) → jm_F (d + 2, 46, 122, [some (.ref 182), some (.int (nI c)), some (.int (nI p)), some (.int (nI i)), some (.int late), some (.int (nI s)), some (.int xs), some (.int (nI k)), y8, y9], [], w, jS L I G t) (.inl (some (.int (mHear i (c % 16) (nI s) r k xs I).2))) (jS L (mHear i (c % 16) (nI s) r k xs I).1 G t) := by
  have hm : c % 16 < 16 := Nat.mod_lt _ (by decide)
  have e3 : ∀ a : Nat, nI a + 3 = nI (a + 3) := fun a => nI_add a 3
  intro r
  induction r with
  | zero =>
    intro k xs I w y8 y9 hk hpk ez hgs
    rw [mHear]
    repeat (first | refine jF_step rfl trivial ?_ | refine jF_step rfl rfl ?_)
    simp (disch := omega) only [jS, jm_sI, jm_aft, jm_en, jI, nc8, up_s, up_k, up_i, k8, k9, k32, k3, r16, nI_add, rm2, rm3, rm4, rm5, rm6, rm7, rm8, rm9, rm10, rm11, rm12, rm13, rm15, rm16, rm17, rm18, rm19, rm21, rm22, rm23, rm24, rm25, rm26, rm27, rm28, rm29, e3]
    by_cases h : 3 * p + 3 ≤ k
    · rw [if_pos (n_ge' h (by unfold hRows at hk; omega))]
      repeat (first | refine jF_step rfl trivial ?_ | refine jF_step rfl rfl ?_)
      exact jF_ret rfl trivial
    · rw [if_neg (n_ge (by omega) (by omega))]
      repeat (first | refine jF_step rfl trivial ?_ | refine jF_step rfl rfl ?_ | refine jF_step rfl lo_mod ?_ | refine jF_step rfl ⟨lo_mod, Or.inl rfl⟩ ?_ | refine jF_step rfl ⟨lo_mod, Or.inr rfl⟩ ?_ | refine jF_step rfl (show ¬ (16 : Int32) = 0 by decide) ?_)
      simp (disch := omega) only [jS, jm_sI, jm_aft, jm_en, jI, nc8, up_s, up_k, up_i, k8, k9, k32, k3, r16, nI_add, rm2, rm3, rm4, rm5, rm6, rm7, rm8, rm9, rm10, rm11, rm12, rm13, rm15, rm16, rm17, rm18, rm19, rm21, rm22, rm23, rm24, rm25, rm26, rm27, rm28, rm29]
      repeat (first | refine jF_step rfl trivial ?_ | refine jF_step rfl rfl ?_ | refine jF_step rfl (mx16  hm) ?_ | refine jF_step rfl (mw16  hm) ?_)
      simp (disch := omega) only [jS, jm_sI, jm_aft, jm_en, jI, nc8, up_s, up_k, up_i, k8, k9, k32, k3, r16, nI_add, rm2, rm3, rm4, rm5, rm6, rm7, rm8, rm9, rm10, rm11, rm12, rm13, rm15, rm16, rm17, rm18, rm19, rm21, rm22, rm23, rm24, rm25, rm26, rm27, rm28, rm29, ez]
      rw [if_pos (n_ge' (by unfold hRows at hk; omega) (by unfold hRows at hk; omega))]
      repeat (first | refine jF_step rfl trivial ?_ | refine jF_step rfl rfl ?_)
      exact jF_ret rfl trivial
  | succ r ih =>
    intro k xs I w y8 y9 hk hpk ez hgs
    have hkz : k < z := by unfold hRows at hk; omega
    have hk3 : k < 3 * p + 3 := by unfold hRows at hk; omega
    obtain ⟨g, hg, eg⟩ := hgs k hkz
    have eg' : mG I (c % 16) k = g := by unfold mG; rw [eg, nc8 (by omega)]
    have h128 : 8 * (c % 16) + k < 128 := by omega
    have k1 := fun w y8 y9 => ih (k + 1) (xs + 0) I w y8 y9 (by omega) (by omega) ez hgs
    have k2 := fun w y8 y9 => ih (k + 1) (xs + 1) (mTake i g (I 198 (8 * (c % 16) + k)) (mM I (c % 16) k) (nI s) I) w y8 y9 (by omega) (by omega) (by rw [mTake_r (by omega), ez]) (fun k hk => by
      obtain ⟨g, hg, eg⟩ := hgs k hk
      exact ⟨g, hg, by rw [mTake_r (by omega), eg]⟩)
    simp only [← nI_1 (a := k)] at k1 k2
    have hrow : ∀ w mm, mm = mM I (c % 16) k → jm_F (d + 2, 46, 199, [some (.ref 182), some (.int (nI c)), some (.int (nI p)), some (.int (nI i)), some (.int late), some (.int (nI s)), some (.int xs), some (.int (nI k)), some (.int (nI (8 * (c % 16) + k))), y9], [.int mm, .int (I 198 (8 * (c % 16) + k)), .int (nI g), .int (nI s), .int (nI i), .ref 182], w, jS L I G t) (.inl (some (.int (mHear i (c % 16) (nI s) (r + 1) k xs I).2))) (jS L (mHear i (c % 16) (nI s) (r + 1) k xs I).1 G t) := by
      intro w mm emm
      rw [mHear, eg', ← emm]
      rw [← emm] at k2
      refine jF_call rfl ⟨Nat.le_of_ble_eq_true rfl, lo_mod⟩ (mT_take hi hg) (fun w => ?_)
      by_cases h : mDoes I i g (I 198 (8 * (c % 16) + k)) mm
      · simp only [if_pos h]
        repeat (first | exact k2 _ _ _ | refine jF_step rfl trivial ?_ | refine jF_step rfl rfl ?_)
      · simp only [if_neg h]
        repeat (first | exact k1 _ _ _ | refine jF_step rfl trivial ?_ | refine jF_step rfl rfl ?_)
    generalize mHear i (c % 16) (nI s) (r + 1) k xs I = res at hrow ⊢
    repeat (first | refine jF_step rfl trivial ?_ | refine jF_step rfl rfl ?_)
    simp (disch := omega) only [jS, jm_sI, jm_aft, jm_en, jI, nc8, up_s, up_k, up_i, k8, k9, k32, k3, r16, nI_add, rm2, rm3, rm4, rm5, rm6, rm7, rm8, rm9, rm10, rm11, rm12, rm13, rm15, rm16, rm17, rm18, rm19, rm21, rm22, rm23, rm24, rm25, rm26, rm27, rm28, rm29, e3]
    rw [if_neg (n_ge hk3 (by omega))]
    repeat (first | refine jF_step rfl trivial ?_ | refine jF_step rfl rfl ?_ | refine jF_step rfl lo_mod ?_ | refine jF_step rfl ⟨lo_mod, Or.inl rfl⟩ ?_ | refine jF_step rfl ⟨lo_mod, Or.inr rfl⟩ ?_ | refine jF_step rfl (show ¬ (16 : Int32) = 0 by decide) ?_)
    simp (disch := omega) only [jS, jm_sI, jm_aft, jm_en, jI, nc8, up_s, up_k, up_i, k8, k9, k32, k3, r16, nI_add, rm2, rm3, rm4, rm5, rm6, rm7, rm8, rm9, rm10, rm11, rm12, rm13, rm15, rm16, rm17, rm18, rm19, rm21, rm22, rm23, rm24, rm25, rm26, rm27, rm28, rm29]
    repeat (first | refine jF_step rfl trivial ?_ | refine jF_step rfl rfl ?_ | refine jF_step rfl (mx16  hm) ?_ | refine jF_step rfl (mw16  hm) ?_)
    simp (disch := omega) only [jS, jm_sI, jm_aft, jm_en, jI, nc8, up_s, up_k, up_i, k8, k9, k32, k3, r16, nI_add, rm2, rm3, rm4, rm5, rm6, rm7, rm8, rm9, rm10, rm11, rm12, rm13, rm15, rm16, rm17, rm18, rm19, rm21, rm22, rm23, rm24, rm25, rm26, rm27, rm28, rm29, ez]
    rw [if_neg (n_ge hkz (by omega))]
    repeat (first | refine jF_step rfl trivial ?_ | refine jF_step rfl rfl ?_ | refine jF_step rfl (show ¬ (16 : Int32) = 0 by decide) ?_)
    simp (disch := omega) only [jS, jm_sI, jm_aft, jm_en, jI, nc8, up_s, up_k, up_i, k8, k9, k32, k3, r16, nI_add, rm2, rm3, rm4, rm5, rm6, rm7, rm8, rm9, rm10, rm11, rm12, rm13, rm15, rm16, rm17, rm18, rm19, rm21, rm22, rm23, rm24, rm25, rm26, rm27, rm28, rm29]
    repeat (first | refine jF_step rfl trivial ?_ | refine jF_step rfl rfl ?_ | refine jF_step rfl lo_mod ?_ | refine jF_step rfl ⟨lo_mod, Or.inl rfl⟩ ?_ | refine jF_step rfl ⟨lo_mod, Or.inr rfl⟩ ?_ | refine jF_step rfl (mx17  h128) ?_ | refine jF_step rfl (mw17  h128) ?_ | refine jF_step rfl (mx18  h128) ?_ | refine jF_step rfl (mw18  h128) ?_ | refine jF_step rfl (mx19  h128) ?_ | refine jF_step rfl (mw19  h128) ?_)
    simp (disch := omega) only [jS, jm_sI, jm_aft, jm_en, jI, nc8, up_s, up_k, up_i, k8, k9, k32, k3, r16, nI_add, rm2, rm3, rm4, rm5, rm6, rm7, rm8, rm9, rm10, rm11, rm12, rm13, rm15, rm16, rm17, rm18, rm19, rm21, rm22, rm23, rm24, rm25, rm26, rm27, rm28, rm29, eg]
    by_cases hmm : 0 ≤ I 199 (8 * (c % 16) + k)
    · rw [if_pos hmm]
      iterate 3 (first | refine jF_step rfl trivial ?_ | refine jF_step rfl rfl ?_ | refine jF_step rfl lo_mod ?_ | refine jF_step rfl ⟨lo_mod, Or.inl rfl⟩ ?_ | refine jF_step rfl ⟨lo_mod, Or.inr rfl⟩ ?_)
      iterate 1 (first | refine jF_step rfl trivial ?_ | refine jF_step rfl rfl ?_ | refine jF_step rfl (mx19  h128) ?_ | refine jF_step rfl (mw19  h128) ?_)
      iterate 2 (first | refine jF_step rfl trivial ?_ | refine jF_step rfl rfl ?_)
      simp (disch := omega) only [jS, jm_sI, jm_aft, jm_en, jI, nc8, up_s, up_k, up_i, k8, k9, k32, k3, r16, nI_add, rm2, rm3, rm4, rm5, rm6, rm7, rm8, rm9, rm10, rm11, rm12, rm13, rm15, rm16, rm17, rm18, rm19, rm21, rm22, rm23, rm24, rm25, rm26, rm27, rm28, rm29]
      exact hrow _ _ (by unfold mM; rw [if_pos hmm])
    · rw [if_neg hmm]
      iterate 2 (first | refine jF_step rfl trivial ?_ | refine jF_step rfl rfl ?_)
      exact hrow _ _ (by unfold mM; rw [if_neg hmm])
/-- boat i hears the p-th part of cast c -/
def mListen (i c p z s : Nat) (I : jHp) : jHp × Int32 := mHear i c (nI s) (hRows z p) (p * 3) 0 (jm_up (jm_up I 182 0 0) 185 (8 * i + s) (I 182 1))
theorem mC_hearX {x p b late : Int32} {I : jHp} (h : (b < 0 ∨ ¬ b < 8) ∨ mIsCast I x = 0) : jm_F (d + 2, 46, 0, jm_en 46 [.ref 182, .int x, .int p, .int b, .int late], [], false, jS L I G t) (.inl (some (.int 0))) (jS L (jm_up I 182 0 1) G t) := by
  repeat (first | refine jF_step rfl trivial ?_ | refine jF_step rfl rfl ?_)
  by_cases hb : b < 0 ∨ ¬ b < 8
  · refine jF_callE rfl ⟨Nat.le_of_ble_eq_true rfl, Nat.le_of_ble_eq_true rfl⟩ (mT_boatX hb) ?_
    repeat (first | refine jF_step rfl trivial ?_ | refine jF_step rfl rfl ?_ | refine jF_step rfl lo_mod ?_ | refine jF_step rfl ⟨lo_mod, Or.inl rfl⟩ ?_ | refine jF_step rfl ⟨lo_mod, Or.inr rfl⟩ ?_ | simp (disch := omega) only [jS, jm_sI, jm_aft, jm_en, jI, nc8, up_s, up_k, up_i, k8, k9, k32, k3, r16, nI_add, rm2, rm3, rm4, rm5, rm6, rm7, rm8, rm9, rm10, rm11, rm12, rm13, rm15, rm16, rm17, rm18, rm19, rm21, rm22, rm23, rm24, rm25, rm26, rm27, rm28, rm29])
    exact jF_ret rfl trivial
  · obtain ⟨i, hi, rfl⟩ := nb_of hb
    refine jF_callE rfl ⟨Nat.le_of_ble_eq_true rfl, Nat.le_of_ble_eq_true rfl⟩ (mT_boat hi) ?_
    repeat (first | refine jF_step rfl trivial ?_ | refine jF_step rfl rfl ?_)
    refine jF_callE rfl ⟨Nat.le_of_ble_eq_true rfl, lo_mod⟩ (mT_isPartX (h.elim (fun z => absurd z hb) id)) ?_
    repeat (first | refine jF_step rfl trivial ?_ | refine jF_step rfl rfl ?_ | refine jF_step rfl lo_mod ?_ | refine jF_step rfl ⟨lo_mod, Or.inl rfl⟩ ?_ | refine jF_step rfl ⟨lo_mod, Or.inr rfl⟩ ?_ | simp (disch := omega) only [jS, jm_sI, jm_aft, jm_en, jI, nc8, up_s, up_k, up_i, k8, k9, k32, k3, r16, nI_add, rm2, rm3, rm4, rm5, rm6, rm7, rm8, rm9, rm10, rm11, rm12, rm13, rm15, rm16, rm17, rm18, rm19, rm21, rm22, rm23, rm24, rm25, rm26, rm27, rm28, rm29])
    exact jF_ret rfl trivial
theorem mC_hearY {c i : Nat} {p late : Int32} {I : jHp} (hc : c < 2 ^ 30) (hi : i < 8) (h : ¬ mIsCast I (nI c) = 0) (h2 : mIsPart I c p = 0) : jm_F (d + 2, 46, 0, jm_en 46 [.ref 182, .int (nI c), .int p, .int (nI i), .int late], [], false, jS L I G t) (.inl (some (.int 0))) (jS L (jm_up I 182 0 1) G t) := by
  repeat (first | refine jF_step rfl trivial ?_ | refine jF_step rfl rfl ?_)
  refine jF_callE rfl ⟨Nat.le_of_ble_eq_true rfl, Nat.le_of_ble_eq_true rfl⟩ (mT_boat hi) ?_
  repeat (first | refine jF_step rfl trivial ?_ | refine jF_step rfl rfl ?_)
  refine jF_callE rfl ⟨Nat.le_of_ble_eq_true rfl, lo_mod⟩ (mT_isPart hc h) ?_
  rw [h2]
  repeat (first | refine jF_step rfl trivial ?_ | refine jF_step rfl rfl ?_ | refine jF_step rfl lo_mod ?_ | refine jF_step rfl ⟨lo_mod, Or.inl rfl⟩ ?_ | refine jF_step rfl ⟨lo_mod, Or.inr rfl⟩ ?_ | simp (disch := omega) only [jS, jm_sI, jm_aft, jm_en, jI, nc8, up_s, up_k, up_i, k8, k9, k32, k3, r16, nI_add, rm2, rm3, rm4, rm5, rm6, rm7, rm8, rm9, rm10, rm11, rm12, rm13, rm15, rm16, rm17, rm18, rm19, rm21, rm22, rm23, rm24, rm25, rm26, rm27, rm28, rm29])
  exact jF_ret rfl trivial
theorem mC_hearW {c i s : Nat} {p late : Int32} {I : jHp} (hc : c < 2 ^ 30) (hi : i < 8) (hs8 : s < 8) (h : ¬ mIsCast I (nI c) = 0) (h2 : ¬ mIsPart I c p = 0) (hs : I 195 (c % 16) = nI s) (hr : I 183 i = 0 ∨ s = i ∨ (late = 0 ∧ I 184 (8 * i + s) = 0)) : jm_F (d + 2, 46, 0, jm_en 46 [.ref 182, .int (nI c), .int p, .int (nI i), .int late], [], false, jS L I G t) (.inl (some (.int 0))) (jS L (jm_up (jm_up I 182 0 0) 182 0 2) G t) := by
  have hm : c % 16 < 16 := Nat.mod_lt _ (by decide)
  repeat (first | refine jF_step rfl trivial ?_ | refine jF_step rfl rfl ?_)
  refine jF_callE rfl ⟨Nat.le_of_ble_eq_true rfl, Nat.le_of_ble_eq_true rfl⟩ (mT_boat hi) ?_
  repeat (first | refine jF_step rfl trivial ?_ | refine jF_step rfl rfl ?_)
  refine jF_callE rfl ⟨Nat.le_of_ble_eq_true rfl, lo_mod⟩ (mT_isPart hc h) ?_
  repeat (first | refine jF_step rfl trivial ?_ | refine jF_step rfl rfl ?_)
  rw [if_neg h2]
  repeat (first | refine jF_step rfl trivial ?_ | refine jF_step rfl rfl ?_ | refine jF_step rfl lo_mod ?_ | refine jF_step rfl ⟨lo_mod, Or.inl rfl⟩ ?_ | refine jF_step rfl ⟨lo_mod, Or.inr rfl⟩ ?_ | simp (disch := omega) only [jS, jm_sI, jm_aft, jm_en, jI, nc8, up_s, up_k, up_i, k8, k9, k32, k3, r16, nI_add, rm2, rm3, rm4, rm5, rm6, rm7, rm8, rm9, rm10, rm11, rm12, rm13, rm15, rm16, rm17, rm18, rm19, rm21, rm22, rm23, rm24, rm25, rm26, rm27, rm28, rm29])
  repeat (first | refine jF_step rfl trivial ?_ | refine jF_step rfl rfl ?_ | refine jF_step rfl (show ¬ (16 : Int32) = 0 by decide) ?_)
  simp (disch := omega) only [jS, jm_sI, jm_aft, jm_en, jI, nc8, up_s, up_k, up_i, k8, k9, k32, k3, r16, nI_add, rm2, rm3, rm4, rm5, rm6, rm7, rm8, rm9, rm10, rm11, rm12, rm13, rm15, rm16, rm17, rm18, rm19, rm21, rm22, rm23, rm24, rm25, rm26, rm27, rm28, rm29]
  repeat (first | refine jF_step rfl trivial ?_ | refine jF_step rfl rfl ?_ | refine jF_step rfl lo_mod ?_ | refine jF_step rfl ⟨lo_mod, Or.inl rfl⟩ ?_ | refine jF_step rfl ⟨lo_mod, Or.inr rfl⟩ ?_ | refine jF_step rfl (mx15  hm) ?_ | refine jF_step rfl (mw15  hm) ?_ | refine jF_step rfl (mw2  hi) ?_ | refine jF_step rfl ⟨mw2  hi, Or.inl rfl⟩ ?_ | refine jF_step rfl ⟨mw2  hi, Or.inr rfl⟩ ?_ | simp (disch := omega) only [jS, jm_sI, jm_aft, jm_en, jI, nc8, up_s, up_k, up_i, k8, k9, k32, k3, r16, nI_add, rm2, rm3, rm4, rm5, rm6, rm7, rm8, rm9, rm10, rm11, rm12, rm13, rm15, rm16, rm17, rm18, rm19, rm21, rm22, rm23, rm24, rm25, rm26, rm27, rm28, rm29, hs])
  by_cases h1 : I 183 i = 0
  · rw [if_pos h1]
    repeat (first | refine jF_step rfl trivial ?_ | refine jF_step rfl rfl ?_ | refine jF_step rfl lo_mod ?_ | refine jF_step rfl ⟨lo_mod, Or.inl rfl⟩ ?_ | refine jF_step rfl ⟨lo_mod, Or.inr rfl⟩ ?_ | simp (disch := omega) only [jS, jm_sI, jm_aft, jm_en, jI, nc8, up_s, up_k, up_i, k8, k9, k32, k3, r16, nI_add, rm2, rm3, rm4, rm5, rm6, rm7, rm8, rm9, rm10, rm11, rm12, rm13, rm15, rm16, rm17, rm18, rm19, rm21, rm22, rm23, rm24, rm25, rm26, rm27, rm28, rm29])
    exact jF_ret rfl trivial
  rw [if_neg h1]
  repeat (first | refine jF_step rfl trivial ?_ | refine jF_step rfl rfl ?_)
  by_cases h3 : s = i
  · rw [if_pos (congrArg nI h3)]
    repeat (first | refine jF_step rfl trivial ?_ | refine jF_step rfl rfl ?_ | refine jF_step rfl lo_mod ?_ | refine jF_step rfl ⟨lo_mod, Or.inl rfl⟩ ?_ | refine jF_step rfl ⟨lo_mod, Or.inr rfl⟩ ?_ | simp (disch := omega) only [jS, jm_sI, jm_aft, jm_en, jI, nc8, up_s, up_k, up_i, k8, k9, k32, k3, r16, nI_add, rm2, rm3, rm4, rm5, rm6, rm7, rm8, rm9, rm10, rm11, rm12, rm13, rm15, rm16, rm17, rm18, rm19, rm21, rm22, rm23, rm24, rm25, rm26, rm27, rm28, rm29])
    exact jF_ret rfl trivial
  rw [if_neg (fun z => h3 ((nI_eq (by omega) (by omega)).mp z))]
  obtain ⟨h4, h5⟩ := hr.elim (fun z => absurd z h1) (fun z => z.elim (fun z => absurd z h3) id)
  repeat (first | refine jF_step rfl trivial ?_ | refine jF_step rfl rfl ?_)
  rw [if_pos h4]
  repeat (first | refine jF_step rfl trivial ?_ | refine jF_step rfl rfl ?_ | refine jF_step rfl lo_mod ?_ | refine jF_step rfl ⟨lo_mod, Or.inl rfl⟩ ?_ | refine jF_step rfl ⟨lo_mod, Or.inr rfl⟩ ?_ | refine jF_step rfl (mw3  (show 8 * i + s < 64 by omega)) ?_ | refine jF_step rfl ⟨mw3  (show 8 * i + s < 64 by omega), Or.inl rfl⟩ ?_ | refine jF_step rfl ⟨mw3  (show 8 * i + s < 64 by omega), Or.inr rfl⟩ ?_ | simp (disch := omega) only [jS, jm_sI, jm_aft, jm_en, jI, nc8, up_s, up_k, up_i, k8, k9, k32, k3, r16, nI_add, rm2, rm3, rm4, rm5, rm6, rm7, rm8, rm9, rm10, rm11, rm12, rm13, rm15, rm16, rm17, rm18, rm19, rm21, rm22, rm23, rm24, rm25, rm26, rm27, rm28, rm29])
  rw [if_pos h5]
  repeat (first | refine jF_step rfl trivial ?_ | refine jF_step rfl rfl ?_ | refine jF_step rfl lo_mod ?_ | refine jF_step rfl ⟨lo_mod, Or.inl rfl⟩ ?_ | refine jF_step rfl ⟨lo_mod, Or.inr rfl⟩ ?_ | simp (disch := omega) only [jS, jm_sI, jm_aft, jm_en, jI, nc8, up_s, up_k, up_i, k8, k9, k32, k3, r16, nI_add, rm2, rm3, rm4, rm5, rm6, rm7, rm8, rm9, rm10, rm11, rm12, rm13, rm15, rm16, rm17, rm18, rm19, rm21, rm22, rm23, rm24, rm25, rm26, rm27, rm28, rm29])
  exact jF_ret rfl trivial
theorem up2 {α : Type} {f : Nat → Nat → α} {r j : Nat} {x y : α} : jm_up (jm_up f r j x) r j y = jm_up f r j y := by
  funext k i
  unfold jm_up
  split
  · split
    · rfl
    · rfl
  · rfl
theorem mC_hear {c i s p z : Nat} {late : Int32} {I : jHp} (hc : c < 2 ^ 30) (hi : i < 8) (hs8 : s < 8) (hz : z ≤ 8) (hp : p * 3 ≤ z) (h : ¬ mIsCast I (nI c) = 0) (h2 : ¬ mIsPart I c (nI p) = 0) (hs : I 195 (c % 16) = nI s) (ez : I 196 (c % 16) = nI z) (hgs : ∀ k, k < z → ∃ g, g < 8 ∧ I 197 (8 * (c % 16) + k) = nI g) (h1 : ¬ I 183 i = 0) (h3 : s ≠ i) (h4 : ¬ late = 0 ∨ ¬ I 184 (8 * i + s) = 0) : jm_F (d + 2, 46, 0, jm_en 46 [.ref 182, .int (nI c), .int (nI p), .int (nI i), .int late], [], false, jS L I G t) (.inl (some (.int (mListen i (c % 16) p z s I).2))) (jS L (mListen i (c % 16) p z s I).1 G t) := by
  have hm : c % 16 < 16 := Nat.mod_lt _ (by decide)
  have k1 := fun w y8 y9 => mT_hear0 (L := L) (t := t) (d := d) (G := G) (s := s) (late := late) hi hc hz hp (hRows z p) (p * 3) 0 (jm_up (jm_up I 182 0 0) 185 (8 * i + s) (I 182 1)) w y8 y9 rfl (Nat.le_refl _) (by rw [up_k (by omega), up_k (by omega), ez]) (fun k hk => by
    obtain ⟨g, hg, eg⟩ := hgs k hk
    exact ⟨g, hg, by rw [up_k (by omega), up_k (by omega), eg]⟩)
  unfold mListen
  generalize mHear i (c % 16) (nI s) (hRows z p) (p * 3) 0 (jm_up (jm_up I 182 0 0) 185 (8 * i + s) (I 182 1)) = res at k1 ⊢
  rw [show p * 3 = 3 * p from Nat.mul_comm p 3] at k1
  have fin : ∀ w, jm_F (d + 2, 46, 98, [some (.ref 182), some (.int (nI c)), some (.int (nI p)), some (.int (nI i)), some (.int late), some (.int (nI s)), none, none, none, none], [], w, jS L (jm_up I 182 0 0) G t) (.inl (some (.int res.2))) (jS L res.1 G t) := by
    intro w
    repeat (first | refine jF_step rfl trivial ?_ | refine jF_step rfl rfl ?_ | refine jF_step rfl lo_mod ?_ | refine jF_step rfl ⟨lo_mod, Or.inl rfl⟩ ?_ | refine jF_step rfl ⟨lo_mod, Or.inr rfl⟩ ?_)
    simp (disch := omega) only [jS, jm_sI, jm_aft, jm_en, jI, nc8, up_s, up_k, up_i, k8, k9, k32, k3, r16, nI_add, rm2, rm3, rm4, rm5, rm6, rm7, rm8, rm9, rm10, rm11, rm12, rm13, rm15, rm16, rm17, rm18, rm19, rm21, rm22, rm23, rm24, rm25, rm26, rm27, rm28, rm29]
    iterate 1 (first | refine jF_step rfl trivial ?_ | refine jF_step rfl rfl ?_ | refine jF_step rfl (mx4  (show 8 * i + s < 64 by omega)) ?_ | refine jF_step rfl (mw4  (show 8 * i + s < 64 by omega)) ?_)
    simp (disch := omega) only [jS, jm_sI, jm_aft, jm_en, jI, nc8, up_s, up_k, up_i, k8, k9, k32, k3, r16, nI_add, rm2, rm3, rm4, rm5, rm6, rm7, rm8, rm9, rm10, rm11, rm12, rm13, rm15, rm16, rm17, rm18, rm19, rm21, rm22, rm23, rm24, rm25, rm26, rm27, rm28, rm29]
    iterate 6 (first | refine jF_step rfl trivial ?_ | refine jF_step rfl rfl ?_)
    simp (disch := omega) only [jS, jm_sI, jm_aft, jm_en, jI, nc8, up_s, up_k, up_i, k8, k9, k32, k3, r16, nI_add, rm2, rm3, rm4, rm5, rm6, rm7, rm8, rm9, rm10, rm11, rm12, rm13, rm15, rm16, rm17, rm18, rm19, rm21, rm22, rm23, rm24, rm25, rm26, rm27, rm28, rm29]
    exact k1 _ _ _
  repeat (first | refine jF_step rfl trivial ?_ | refine jF_step rfl rfl ?_)
  refine jF_callE rfl ⟨Nat.le_of_ble_eq_true rfl, Nat.le_of_ble_eq_true rfl⟩ (mT_boat hi) ?_
  repeat (first | refine jF_step rfl trivial ?_ | refine jF_step rfl rfl ?_)
  refine jF_callE rfl ⟨Nat.le_of_ble_eq_true rfl, lo_mod⟩ (mT_isPart hc h) ?_
  repeat (first | refine jF_step rfl trivial ?_ | refine jF_step rfl rfl ?_)
  rw [if_neg h2]
  repeat (first | refine jF_step rfl trivial ?_ | refine jF_step rfl rfl ?_ | refine jF_step rfl lo_mod ?_ | refine jF_step rfl ⟨lo_mod, Or.inl rfl⟩ ?_ | refine jF_step rfl ⟨lo_mod, Or.inr rfl⟩ ?_ | simp (disch := omega) only [jS, jm_sI, jm_aft, jm_en, jI, nc8, up_s, up_k, up_i, k8, k9, k32, k3, r16, nI_add, rm2, rm3, rm4, rm5, rm6, rm7, rm8, rm9, rm10, rm11, rm12, rm13, rm15, rm16, rm17, rm18, rm19, rm21, rm22, rm23, rm24, rm25, rm26, rm27, rm28, rm29])
  repeat (first | refine jF_step rfl trivial ?_ | refine jF_step rfl rfl ?_ | refine jF_step rfl (show ¬ (16 : Int32) = 0 by decide) ?_)
  simp (disch := omega) only [jS, jm_sI, jm_aft, jm_en, jI, nc8, up_s, up_k, up_i, k8, k9, k32, k3, r16, nI_add, rm2, rm3, rm4, rm5, rm6, rm7, rm8, rm9, rm10, rm11, rm12, rm13, rm15, rm16, rm17, rm18, rm19, rm21, rm22, rm23, rm24, rm25, rm26, rm27, rm28, rm29]
  repeat (first | refine jF_step rfl trivial ?_ | refine jF_step rfl rfl ?_ | refine jF_step rfl lo_mod ?_ | refine jF_step rfl ⟨lo_mod, Or.inl rfl⟩ ?_ | refine jF_step rfl ⟨lo_mod, Or.inr rfl⟩ ?_ | refine jF_step rfl (mx15  hm) ?_ | refine jF_step rfl (mw15  hm) ?_ | refine jF_step rfl (mw2  hi) ?_ | refine jF_step rfl ⟨mw2  hi, Or.inl rfl⟩ ?_ | refine jF_step rfl ⟨mw2  hi, Or.inr rfl⟩ ?_ | simp (disch := omega) only [jS, jm_sI, jm_aft, jm_en, jI, nc8, up_s, up_k, up_i, k8, k9, k32, k3, r16, nI_add, rm2, rm3, rm4, rm5, rm6, rm7, rm8, rm9, rm10, rm11, rm12, rm13, rm15, rm16, rm17, rm18, rm19, rm21, rm22, rm23, rm24, rm25, rm26, rm27, rm28, rm29, hs])
  rw [if_neg h1]
  repeat (first | refine jF_step rfl trivial ?_ | refine jF_step rfl rfl ?_)
  rw [if_neg (fun z => h3 ((nI_eq (by omega) (by omega)).mp z))]
  repeat (first | refine jF_step rfl trivial ?_ | refine jF_step rfl rfl ?_)
  by_cases h5 : late = 0
  · rw [if_pos h5]
    repeat (first | refine jF_step rfl trivial ?_ | refine jF_step rfl rfl ?_ | refine jF_step rfl lo_mod ?_ | refine jF_step rfl ⟨lo_mod, Or.inl rfl⟩ ?_ | refine jF_step rfl ⟨lo_mod, Or.inr rfl⟩ ?_ | refine jF_step rfl (mw3  (show 8 * i + s < 64 by omega)) ?_ | refine jF_step rfl ⟨mw3  (show 8 * i + s < 64 by omega), Or.inl rfl⟩ ?_ | refine jF_step rfl ⟨mw3  (show 8 * i + s < 64 by omega), Or.inr rfl⟩ ?_ | simp (disch := omega) only [jS, jm_sI, jm_aft, jm_en, jI, nc8, up_s, up_k, up_i, k8, k9, k32, k3, r16, nI_add, rm2, rm3, rm4, rm5, rm6, rm7, rm8, rm9, rm10, rm11, rm12, rm13, rm15, rm16, rm17, rm18, rm19, rm21, rm22, rm23, rm24, rm25, rm26, rm27, rm28, rm29])
    rw [if_neg (h4.elim (fun z => absurd h5 z) id)]
    iterate 5 (first | refine jF_step rfl trivial ?_ | refine jF_step rfl rfl ?_ | refine jF_step rfl lo_mod ?_ | refine jF_step rfl ⟨lo_mod, Or.inl rfl⟩ ?_ | refine jF_step rfl ⟨lo_mod, Or.inr rfl⟩ ?_)
    simp (disch := omega) only [jS, jm_sI, jm_aft, jm_en, jI, nc8, up_s, up_k, up_i, k8, k9, k32, k3, r16, nI_add, rm2, rm3, rm4, rm5, rm6, rm7, rm8, rm9, rm10, rm11, rm12, rm13, rm15, rm16, rm17, rm18, rm19, rm21, rm22, rm23, rm24, rm25, rm26, rm27, rm28, rm29, up2]
    exact fin _
  · rw [if_neg h5]
    iterate 5 (first | refine jF_step rfl trivial ?_ | refine jF_step rfl rfl ?_ | refine jF_step rfl lo_mod ?_ | refine jF_step rfl ⟨lo_mod, Or.inl rfl⟩ ?_ | refine jF_step rfl ⟨lo_mod, Or.inr rfl⟩ ?_)
    simp (disch := omega) only [jS, jm_sI, jm_aft, jm_en, jI, nc8, up_s, up_k, up_i, k8, k9, k32, k3, r16, nI_add, rm2, rm3, rm4, rm5, rm6, rm7, rm8, rm9, rm10, rm11, rm12, rm13, rm15, rm16, rm17, rm18, rm19, rm21, rm22, rm23, rm24, rm25, rm26, rm27, rm28, rm29, up2]
    exact fin _
end
