/-! runs of the small machine: what a boat hears -/
theorem eShow_r {q r j : Nat} {I : jHp} (h : r ≠ q) : eShow q I r j = I r j := by
  unfold eShow; rw [up_k h, up_k h, up_k h, up_k h]
theorem eRenew_r {q r j : Nat} {I : jHp} (h : r ≠ q) : eRenew q I r j = I r j := by
  unfold eRenew; rw [eShow_r h, up_k h]
theorem eLose_r {q r j : Nat} {I : jHp} (h : r ≠ q) : eLose q I r j = I r j := by
  unfold eLose; rw [eShow_r h, up_k h, up_k h, up_k h]
theorem eSettle_r {q r j : Nat} {now : Int32} {I : jHp} (h : r ≠ q) : eSettle q now I r j = I r j := by
  unfold eSettle; split
  · rfl
  · split
    · rfl
    · exact eShow_r h
theorem eT3_r {q r j : Nat} {I : jHp} (h : r ≠ q) : eT3 q I r j = I r j := by
  unfold eT3; split
  · exact up_k h
  · exact eShow_r h
theorem eT2_r {q r j : Nat} {n m k : Int32} {I : jHp} (h : r ≠ q) : eT2 q n m k I r j = I r j := by
  unfold eT2; rw [eT3_r h, up_k h, up_k h, up_k h]
theorem eTake_r {q r j : Nat} {n m k now : Int32} {I : jHp} (h : r ≠ q) : eTake q n m k now I r j = I r j := by
  unfold eTake; rw [eT2_r h]; split
  · exact up_k h
  · split
    · rfl
    · exact up_k h
def hG (I : jHp) (c k : Nat) : Nat := (I (103 + 4 * c) k).toNatClampNeg
def hM (I : jHp) (c k : Nat) : Int32 := if I (105 + 4 * c) k = -1 then -1 else I (105 + 4 * c) k + 1
/-- does boat i take the k-th row of cast c? -/
abbrev hDoes (I : jHp) (i c k : Nat) : Prop := ¬ I (103 + 4 * c) k = nI i ∧ ¬ eBet I (10 + 12 * i + hG I c k) (I (104 + 4 * c) k) (hM I c k) = 0
def nHear (i c : Nat) (s now : Int32) : Nat → Nat → Int32 → jHp → jHp × Int32
  | 0, _, x, I => (I, x)
  | r + 1, k, x, I => if hDoes I i c k then nHear i c s now r (k + 1) (x + 1) (eTake (10 + 12 * i + hG I c k) (I (104 + 4 * c) k) (hM I c k) s now I) else nHear i c s now r (k + 1) x I
section
variable {L t d : Nat} {G : Nat → Nat → Int64}
theorem n_ge {a b : Nat} (h : a < b) (hb : b < 1000) : ¬ nI b ≤ nI a := fun z => absurd (nI_lt h (by omega)) (Int32.not_lt.mpr z)
theorem n_ge' {a b : Nat} (h : a ≤ b) (hb : b < 1000) : nI a ≤ nI b := nI_le h (by omega)
theorem tB_hear1 {i c g k e : Nat} {xs p now st nu mm : Int32} {s : Int32} {w : Bool} {I : jHp} {out : Option Value ⊕ Nat} {σ : jm_S} (hi : i < 8) (hc : c < 16) (hg : g < 8) (hk : k < 8) (es : I (6 + 12 * i) 0 = nI i) (eg : I (103 + 4 * c) k = nI g) (hs : I (102 + 4 * c) 3 = s)
    (h1 : ∀ w y, (I (103 + 4 * c) k = nI i ∨ eBet I (10 + 12 * i + g) nu mm = 0) → jm_F (d + 2, 65, 131, [some (.ref (6 + 12 * i)), some (.ref (102 + 4 * c)), some (.int p), some (.int now), some (.int xs), some (.int st), some (.int (nI e)), some (.int (nI k)), some (.ref (10 + 12 * i + g)), some (.int nu), y], [], w, jS L I G t) out σ)
    (h2 : ∀ w y, (¬ I (103 + 4 * c) k = nI i ∧ ¬ eBet I (10 + 12 * i + g) nu mm = 0) → jm_F (d + 2, 65, 128, [some (.ref (6 + 12 * i)), some (.ref (102 + 4 * c)), some (.int p), some (.int now), some (.int xs), some (.int st), some (.int (nI e)), some (.int (nI k)), some (.ref (10 + 12 * i + g)), some (.int nu), y], [], w, jS L (eTake (10 + 12 * i + g) nu mm s now I) G t) out σ) :
    jm_F (d + 2, 65, 88, [some (.ref (6 + 12 * i)), some (.ref (102 + 4 * c)), some (.int p), some (.int now), some (.int xs), some (.int st), some (.int (nI e)), some (.int (nI k)), some (.ref (10 + 12 * i + g)), some (.int nu), some (.int mm)], [], w, jS L I G t) out σ := by
  repeat (first | refine jF_step rfl trivial ?_ | refine jF_step rfl rfl ?_ | refine jF_step rfl (lo_cast hc) ?_ | refine jF_step rfl (ne4 hc hk (s := 0) (by omega)) ?_)
  simp only [jS, lr_cast hc (show 0 < 3 by omega), nc8 (show k < 1000 by omega), show 103 + 0 + 4 * c = 103 + 4 * c by omega]
  repeat (first | refine jF_step rfl trivial ?_ | refine jF_step rfl rfl ?_ | refine jF_step rfl (lo_boat hi) ?_)
  simp only [es]
  by_cases h : I (103 + 4 * c) k = nI i
  · rw [if_pos h]
    exact h1 _ _ (Or.inl h)
  · rw [if_neg h]
    repeat (first | refine jF_step rfl trivial ?_ | refine jF_step rfl rfl ?_)
    refine jF_callE rfl ⟨Nat.le_of_ble_eq_true rfl, lo_ent hi hg⟩ (tE_bet (lo_ent hi hg)) ?_
    repeat (first | refine jF_step rfl trivial ?_ | refine jF_step rfl rfl ?_)
    by_cases hb : eBet I (10 + 12 * i + g) nu mm = 0
    · rw [if_pos hb]
      exact h1 _ _ (Or.inr hb)
    · rw [if_neg hb]
      repeat (first | refine jF_step rfl trivial ?_ | refine jF_step rfl rfl ?_ | refine jF_step rfl (lo_cast hc) ?_)
      simp only [jm_aft, hs]
      refine jF_call rfl ⟨Nat.le_of_ble_eq_true rfl, lo_ent hi hg⟩ (tE_take (lo_ent hi hg)) (fun w => ?_)
      exact h2 _ _ ⟨h, hb⟩
theorem tB_hear0 {i c e : Nat} {p now st s : Int32} (hi : i < 8) (hc : c < 16) (he : e ≤ 8) : ∀ r k (xs : Int32) (I : jHp) (w : Bool) (y8 y9 y10 : Option Value), k + r = e → I (6 + 12 * i) 0 = nI i → I (102 + 4 * c) 3 = s → (∀ k, k < e → ∃ g, g < 8 ∧ I (103 + 4 * c) k = nI g) → jm_F (d + 2, 65, 32, [some (.ref (6 + 12 * i)), some (.ref (102 + 4 * c)), some (.int p), some (.int now), some (.int xs), some (.int st), some (.int (nI e)), some (.int (nI k)), y8, y9, y10], [], w, jS L I G t) (.inl (some (.int (nHear i c s now r k xs I).2))) (jS L (nHear i c s now r k xs I).1 G t) := by
  intro r
  induction r with
  | zero =>
    intro k xs I w y8 y9 y10 hk es hs hgs
    have : k = e := by omega
    subst this
    repeat (first | refine jF_step rfl trivial ?_ | refine jF_step rfl rfl ?_)
    rw [if_pos (n_ge' (Nat.le_refl k) (by omega))]
    repeat (first | refine jF_step rfl trivial ?_ | refine jF_step rfl rfl ?_)
    exact jF_ret rfl trivial
  | succ r ih =>
    intro k xs I w y8 y9 y10 hk es hs hgs
    obtain ⟨g, hg, eg⟩ := hgs k (by omega)
    have eg' : hG I c k = g := by unfold hG; rw [eg, nc8 (by omega)]
    have hk8 : k < 8 := by omega
    have k1 := fun w y8 y9 y10 => ih (k + 1) xs I w y8 y9 y10 (by omega) es hs hgs
    have k2 := fun w y8 y9 y10 => ih (k + 1) (xs + 1) (eTake (10 + 12 * i + g) (I (104 + 4 * c) k) (hM I c k) s now I) w y8 y9 y10 (by omega) (by rw [eTake_r (by omega), es]) (by rw [eTake_r (by omega), hs]) (fun k hk => by
      obtain ⟨g, hg, eg⟩ := hgs k hk
      exact ⟨g, hg, by rw [eTake_r (by omega), eg]⟩)
    simp only [← nI_1 (a := k)] at k1 k2
    have hrow : ∀ w, jm_F (d + 2, 65, 88, [some (.ref (6 + 12 * i)), some (.ref (102 + 4 * c)), some (.int p), some (.int now), some (.int xs), some (.int st), some (.int (nI e)), some (.int (nI k)), some (.ref (10 + 12 * i + g)), some (.int (I (104 + 4 * c) k)), some (.int (hM I c k))], [], w, jS L I G t) (.inl (some (.int (nHear i c s now (r + 1) k xs I).2))) (jS L (nHear i c s now (r + 1) k xs I).1 G t) := by
      intro w
      refine tB_hear1 hi hc hg hk8 es eg hs (fun w y z => ?_) (fun w y z => ?_)
      · rw [nHear, if_neg (show ¬ hDoes I i c k from fun q => z.elim q.1 (by rw [← eg']; exact q.2))]
        repeat (first | exact k1 _ _ _ _ | refine jF_step rfl trivial ?_ | refine jF_step rfl rfl ?_)
      · rw [nHear, if_pos (show hDoes I i c k from ⟨z.1, by rw [eg']; exact z.2⟩), eg']
        repeat (first | exact k2 _ _ _ _ | refine jF_step rfl trivial ?_ | refine jF_step rfl rfl ?_)
    generalize nHear i c s now (r + 1) k xs I = res at hrow ⊢
    repeat (first | refine jF_step rfl trivial ?_ | refine jF_step rfl rfl ?_)
    rw [if_neg (n_ge (by omega) (by omega))]
    repeat (first | refine jF_step rfl trivial ?_ | refine jF_step rfl rfl ?_ | refine jF_step rfl (lo_boat hi) ?_ | refine jF_step rfl (lo_cast hc) ?_ | refine jF_step rfl (ne4 hc hk8 (s := 0) (by omega)) ?_)
    simp only [jS, lr_cast hc (show 0 < 3 by omega), nc8 (show k < 1000 by omega), show 103 + 0 + 4 * c = 103 + 4 * c by omega, eg]
    repeat (first | refine jF_step rfl trivial ?_ | refine jF_step rfl rfl ?_ | refine jF_step rfl (la_ents' hi hg) ?_)
    simp only [lre hi hg]
    repeat (first | refine jF_step rfl trivial ?_ | refine jF_step rfl rfl ?_ | refine jF_step rfl (lo_cast hc) ?_ | refine jF_step rfl (ne4 hc hk8 (s := 1) (by omega)) ?_ | refine jF_step rfl (ne4 hc hk8 (s := 2) (by omega)) ?_)
    simp only [jS, lr_cast hc (show 1 < 3 by omega), lr_cast hc (show 2 < 3 by omega), nc8 (show k < 1000 by omega), show 103 + 1 + 4 * c = 104 + 4 * c by omega, show 103 + 2 + 4 * c = 105 + 4 * c by omega]
    by_cases hm : I (105 + 4 * c) k = -1
    · rw [if_pos hm]
      have e1 : hM I c k = -1 := by unfold hM; rw [if_pos hm]
      rw [e1] at hrow
      repeat (first | exact hrow _ | refine jF_step rfl trivial ?_ | refine jF_step rfl rfl ?_)
    · rw [if_neg hm]
      have e1 : hM I c k = I (jR (102 + 4 * c) 2) (nI k).toNatClampNeg + 1 := by
        rw [lr_cast hc (show 2 < 3 by omega), nc8 (show k < 1000 by omega), show 103 + 2 + 4 * c = 105 + 4 * c by omega]
        unfold hM; rw [if_neg hm]
      rw [e1] at hrow
      repeat (first | exact hrow _ | refine jF_step rfl trivial ?_ | refine jF_step rfl rfl ?_ | refine jF_step rfl (lo_cast hc) ?_ | refine jF_step rfl (ne4 hc hk8 (s := 2) (by omega)) ?_)
theorem n_mul3 (p : Nat) : nI p * 3 = nI (p * 3) := by
  show nI p * nI 3 = nI (p * 3)
  exact pk_mul p 3
/-- how many rows the p-th part of z has -/
def hRows (z p : Nat) : Nat := min 3 (z - p * 3)
theorem cSize_n {I : jHp} {q z p : Nat} (hz : z ≤ 8) (hp : p * 3 ≤ z) (e : I q 4 = nI z) : cSize I q (nI p) = nI (hRows z p) := by
  unfold cSize hRows
  rw [e, n_mul3, pk_sub hp]
  unfold mMin
  rcases Nat.lt_or_ge (z - p * 3) 3 with h | h
  · rw [if_pos (show nI (z - p * 3) < 3 from nI_lt (b := 3) h (by decide)), Nat.min_eq_right (by omega)]
  · rw [if_neg (show ¬ nI (z - p * 3) < 3 from fun y => absurd (n_ge' (a := 3) h (by omega)) (Int32.not_le.mpr y)), Nat.min_eq_left (by omega)]
    rfl
/-- boat i listens to the p-th part of cast c, which has z rows -/
def nListen (i c p z : Nat) (s now : Int32) (I : jHp) : jHp × Int32 := nHear i c s now (hRows z p) (p * 3) 0 (jm_up I (8 + 12 * i) s.toNatClampNeg now)
theorem tB_listen {i c p z s : Nat} {now : Int32} {I : jHp} (hi : i < 8) (hc : c < 16) (hs8 : s < 8) (hz : z ≤ 8) (hp : p * 3 ≤ z) (es : I (6 + 12 * i) 0 = nI i) (hs : I (102 + 4 * c) 3 = nI s) (ez : I (102 + 4 * c) 4 = nI z) (hgs : ∀ k, k < z → ∃ g, g < 8 ∧ I (103 + 4 * c) k = nI g) : jm_F (d + 2, 65, 0, jm_en 65 [.ref (6 + 12 * i), .ref (102 + 4 * c), .int (nI p), .int now], [], false, jS L I G t) (.inl (some (.int (nListen i c p z (nI s) now I).2))) (jS L (nListen i c p z (nI s) now I).1 G t) := by
  have hr : hRows z p ≤ z - p * 3 := Nat.min_le_right _ _
  have k1 := fun w y8 y9 y10 => tB_hear0 (L := L) (t := t) (d := d) (G := G) (p := nI p) (now := now) (st := nI (p * 3)) (s := nI s) (e := p * 3 + hRows z p) hi hc (by omega) (hRows z p) (p * 3) 0 (jm_up I (8 + 12 * i) (nI s).toNatClampNeg now) w y8 y9 y10 rfl (by rw [up_k (by omega), es]) (by rw [up_k (by omega), hs]) (fun k hk => by
    obtain ⟨g, hg, eg⟩ := hgs k (by omega)
    exact ⟨g, hg, by rw [up_k (by omega), eg]⟩)
  unfold nListen
  generalize nHear i c (nI s) now (hRows z p) (p * 3) 0 (jm_up I (8 + 12 * i) (nI s).toNatClampNeg now) = res at k1 ⊢
  repeat (first | refine jF_step rfl trivial ?_ | refine jF_step rfl rfl ?_ | refine jF_step rfl (lo_boat hi) ?_ | refine jF_step rfl (lo_cast hc) ?_)
  simp only [jS, hs]
  have hw : jm_iw (jS L I G t) (jR (6 + 12 * i) 2) 10 (nI s) := by
    rw [lrh hi]; exact lw (lk_heard hi) (by omega) (by omega) (vp_in_nI hs8 (by decide))
  repeat (first | refine jF_step rfl trivial ?_ | refine jF_step rfl rfl ?_ | refine jF_step rfl hw ?_ | refine jF_step rfl ⟨hw, Or.inl rfl⟩ ?_ | refine jF_step rfl ⟨hw, Or.inr rfl⟩ ?_)
  simp only [jm_sI, lrh hi, n_mul3]
  refine jF_callE rfl ⟨Nat.le_of_ble_eq_true rfl, lo_cast hc⟩ (tC_size (lo_cast hc)) ?_
  have e5 : cSize (jm_up I (8 + 12 * i) (nI s).toNatClampNeg now) (102 + 4 * c) (nI p) = nI (hRows z p) := cSize_n hz hp (by rw [up_k (by omega), ez])
  simp only [jm_aft, jI, e5]
  iterate 3 (first | refine jF_step rfl trivial ?_ | refine jF_step rfl rfl ?_)
  simp only [nI_add]
  repeat (first | exact k1 _ _ _ _ | refine jF_step rfl trivial ?_ | refine jF_step rfl rfl ?_)
theorem cN_hear {c p i s z : Nat} {late : Int32} {I : jHp} (hc : c < 2 ^ 30) (h1 : ¬ nI c < 0) (h2 : ¬ I 2 3 ≤ nI c) (h3 : I 2 3 - 16 ≤ nI c) (h4 : ¬ nI p < 0) (h5 : nI p < cParts I (102 + 4 * (c % 16))) (hi : i < 8) (ho : ¬ I (6 + 12 * i) 6 = 0) (hs8 : s < 8) (hne : s ≠ i) (hz : z ≤ 8) (hp : p * 3 ≤ z) (es : I (6 + 12 * i) 0 = nI i) (hs : I (102 + 4 * (c % 16)) 3 = nI s) (ez : I (102 + 4 * (c % 16)) 4 = nI z) (hgs : ∀ k, k < z → ∃ g, g < 8 ∧ I (103 + 4 * (c % 16)) k = nI g) (hl : ¬ late = 0 ∨ ¬ bLinked I (6 + 12 * i) (nI s) = 0) : jm_F (d + 3, 7, 0, jm_en 7 [.ref 2, .int (nI c), .int (nI p), .int (nI i), .int late], [], false, jS L I G t) (.inl (some (.int (nListen i (c % 16) p z (nI s) (I 2 5) I).2))) (jS L (nListen i (c % 16) p z (nI s) (I 2 5) I).1 G t) := by
  have hm : c % 16 < 16 := Nat.mod_lt _ (by decide)
  have k1 := tB_listen (L := L) (t := t) (d := d) (G := G) (now := I 2 5) hi hm hs8 hz hp es hs ez hgs
  generalize nListen i (c % 16) p z (nI s) (I 2 5) I = res at k1 ⊢
  repeat (first | refine jF_step rfl trivial ?_ | refine jF_step rfl rfl ?_)
  refine jF_callE rfl ⟨Nat.le_of_ble_eq_true rfl, lo_net⟩ (tN_needPart hc h1 h2 h3 h4 h5) ?_
  repeat (first | refine jF_step rfl trivial ?_ | refine jF_step rfl rfl ?_)
  refine jF_callE rfl ⟨Nat.le_of_ble_eq_true rfl, Nat.le_of_ble_eq_true rfl⟩ (tN_boat hi) ?_
  repeat (first | refine jF_step rfl trivial ?_ | refine jF_step rfl rfl ?_)
  refine jF_callE rfl ⟨Nat.le_of_ble_eq_true rfl, lo_net⟩ (tN_on hi ho) ?_
  repeat (first | refine jF_step rfl trivial ?_ | refine jF_step rfl rfl ?_)
  refine jF_callE rfl ⟨Nat.le_of_ble_eq_true rfl, lo_net⟩ (tN_kept hc) ?_
  repeat (first | refine jF_step rfl trivial ?_ | refine jF_step rfl rfl ?_ | refine jF_step rfl (lo_cast hm) ?_)
  simp only [jS, jm_aft, jm_en, hs]
  rw [if_neg (fun z => hne ((nI_eq (by omega) (by omega)).mp z))]
  repeat (first | refine jF_step rfl trivial ?_ | refine jF_step rfl rfl ?_)
  have fin : ∀ w, jm_F (d + 3, 7, 73, [some (.ref 2), some (.int (nI c)), some (.int (nI p)), some (.int (nI i)), some (.int late), some (.ref (102 + 4 * (c % 16)))], [], w, jS L I G t) (.inl (some (.int res.2))) (jS L res.1 G t) := by
    intro w
    repeat (first | refine jF_step rfl trivial ?_ | refine jF_step rfl rfl ?_ | refine jF_step rfl lo_net ?_ | refine jF_step rfl ⟨lo_net, Or.inl rfl⟩ ?_ | refine jF_step rfl ⟨lo_net, Or.inr rfl⟩ ?_ | refine jF_step rfl (la_boats hi) ?_)
    simp only [jS, lrb hi]
    repeat (first | refine jF_step rfl trivial ?_ | refine jF_step rfl rfl ?_ | refine jF_step rfl lo_net ?_ | refine jF_step rfl ⟨lo_net, Or.inl rfl⟩ ?_ | refine jF_step rfl ⟨lo_net, Or.inr rfl⟩ ?_)
    refine jF_call rfl ⟨Nat.le_of_ble_eq_true rfl, lo_boat hi⟩ k1 (fun w => ?_)
    exact jF_ret rfl trivial
  by_cases hl0 : late = 0
  · rw [if_pos hl0]
    repeat (first | refine jF_step rfl trivial ?_ | refine jF_step rfl rfl ?_ | refine jF_step rfl lo_net ?_ | refine jF_step rfl ⟨lo_net, Or.inl rfl⟩ ?_ | refine jF_step rfl ⟨lo_net, Or.inr rfl⟩ ?_ | refine jF_step rfl (la_boats hi) ?_)
    simp only [jS, lrb hi]
    repeat (first | refine jF_step rfl trivial ?_ | refine jF_step rfl rfl ?_ | refine jF_step rfl (lo_cast hm) ?_)
    simp only [hs]
    refine jF_callE rfl ⟨Nat.le_of_ble_eq_true rfl, lo_boat hi⟩ (tB_linked (lo_boat hi)) ?_
    repeat (first | refine jF_step rfl trivial ?_ | refine jF_step rfl rfl ?_)
    rw [if_neg (show ¬ bLinked I (6 + 12 * i) (nI s) = 0 from hl.elim (fun z => absurd hl0 z) id)]
    exact fin _
  · rw [if_neg hl0]
    exact fin _
theorem cN_hearX {c : Nat} {p b late : Int32} {I : jHp} (hc : c < 2 ^ 30) (h1 : ¬ nI c < 0) (h2 : ¬ I 2 3 ≤ nI c) (h3 : I 2 3 - 16 ≤ nI c) (h4 : p < 0 ∨ ¬ p < cParts I (102 + 4 * (c % 16))) (hd : 6 ≤ d) : jm_F (d + 3, 7, 0, jm_en 7 [.ref 2, .int (nI c), .int p, .int b, .int late], [], false, jS L I G t) (.inr 0) (jS L I G (t + 1)) := by
  repeat (first | refine jF_step rfl trivial ?_ | refine jF_step rfl rfl ?_)
  exact jF_thr rfl ⟨Nat.le_of_ble_eq_true rfl, lo_net⟩ (tN_needPartX hc h1 h2 h3 h4 hd).F rfl rfl rfl
theorem cN_hearY {x p b late : Int32} {I : jHp} (h : x < 0 ∨ I 2 3 ≤ x ∨ ¬ I 2 3 - 16 ≤ x) (hd : 6 ≤ d) : jm_F (d + 2, 7, 0, jm_en 7 [.ref 2, .int x, .int p, .int b, .int late], [], false, jS L I G t) (.inr 0) (jS L I G (t + 1)) := by
  repeat (first | refine jF_step rfl trivial ?_ | refine jF_step rfl rfl ?_)
  exact jF_thr rfl ⟨Nat.le_of_ble_eq_true rfl, lo_net⟩ (tN_needPartY h hd).F rfl rfl rfl
theorem cN_hearZ {c : Nat} {p b late : Int32} {I : jHp} (hc : c < 2 ^ 30) (h1 : ¬ nI c < 0) (h2 : ¬ I 2 3 ≤ nI c) (h3 : I 2 3 - 16 ≤ nI c) (h4 : ¬ p < 0) (h5 : p < cParts I (102 + 4 * (c % 16))) (hb : b < 0 ∨ ¬ b < 8) (hd : 6 ≤ d) : jm_F (d + 3, 7, 0, jm_en 7 [.ref 2, .int (nI c), .int p, .int b, .int late], [], false, jS L I G t) (.inr 0) (jS L I G (t + 1)) := by
  repeat (first | refine jF_step rfl trivial ?_ | refine jF_step rfl rfl ?_)
  refine jF_callE rfl ⟨Nat.le_of_ble_eq_true rfl, lo_net⟩ (tN_needPart hc h1 h2 h3 h4 h5) ?_
  repeat (first | refine jF_step rfl trivial ?_ | refine jF_step rfl rfl ?_)
  exact jF_thr rfl ⟨Nat.le_of_ble_eq_true rfl, Nat.le_of_ble_eq_true rfl⟩ (tN_boatX hb (by omega)).F rfl rfl rfl
theorem cN_hearW {c i s : Nat} {p late : Int32} {I : jHp} (hc : c < 2 ^ 30) (h1 : ¬ nI c < 0) (h2 : ¬ I 2 3 ≤ nI c) (h3 : I 2 3 - 16 ≤ nI c) (h4 : ¬ p < 0) (h5 : p < cParts I (102 + 4 * (c % 16))) (hi : i < 8) (hs8 : s < 8) (hs : I (102 + 4 * (c % 16)) 3 = nI s) (h : I (6 + 12 * i) 6 = 0 ∨ s = i ∨ (late = 0 ∧ bLinked I (6 + 12 * i) (nI s) = 0)) (hd : 6 ≤ d) : jm_F (d + 3, 7, 0, jm_en 7 [.ref 2, .int (nI c), .int p, .int (nI i), .int late], [], false, jS L I G t) (.inr 1) (jS L I G (t + 1)) := by
  have hm : c % 16 < 16 := Nat.mod_lt _ (by decide)
  repeat (first | refine jF_step rfl trivial ?_ | refine jF_step rfl rfl ?_)
  refine jF_callE rfl ⟨Nat.le_of_ble_eq_true rfl, lo_net⟩ (tN_needPart hc h1 h2 h3 h4 h5) ?_
  repeat (first | refine jF_step rfl trivial ?_ | refine jF_step rfl rfl ?_)
  refine jF_callE rfl ⟨Nat.le_of_ble_eq_true rfl, Nat.le_of_ble_eq_true rfl⟩ (tN_boat hi) ?_
  repeat (first | refine jF_step rfl trivial ?_ | refine jF_step rfl rfl ?_)
  by_cases ho : I (6 + 12 * i) 6 = 0
  · exact jF_thr rfl ⟨Nat.le_of_ble_eq_true rfl, lo_net⟩ (tN_onX hi ho (by omega)).F rfl rfl rfl
  refine jF_callE rfl ⟨Nat.le_of_ble_eq_true rfl, lo_net⟩ (tN_on hi ho) ?_
  repeat (first | refine jF_step rfl trivial ?_ | refine jF_step rfl rfl ?_)
  refine jF_callE rfl ⟨Nat.le_of_ble_eq_true rfl, lo_net⟩ (tN_kept hc) ?_
  repeat (first | refine jF_step rfl trivial ?_ | refine jF_step rfl rfl ?_ | refine jF_step rfl (lo_cast hm) ?_)
  simp only [jS, jm_aft, jm_en, hs]
  by_cases hne : s = i
  · rw [if_pos (congrArg nI hne)]
    exact jF_ret rfl ⟨rfl, by omega⟩
  rw [if_neg (fun z => hne ((nI_eq (by omega) (by omega)).mp z))]
  obtain ⟨hl0, hl⟩ := h.elim (fun z => absurd z ho) (fun z => z.elim (fun z => absurd z hne) id)
  repeat (first | refine jF_step rfl trivial ?_ | refine jF_step rfl rfl ?_)
  rw [if_pos hl0]
  repeat (first | refine jF_step rfl trivial ?_ | refine jF_step rfl rfl ?_ | refine jF_step rfl lo_net ?_ | refine jF_step rfl ⟨lo_net, Or.inl rfl⟩ ?_ | refine jF_step rfl ⟨lo_net, Or.inr rfl⟩ ?_ | refine jF_step rfl (la_boats hi) ?_)
  simp only [jS, lrb hi]
  repeat (first | refine jF_step rfl trivial ?_ | refine jF_step rfl rfl ?_ | refine jF_step rfl (lo_cast hm) ?_)
  simp only [hs]
  refine jF_callE rfl ⟨Nat.le_of_ble_eq_true rfl, lo_boat hi⟩ (tB_linked (lo_boat hi)) ?_
  repeat (first | refine jF_step rfl trivial ?_ | refine jF_step rfl rfl ?_)
  rw [if_pos (show bLinked I (6 + 12 * i) (nI s) = 0 from hl)]
  exact jF_ret rfl ⟨rfl, by omega⟩
end
