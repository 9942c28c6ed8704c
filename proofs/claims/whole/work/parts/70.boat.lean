/-! runs of the small machine: a boat is made -/
theorem eStart_v {I : jHp} {q : Nat} {k : Int32} : ∀ r j, eStart q k I r j = if r = q then (if j = 2 then k else if j = 8 then 1 else if j < 5 ∨ j = 7 then 0 else I q j) else I r j := by
  intro r j
  unfold eStart
  by_cases e : r = q
  · subst e
    rw [if_pos rfl]
    obtain ⟨e0, e1, e2, e3, e4, e7, e8⟩ := eSh_v (A := jm_up (jm_up (jm_up I r 0 0) r 1 0) r 2 k) (q := r)
    by_cases h2 : j = 2
    · subst h2; rw [if_pos rfl, e2, up_s]
    rw [if_neg h2]
    by_cases h8 : j = 8
    · subst h8; rw [if_pos rfl, e8]
    rw [if_neg h8]
    by_cases h0 : j = 0
    · subst h0; rw [if_pos (by omega), e0, up_i (by omega), up_i (by omega), up_s]
    by_cases h1 : j = 1
    · subst h1; rw [if_pos (by omega), e1, up_i (by omega), up_s]
    by_cases h3 : j = 3
    · subst h3; rw [if_pos (by omega), e3, up_i (by omega), up_i (by omega), up_s]
    by_cases h4 : j = 4
    · subst h4; rw [if_pos (by omega), e4, up_i (by omega), up_s]
    by_cases h7 : j = 7
    · subst h7; rw [if_pos (by omega), e7]
    rw [if_neg (by omega)]
    unfold eShow
    rw [up_i h8, up_i h7, up_i h4, up_i h3, up_i h2, up_i h1, up_i h0]
  · rw [if_neg e, eShow_r e, up_k e, up_k e, up_k e]
section
variable {L d : Nat}
theorem tB_loop {i : Nat} (hi : i < 8) : ∀ r g (R : Nat → Nat → Nat) (I : jHp) (s : Nat), g + r = 8 → (∀ r' j, 10 + 12 * i + g ≤ r' → R r' j = 0) → (∀ r' j, 10 + 12 * i + g ≤ r' → I r' j = 0) → R (6 + 12 * i) 1 = 7 + 12 * i → R (6 + 12 * i) 2 = 8 + 12 * i →
    ∃ (R' : Nat → Nat → Nat) (I' : jHp), (∀ r' j, R' r' j = if r' = 7 + 12 * i ∧ g ≤ j ∧ j < 8 then 10 + 12 * i + j else R r' j) ∧ (∀ r' j, I' r' j = if r' = 8 + 12 * i ∧ g ≤ j ∧ j < 8 then -1 else if 10 + 12 * i + g ≤ r' ∧ r' < 18 + 12 * i then (if j < 5 then -1 else 0) else I r' j) ∧
      ∀ w out σ, (∀ w', jm_F (d + 2, 60, 83, [some (.ref (6 + 12 * i)), some (.int (nI i)), some (.int (nI 8))], [], w', jC L (16 + 12 * i) R' I' (s + 9 * r)) out σ) → jm_F (d + 2, 60, 51, [some (.ref (6 + 12 * i)), some (.int (nI i)), some (.int (nI g))], [], w, jC L (8 + 12 * i + g) R I s) out σ := by
  intro r
  induction r with
  | zero =>
    intro g R I s hg hR hI h1 h2
    have e : g = 8 := by omega
    subst e
    refine ⟨R, I, fun r' j => by rw [if_neg (by omega)], fun r' j => by rw [if_neg (by omega), if_neg (by omega)], fun w out σ fin => ?_⟩
    iterate 3 (first | refine jF_step rfl trivial ?_ | refine jF_step rfl rfl ?_)
    rw [if_pos (show (8 : Int32) ≤ nI 8 from n_ge' (a := 8) (by omega) (by omega))]
    refine jF_to ?_ (fin w)
    rw [show 8 + 12 * i + 8 = 16 + 12 * i by omega]
    rfl
  | succ r ih =>
    intro g R I s hg hR hI h1 h2
    have g8 : g < 8 := by omega
    have kq : jK L (6 + 12 * i) = (1, 7) := lk_boat hi
    have ok : ∀ n R I s, 5 + 12 * i ≤ n → jm_ok (jC L n R I s) (6 + 12 * i) 1 := fun n R I s h => okC kq (by omega) (by omega)
    have kn : jK L (8 + 12 * i + g + 2) = (4, 9) := by rw [show 8 + 12 * i + g + 2 = 10 + 12 * i + g by omega]; exact lk_ent hi g8
    obtain ⟨R', I', fR, fI, fin0⟩ := ih (g + 1) (jm_up R (7 + 12 * i) g (10 + 12 * i + g)) (jm_up (eNew (10 + 12 * i + g) I) (8 + 12 * i) g (-1)) (s + 9) (by omega) (fun r' j h => by rw [up_k (by omega)]; exact hR _ _ (by omega)) (fun r' j h => by rw [up_k (by omega), eNew_v (fun j => hI _ _ (by omega)), if_neg (by omega)]; exact hI _ _ (by omega)) (by rw [up_k (by omega)]; exact h1) (by rw [up_k (by omega)]; exact h2)
    refine ⟨R', I', fun r' j => ?_, fun r' j => ?_, fun w out σ fin => ?_⟩
    · rw [fR]
      by_cases e : r' = 7 + 12 * i ∧ g + 1 ≤ j ∧ j < 8
      · rw [if_pos e, if_pos (by omega)]
      · rw [if_neg e]
        by_cases e2 : r' = 7 + 12 * i ∧ j = g
        · obtain ⟨rfl, rfl⟩ := e2
          rw [up_s, if_pos (by omega)]
        · rw [if_neg (by omega)]
          by_cases e3 : r' = 7 + 12 * i
          · rw [up_i (by omega)]
          · rw [up_k e3]
    · rw [fI]
      by_cases e : r' = 8 + 12 * i ∧ g + 1 ≤ j ∧ j < 8
      · rw [if_pos e, if_pos (by omega)]
      · rw [if_neg e]
        by_cases e2 : r' = 8 + 12 * i ∧ j = g
        · obtain ⟨rfl, rfl⟩ := e2
          rw [if_neg (by omega), up_s, if_pos (by omega)]
        · rw [if_neg (show ¬ (r' = 8 + 12 * i ∧ g ≤ j ∧ j < 8) by omega)]
          have e4 : jm_up (eNew (10 + 12 * i + g) I) (8 + 12 * i) g (-1) r' j = eNew (10 + 12 * i + g) I r' j := by
            by_cases e3 : r' = 8 + 12 * i
            · exact up_i (by omega)
            · exact up_k e3
          rw [e4, eNew_v (fun j => hI _ _ (by omega))]
          by_cases e5 : 10 + 12 * i + (g + 1) ≤ r' ∧ r' < 18 + 12 * i
          · rw [if_pos e5, if_pos (show 10 + 12 * i + g ≤ r' ∧ r' < 18 + 12 * i by omega)]
          · rw [if_neg e5]
            by_cases e6 : r' = 10 + 12 * i + g
            · rw [if_pos e6, if_pos (show 10 + 12 * i + g ≤ r' ∧ r' < 18 + 12 * i by omega)]
            · rw [if_neg e6, if_neg (show ¬ (10 + 12 * i + g ≤ r' ∧ r' < 18 + 12 * i) by omega)]
    · iterate 3 (first | refine jF_step rfl trivial ?_ | refine jF_step rfl rfl ?_)
      rw [if_neg (show ¬ (8 : Int32) ≤ nI g from n_ge (b := 8) (by omega) (by omega))]
      iterate 1 (first | refine jF_step rfl trivial ?_ | refine jF_step rfl rfl ?_)
      refine jF_step rfl (ok _ _ _ _ (by omega)) ?_
      rw [cRC, h1]
      iterate 1 (first | refine jF_step rfl trivial ?_ | refine jF_step rfl rfl ?_)
      refine jF_step rfl rfl ?_
      rw [nwC (fun j => hR _ _ (by omega)) (fun j => hI _ _ (by omega)) kn, nC]
      iterate 1 (first | refine jF_step rfl trivial ?_ | refine jF_step rfl rfl ?_)
      rw [show 8 + 12 * i + g + 2 = 10 + 12 * i + g by omega]
      have q2 : 2 ≤ 10 + 12 * i + g := by omega
      refine jF_call rfl ⟨Nat.le_of_ble_eq_true rfl, q2⟩ (tE_new (okC (lk_ent hi g8) (by omega) (by omega))) (fun w1 => ?_)
      refine jF_step rfl (aaC (lk_ents hi) (by omega) (by omega) (vp_in_nI g8 (by decide)) (by omega) (lk_ent hi g8) (by omega) (by omega) rfl) ?_
      rw [sRC, cRC, nc8 (by omega)]
      iterate 1 (first | refine jF_step rfl trivial ?_ | refine jF_step rfl rfl ?_)
      refine jF_step rfl (ok _ _ _ _ (by omega)) ?_
      rw [cRC, up_k (by omega), h2]
      iterate 2 (first | refine jF_step rfl trivial ?_ | refine jF_step rfl rfl ?_)
      refine jF_step rfl (iwC (lk_heard hi) (by omega) (by omega) (vp_in_nI g8 (by decide))) ?_
      rw [sIC, cIC, nc8 (by omega)]
      iterate 2 (first | refine jF_step rfl trivial ?_ | refine jF_step rfl rfl ?_)
      refine jF_to ?_ (fin0 true out σ (fun w' => ?_))
      · rw [← nI_1]; rfl
      · have := fin w'
        rw [show s + 9 * (r + 1) = s + 9 + 9 * r by omega] at this
        exact this
/-- a boat's ints -/
def bI (i r j : Nat) : Int32 := if r = 6 + 12 * i then (if j = 0 then nI i else 0) else if r = 8 + 12 * i then (if j < 8 then -1 else 0) else if 10 + 12 * i ≤ r then (if r = 10 + 12 * i + i then (if j = 2 then nI i else if j = 8 then 1 else 0) else (if j < 5 then -1 else 0)) else 0
theorem jR_blk {i r j : Nat} (hi : i < 8) (h1 : 6 + 12 * i ≤ r) (h2 : r < 18 + 12 * i) : jR r j = if r = 6 + 12 * i then (if 1 ≤ j ∧ j < 4 then r + j else 0) else if r = 7 + 12 * i then (if j < 8 then r + 3 + j else 0) else 0 := by
  unfold jR
  rw [if_neg (by omega), if_pos (by omega)]
  by_cases e : r = 6 + 12 * i
  · rw [if_pos e, if_pos (by omega)]
  · rw [if_neg e, if_neg (by omega)]
    by_cases e2 : r = 7 + 12 * i
    · rw [if_pos e2, if_pos (by omega)]
    · rw [if_neg e2, if_neg (by omega)]
theorem tB_new {i n s : Nat} {R : Nat → Nat → Nat} {I : jHp} (hi : i < 8) (hn : n = 5 + 12 * i) (hR : ∀ r j, 6 + 12 * i ≤ r → R r j = 0) (hI : ∀ r j, 6 + 12 * i ≤ r → I r j = 0) : ∃ (R' : Nat → Nat → Nat) (I' : jHp), jm_F (d + 2, 60, 0, jm_en 60 [.ref (6 + 12 * i), .int (nI i)], [], false, jC L n R I s) (.inl none) (jC L (16 + 12 * i) R' I' (s + 120)) ∧ (∀ r j, R' r j = if 6 + 12 * i ≤ r ∧ r < 18 + 12 * i then jR r j else R r j) ∧ (∀ r j, I' r j = if 6 + 12 * i ≤ r ∧ r < 18 + 12 * i then bI i r j else I r j) := by
  subst hn
  have h1 : 1 ≤ 6 + 12 * i := by omega
  have kq : jK L (6 + 12 * i) = (1, 7) := lk_boat hi
  have ok : ∀ n R I s, 5 + 12 * i ≤ n → jm_ok (jC L n R I s) (6 + 12 * i) 1 := fun n R I s h => okC kq (by omega) (by omega)
  have k1 : jK L (5 + 12 * i + 2) = (16, 8) := by rw [show 5 + 12 * i + 2 = 7 + 12 * i by omega]; exact lk_ents hi
  have k2 : jK L (5 + 12 * i + 1 + 2) = (10, 8) := by rw [show 5 + 12 * i + 1 + 2 = 8 + 12 * i by omega]; exact lk_heard hi
  have k3 : jK L (5 + 12 * i + 1 + 1 + 2) = (10, 32) := by rw [show 5 + 12 * i + 1 + 1 + 2 = 9 + 12 * i by omega]; exact lk_words hi
  obtain ⟨R', I', fR, fI, fin⟩ := tB_loop (L := L) (d := d) hi 8 0 (jm_up (jm_up (jm_up R (6 + 12 * i) 1 (7 + 12 * i)) (6 + 12 * i) 2 (8 + 12 * i)) (6 + 12 * i) 3 (9 + 12 * i)) (jm_up I (6 + 12 * i) 0 (nI i)) (s + 8 + 8 + 32) rfl (fun r' j h => by rw [up_k (by omega), up_k (by omega), up_k (by omega)]; exact hR _ _ (by omega)) (fun r' j h => by rw [up_k (by omega)]; exact hI _ _ (by omega)) (by rw [up_i (by omega), up_i (by omega), up_s]) (by rw [up_i (by omega), up_s])
  refine ⟨R', eStart (10 + 12 * i + i) (nI i) I', ?_, fun r j => ?_, fun r j => ?_⟩
  · iterate 4 (first | refine jF_step rfl trivial ?_ | refine jF_step rfl rfl ?_ | refine jF_step rfl ⟨by omega, Nat.le_of_ble_eq_true rfl, h1⟩ ?_ | refine jF_step rfl ⟨⟨by omega, Nat.le_of_ble_eq_true rfl, h1⟩, Or.inl rfl⟩ ?_ | refine jF_step rfl ⟨⟨by omega, Nat.le_of_ble_eq_true rfl, h1⟩, Or.inr rfl⟩ ?_)
    refine jF_step rfl ⟨rfl, by decide, by decide⟩ ?_
    rw [show Int32.toNatClampNeg 8 = 8 from rfl, nwC (fun j => hR _ _ (by omega)) (fun j => hI _ _ (by omega)) k1]
    refine jF_step rfl (ok _ _ _ _ (by omega)) ?_
    rw [sRC, cRC, nC, show 5 + 12 * i + 2 = 7 + 12 * i by omega]
    iterate 2 (first | refine jF_step rfl trivial ?_ | refine jF_step rfl rfl ?_)
    refine jF_step rfl ⟨rfl, by decide, by decide⟩ ?_
    rw [show Int32.toNatClampNeg 8 = 8 from rfl, nwC (fun j => by rw [up_k (by omega)]; exact hR _ _ (by omega)) (fun j => hI _ _ (by omega)) k2]
    refine jF_step rfl (ok _ _ _ _ (by omega)) ?_
    rw [sRC, cRC, nC, show 5 + 12 * i + 1 + 2 = 8 + 12 * i by omega]
    iterate 2 (first | refine jF_step rfl trivial ?_ | refine jF_step rfl rfl ?_)
    refine jF_step rfl ⟨rfl, by decide, by decide⟩ ?_
    rw [show Int32.toNatClampNeg 32 = 32 from rfl, nwC (fun j => by rw [up_k (by omega), up_k (by omega)]; exact hR _ _ (by omega)) (fun j => hI _ _ (by omega)) k3]
    refine jF_step rfl (ok _ _ _ _ (by omega)) ?_
    rw [sRC, cRC, nC, show 5 + 12 * i + 1 + 1 + 2 = 9 + 12 * i by omega]
    iterate 2 (first | refine jF_step rfl trivial ?_ | refine jF_step rfl rfl ?_)
    refine jF_step rfl (ok _ _ _ _ (by omega)) ?_
    rw [sIC, cIC, up_v (hI _ _ (by omega))]
    iterate 2 (first | refine jF_step rfl trivial ?_ | refine jF_step rfl rfl ?_)
    refine jF_step rfl (ok _ _ _ _ (by omega)) ?_
    rw [sIC, cIC, up_v (hI _ _ (by omega))]
    iterate 2 (first | refine jF_step rfl trivial ?_ | refine jF_step rfl rfl ?_)
    refine jF_step rfl ⟨ok _ _ _ _ (by omega), Or.inl rfl⟩ ?_
    rw [sIC, cIC, up_v (hI _ _ (by omega))]
    iterate 2 (first | refine jF_step rfl trivial ?_ | refine jF_step rfl rfl ?_)
    refine jF_step rfl (ok _ _ _ _ (by omega)) ?_
    rw [sIC, cIC]
    iterate 2 (first | refine jF_step rfl trivial ?_ | refine jF_step rfl rfl ?_)
    refine jF_to ?_ (fin true _ _ (fun w' => ?_))
    · rw [show 8 + 12 * i + 0 = 5 + 12 * i + 1 + 1 + 1 by omega]
      rfl
    · have er : R' (6 + 12 * i) 1 = 7 + 12 * i := by rw [fR, if_neg (by omega), up_i (by omega), up_i (by omega), up_s]
      have ee : R' (7 + 12 * i) i = 10 + 12 * i + i := by rw [fR, if_pos (by omega)]
      iterate 1 (first | refine jF_step rfl trivial ?_ | refine jF_step rfl rfl ?_)
      refine jF_step rfl (ok _ _ _ _ (by omega)) ?_
      rw [cRC, er]
      iterate 1 (first | refine jF_step rfl trivial ?_ | refine jF_step rfl rfl ?_)
      refine jF_step rfl ⟨by rw [cKC (lk_ents hi) (by omega)]; exact iwC (lk_ents hi) (by omega) (by omega) (vp_in_nI hi (by decide)), by rw [cKC (lk_ents hi) (by omega)]; decide, by rw [cKC (lk_ents hi) (by omega)]; decide⟩ ?_
      rw [cRC, nc8 (by omega), ee]
      iterate 1 (first | refine jF_step rfl trivial ?_ | refine jF_step rfl rfl ?_)
      have oe : ∀ R I s, jm_ok (jC L (16 + 12 * i) R I s) (10 + 12 * i + i) 4 := fun R I s => okC (lk_ent hi hi) (by omega) (by omega)
      refine jF_callE rfl ⟨Nat.le_of_ble_eq_true rfl, oe _ _ _⟩ (tE_start (oe _ _ _)) ?_
      exact jF_ret rfl trivial
  · rw [fR]
    by_cases e : 6 + 12 * i ≤ r ∧ r < 18 + 12 * i
    · rw [if_pos e, jR_blk hi e.1 e.2]
      by_cases e1 : r = 6 + 12 * i
      · subst e1
        rw [if_neg (by omega), if_pos rfl]
        by_cases j3 : j = 3
        · subst j3; rw [up_s, if_pos (by omega)]; omega
        by_cases j2 : j = 2
        · subst j2; rw [up_i (by omega), up_s, if_pos (by omega)]; omega
        by_cases j1 : j = 1
        · subst j1; rw [up_i (by omega), up_i (by omega), up_s, if_pos (by omega)]; omega
        rw [up_i j3, up_i j2, up_i j1, if_neg (by omega)]; exact hR _ _ (by omega)
      · rw [if_neg e1]
        by_cases e2 : r = 7 + 12 * i
        · subst e2
          rw [if_pos rfl]
          by_cases j8 : j < 8
          · rw [if_pos (show 7 + 12 * i = 7 + 12 * i ∧ 0 ≤ j ∧ j < 8 by omega), if_pos j8]; omega
          · rw [if_neg (show ¬ (7 + 12 * i = 7 + 12 * i ∧ 0 ≤ j ∧ j < 8) by omega), if_neg j8, up_k (by omega), up_k (by omega), up_k (by omega)]; exact hR _ _ (by omega)
        · rw [if_neg e2, if_neg (by omega), up_k e1, up_k e1, up_k e1]; exact hR _ _ e.1
    · rw [if_neg e, if_neg (by omega), up_k (by omega), up_k (by omega), up_k (by omega)]
  · have v : I' r j = if r = 8 + 12 * i ∧ 0 ≤ j ∧ j < 8 then -1 else if 10 + 12 * i + 0 ≤ r ∧ r < 18 + 12 * i then (if j < 5 then -1 else 0) else jm_up I (6 + 12 * i) 0 (nI i) r j := fI r j
    rw [eStart_v]
    by_cases e : 6 + 12 * i ≤ r ∧ r < 18 + 12 * i
    · rw [if_pos e]
      unfold bI
      by_cases e1 : r = 6 + 12 * i
      · rw [if_neg (by omega), v, if_neg (by omega), if_neg (by omega), if_pos e1]
        subst e1
        by_cases j0 : j = 0
        · subst j0; rw [up_s, if_pos rfl]
        · rw [up_i j0, if_neg j0]; exact hI _ _ (by omega)
      · rw [if_neg e1]
        by_cases e2 : r = 8 + 12 * i
        · rw [if_pos e2, if_neg (by omega), v]
          by_cases j8 : j < 8
          · rw [if_pos (show r = 8 + 12 * i ∧ 0 ≤ j ∧ j < 8 by omega), if_pos j8]
          · rw [if_neg (show ¬ (r = 8 + 12 * i ∧ 0 ≤ j ∧ j < 8) by omega), if_neg (by omega), if_neg j8, up_k e1]; exact hI _ _ (by omega)
        · rw [if_neg e2]
          by_cases e3 : 10 + 12 * i ≤ r
          · rw [if_pos e3]
            have v2 : ∀ r j, 10 + 12 * i ≤ r → r < 18 + 12 * i → I' r j = if j < 5 then -1 else 0 := fun r j a b => by rw [fI, if_neg (by omega), if_pos (by omega)]
            by_cases e4 : r = 10 + 12 * i + i
            · rw [if_pos e4, if_pos e4]
              by_cases j2 : j = 2
              · rw [if_pos j2, if_pos j2]
              rw [if_neg j2, if_neg j2]
              by_cases j8 : j = 8
              · rw [if_pos j8, if_pos j8]
              rw [if_neg j8, if_neg j8]
              by_cases j5 : j < 5 ∨ j = 7
              · rw [if_pos j5]
              · rw [if_neg j5, v2 _ _ (by omega) (by omega), if_neg (by omega)]
            · rw [if_neg e4, if_neg e4, v2 _ _ e3 e.2]
          · rw [if_neg e3, if_neg (by omega), v, if_neg (by omega), if_neg (by omega), up_k e1]; exact hI _ _ e.1
    · rw [if_neg e, if_neg (by omega), v, if_neg (by omega), if_neg (by omega), up_k (by omega)]
end
