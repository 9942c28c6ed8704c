/-! the relation: link; bits -/
def pw (k : Nat) : Int32 := 1 <<< (nI k &&& 31)
def bt (x : Int32) (l : Nat) : Bool := x.toBitVec.getLsbD l
theorem pw_bt : ∀ k < 8, ∀ l < 32, bt (pw k) l = decide (l = k) := by decide +kernel
theorem bt_z (l : Nat) : bt 0 l = false := by unfold bt; exact BitVec.getLsbD_zero
theorem bt_and (x y : Int32) (l : Nat) : bt (x &&& y) l = (bt x l && bt y l) := by unfold bt; rw [Int32.toBitVec_and]; exact BitVec.getLsbD_and
theorem bt_or (x y : Int32) (l : Nat) : bt (x ||| y) l = (bt x l || bt y l) := by unfold bt; rw [Int32.toBitVec_or]; exact BitVec.getLsbD_or
theorem bt_xor (x y : Int32) (l : Nat) : bt (x ^^^ y) l = (bt x l ^^ bt y l) := by unfold bt; rw [Int32.toBitVec_xor]; exact BitVec.getLsbD_xor
theorem bt_ext {x y : Int32} (h : ∀ l, l < 32 → bt x l = bt y l) : x = y := Int32.toBitVec_inj.mp (BitVec.eq_of_getLsbD_eq h)
theorem bt_iff {x : Int32} {k : Nat} (hk : k < 8) : (x &&& pw k = 0) ↔ bt x k = false := by
  constructor
  · intro h
    have e : bt (x &&& pw k) k = false := by rw [h]; exact bt_z k
    rw [bt_and, pw_bt k hk k (by omega), decide_eq_true rfl, Bool.and_true] at e
    exact e
  · intro h
    refine bt_ext (fun l hl => ?_)
    rw [bt_and, pw_bt k hk l hl, bt_z]
    by_cases e : l = k
    · subst e; rw [h]; rfl
    · rw [decide_eq_false e, Bool.and_false]
theorem bL_bt {A : jHp} {q k : Nat} (hk : k < 8) : bLinked A q (nI k) = if bt (A q 5) k then 1 else 0 := by
  unfold bLinked
  show (if A q 5 &&& pw k = 0 then (0 : Int32) else 1) = _
  by_cases h : bt (A q 5) k = false
  · rw [if_pos ((bt_iff hk).mpr h), h]; rfl
  · rw [if_neg (fun e => h ((bt_iff hk).mp e))]
    have : bt (A q 5) k = true := by revert h; cases bt (A q 5) k <;> decide
    rw [this]; rfl
theorem bL_01 {A : jHp} {q : Nat} {x : Int32} : bLinked A q x = 0 ∨ bLinked A q x = 1 := by unfold bLinked; split; exact Or.inl rfl; exact Or.inr rfl
/-- after a flip -/
theorem bL_flip {A : jHp} {q k l : Nat} (hk : k < 8) (hl : l < 8) : bLinked (bFlip q (nI k) A) q (nI l) = if l = k then 1 - bLinked A q (nI l) else bLinked A q (nI l) := by
  rw [bL_bt hl, bL_bt hl]
  have e : bt (bFlip q (nI k) A q 5) l = (bt (A q 5) l ^^ decide (l = k)) := by
    unfold bFlip; rw [up_s]
    show bt (A q 5 ^^^ pw k) l = _
    rw [bt_xor, pw_bt k hk l (by omega)]
  rw [e]
  by_cases h : l = k
  · rw [if_pos h, decide_eq_true h]
    cases bt (A q 5) l <;> decide
  · rw [if_neg h, decide_eq_false h, Bool.xor_false]
theorem bL_flipk {A : jHp} {q q' : Nat} {x y : Int32} (h : q' ≠ q) : bLinked (bFlip q x A) q' y = bLinked A q' y := bLinked_c (by unfold bFlip; exact up_k h)
theorem nLink_L {A : jHp} {i j a b : Nat} {to : Int32} (hi : i < 8) (hj : j < 8) (hne : i ≠ j) (ha : a < 8) (hb : b < 8) (hto : to = 0 ∨ to = 1) (V : VL A) : bLinked (nLink i j to A) (6 + 12 * a) (nI b) = if (a = i ∧ b = j) ∨ (a = j ∧ b = i) then to else bLinked A (6 + 12 * a) (nI b) := by
  unfold nLink
  by_cases h : bLinked A (6 + 12 * i) (nI j) = to
  · rw [if_pos h]
    split
    · rename_i e
      rcases e with ⟨rfl, rfl⟩ | ⟨rfl, rfl⟩
      · exact h
      · rw [V a b ha hb]; exact h
    · rfl
  · rw [if_neg h]
    have hf : 1 - bLinked A (6 + 12 * i) (nI j) = to := by
      rcases bL_01 (A := A) (q := 6 + 12 * i) (x := nI j) with e | e <;> rw [e] at h ⊢ <;> rcases hto with e2 | e2 <;> subst e2 <;> first | rfl | exact absurd rfl h
    have hs : 1 - bLinked A (6 + 12 * j) (nI i) = to := by rw [V j i hj hi]; exact hf
    by_cases e1 : a = i
    · subst e1
      rw [bL_flipk (by omega), bL_flip hj hb]
      by_cases e2 : b = j
      · subst e2; rw [if_pos rfl, if_pos (Or.inl ⟨rfl, rfl⟩)]; exact hf
      · rw [if_neg e2, if_neg (by omega)]
    · by_cases e3 : a = j
      · subst e3
        rw [bL_flip hi hb, bL_flipk (by omega)]
        by_cases e2 : b = i
        · subst e2; rw [if_pos rfl, if_pos (Or.inr ⟨rfl, rfl⟩)]; exact hs
        · rw [if_neg e2, if_neg (by omega)]
      · rw [bL_flipk (by omega), bL_flipk (by omega), if_neg (by omega)]
theorem nLink_k {A : jHp} {i j r s : Nat} {to : Int32} (h : s ≠ 5 ∨ (r ≠ 6 + 12 * i ∧ r ≠ 6 + 12 * j)) : nLink i j to A r s = A r s := by
  unfold nLink
  split
  · rfl
  · unfold bFlip
    rcases h with h | ⟨h1, h2⟩
    · rw [up_i h, up_i h]
    · rw [up_k h2, up_k h1]
theorem RR_link {A I : jHp} {i j : Nat} {to : Int32} (hi : i < 8) (hj : j < 8) (hne : i ≠ j) (hto : to = 0 ∨ to = 1) (V : VL A) (R : RR A I) : RR (nLink i j to A) (jm_up (jm_up I 184 (8 * i + j) to) 184 (8 * j + i) to) := by
  obtain ⟨r1, r2, r3, r4, r5, r6, r7, r8⟩ := R
  refine ⟨RE_c (fun _ _ _ _ _ => nLink_k (by omega)) (fun r h1 h2 j => by rw [up_k (by omega), up_k (by omega)]) r1, RO_c (fun i hi => nLink_k (by omega)) (fun j => by rw [up_k (by omega), up_k (by omega)]) r2, ?_, RH_c (fun i hi j => nLink_k (by omega)) (fun j => by rw [up_k (by omega), up_k (by omega)]) r4, RC_c (fun r h1 h2 j => nLink_k (by omega)) (fun r h1 h2 j => by rw [up_k (by omega), up_k (by omega)]) r5, RP_c (fun r h1 h2 j => nLink_k (by omega)) (fun r h1 h2 j => by rw [up_k (by omega), up_k (by omega)]) r6, RW_c (fun i hi => nLink_k (by omega)) (fun i hi j => nLink_k (by omega)) (fun r h1 h2 j => by rw [up_k (by omega), up_k (by omega)]) r7, RN_c (fun j => nLink_k (by omega)) (by rw [up_k (by omega), up_k (by omega)]) (by rw [up_k (by omega), up_k (by omega)]) (by rw [up_k (by omega), up_k (by omega)]) r8⟩
  intro a b ha hb
  rw [nLink_L hi hj hne ha hb hto V]
  by_cases h1 : a = j ∧ b = i
  · obtain ⟨rfl, rfl⟩ := h1
    rw [up_s, if_pos (Or.inr ⟨rfl, rfl⟩)]
  · rw [up_i (by omega)]
    by_cases h2 : a = i ∧ b = j
    · obtain ⟨rfl, rfl⟩ := h2
      rw [up_s, if_pos (Or.inl ⟨rfl, rfl⟩)]
    · rw [up_i (by omega), if_neg (by omega)]; exact r3 a b ha hb
theorem VV_link {N : Nat} {A : jHp} {i j : Nat} {to : Int32} (hi : i < 8) (hj : j < 8) (hne : i ≠ j) (hto : to = 0 ∨ to = 1) (V : VV N A) : VV N (nLink i j to A) := by
  obtain ⟨v1, v2, v3, v4, v5, v6, v7, v8⟩ := V
  refine ⟨VE_c (fun _ _ _ _ _ => nLink_k (by omega)) v1, VO_c (fun i hi j hj => nLink_k (by omega)) v2, VS_c (fun i hi => nLink_k (by omega)) (fun i hi j => nLink_k (by omega)) v3, ?_, VH_c (fun i hi j => nLink_k (by omega)) v5, VC_c (fun r h1 h2 j => nLink_k (by omega)) v6, VP_c (fun r h1 h2 j => nLink_k (by omega)) (nLink_k (by omega)) (fun b => cN_c2 (fun r h1 h2 j => nLink_k (by omega)) 16 (by omega)) v7, ?_⟩
  · intro a b ha hb
    rw [nLink_L hi hj hne ha hb hto v4, nLink_L hi hj hne hb ha hto v4, v4 a b ha hb]
    by_cases h : (a = i ∧ b = j) ∨ (a = j ∧ b = i)
    · rw [if_pos h, if_pos (by omega)]
    · rw [if_neg h, if_neg (by omega)]
  · unfold VN; rw [nLink_k (by omega), nLink_k (by omega), nLink_k (by omega)]; exact v8
theorem Pair_q {L N wi mi t : Nat} {was mas : List Value} {cv : Int32 → Int64} {I : jHp} {G : Nat → Nat → Int64} {b : Int32} {y : Int64} (h1 : jm_F (11, wi, 0, jm_en wi was, [], false, jS L I G t) (.inl (some (.int 0))) (jS L I (jm_up G 209 0 y) t)) (h2 : ∀ G, jm_F (11, mi, 0, jm_en mi mas, [], false, jS L I G t) (.inl (some (.int b))) (jS L (jm_up I 182 0 0) G t)) (hy : y = cv b) (hR : Rel N I) : Pair L N wi was mi mas cv I G t :=
  Pair_ok h1 h2 up_s hy (Rel_m (Rel_code hR) (by omega)) (fun j => up_k (by omega)) (fun _ => rfl)
section
variable {L N t : Nat} {I : jHp} {G : Nat → Nat → Int64}
theorem op_link {x y to : Int32} (hto : to = 0 ∨ to = 1) (hR : Rel N I) : Pair L N 88 [.ref 2, .int x, .int y, .int to, .ref 209] 37 [.ref 182, .int x, .int y, .int to] cvB I G t := by
  by_cases h : (x < 0 ∨ ¬ x < 8) ∨ (y < 0 ∨ ¬ y < 8) ∨ x = y
  · exact Pair_no1 (w_linkX0 (cN_linkX (d := 8) h (by omega))) (fun t => mT_linkX h) (by decide) hR
  · obtain ⟨i, hi, rfl⟩ := nb_of (fun e => h (Or.inl e))
    obtain ⟨j, hj, rfl⟩ := nb_of (fun e => h (Or.inr (Or.inl e)))
    have hne : i ≠ j := fun e => h (Or.inr (Or.inr (by rw [e])))
    have e1 : nLink i j to I 184 (8 * i + j) = bLinked I (6 + 12 * i) (nI j) := by rw [nLink_k (by omega)]; exact hR.1.2.2.1 i j hi hj
    refine Pair_ok (w_link (cN_link (d := 8) hi hj hne)) (fun G => mT_link hi hj hne hto) ?_ ?_ (Rel_in (RR_link hi hj hne hto hR.2.2.2.2.1 (RR_code (RR_fr (fun r hr j => nLink_k (by omega)) hR.1))) (VV_link hi hj hne hto (VV_m hR.2 (by omega))) (fun r hr j => ?_)) (fun j => ?_) (fun j => nLink_k (by omega))
    · rw [up_k (by omega), up_k (by omega), up_s]
    · rw [e1]; rfl
    · rw [up_k (by omega), up_k (by omega), up_k (by omega)]
    · rw [up_k (by omega), up_k (by omega), up_k (by omega), nLink_k (by omega)]
theorem op_route {x y z : Int32} (hR : Rel N I) : Pair L N 93 [.ref 2, .int x, .int y, .int z, .ref 209] 49 [.ref 182, .int x, .int y, .int z] Int32.toInt64 I G t := by
  by_cases h : (x < 0 ∨ ¬ x < 8) ∨ (y < 0 ∨ ¬ y < 8)
  · exact Pair_no1 (w_routeX0 (cN_routeX (d := 9) h (by omega))) (fun t => mC_routeX (by rcases h with h | h; exact Or.inl h; exact Or.inr (Or.inl h))) (by decide) hR
  · obtain ⟨i, hi, rfl⟩ := nb_of (fun e => h (Or.inl e))
    obtain ⟨g, hg, rfl⟩ := nb_of (fun e => h (Or.inr e))
    by_cases hz : z < 0 ∨ 6 < z
    · refine Pair_no1 (w_routeX0 (cN_routeY (d := 9) hi hg ?_ (by omega))) (fun t => mC_routeX (Or.inr (Or.inr hz))) (by decide) hR
      rw [Int32.lt_iff_toInt_lt, Int32.lt_iff_toInt_lt] at hz
      exact hz
    · obtain ⟨k, hk, rfl⟩ : ∃ k, k < 7 ∧ z = nI k := by
        refine ⟨z.toNatClampNeg, ?_, ?_⟩
        · rw [Int32.lt_iff_toInt_lt, Int32.lt_iff_toInt_lt, t0, show (6 : Int32).toInt = 6 from rfl] at hz
          have : z.toNatClampNeg = z.toInt.toNat := rfl
          omega
        · rw [Int32.lt_iff_toInt_lt, Int32.lt_iff_toInt_lt, t0, show (6 : Int32).toInt = 6 from rfl] at hz
          have e : z.toNatClampNeg = z.toInt.toNat := rfl
          apply Int32.toInt_inj.mp
          rw [nI_toInt (by omega), e]; omega
      refine Pair_q (w_route (cN_route (d := 9) hi hg hk)) (fun G => mC_route hi hg hk) ?_ hR
      obtain ⟨q0, q1, q2, q3, q4, q5, q6, q7, q8⟩ := RE_g hR.1.1 hi hg
      match k, hk with
      | 0, _ => show _ = (I 188 _).toInt64; rw [q2]; rfl
      | 1, _ => show _ = (I 187 _).toInt64; rw [q1]; rfl
      | 2, _ => show _ = (I 186 _).toInt64; rw [q0]; rfl
      | 3, _ => show _ = (I 190 _).toInt64; rw [q4]; rfl
      | 4, _ => show _ = (I 189 _).toInt64; rw [q3]; rfl
      | 5, _ => show _ = (I 194 _).toInt64; rw [q6]; rfl
      | 6, _ => show _ = (if I 192 (8 * i + g) = 0 then (0 : Int32) else 1).toInt64; rw [q7]; rfl
theorem op_two {x y : Int32} (hR : Rel N I) : Pair L N 94 [.ref 2, .int x, .int y, .ref 209] 50 [.ref 182, .int x, .int y] cvB I G t := by
  by_cases h : (x < 0 ∨ ¬ x < 8) ∨ (y < 0 ∨ ¬ y < 8)
  · exact Pair_no1 (w_twoX0 (cN_twoX (d := 9) h (by omega))) (fun t => mC_twoX h) (by decide) hR
  · obtain ⟨i, hi, rfl⟩ := nb_of (fun e => h (Or.inl e))
    obtain ⟨j, hj, rfl⟩ := nb_of (fun e => h (Or.inr e))
    refine Pair_q (w_two (cN_two (d := 9) hi hj)) (fun G => mC_two hi hj) ?_ hR
    have e : mTwo I i j = nTwo I i j := by
      unfold mTwo nTwo
      have rH : RH I I := hR.1.2.2.2.1
      have vH : VH I := hR.2.2.2.2.2.1
      rw [rH i j hi hj, rH j i hj hi]
      simp only [m1_iff (vH i j hi hj), m1_iff (vH j i hj hi)]
    rw [e]; rfl
theorem op_got {x y : Int32} (hR : Rel N I) : Pair L N 98 [.ref 2, .int x, .int y, .ref 209] 56 [.ref 182, .int x, .int y] Int32.toInt64 I G t := by
  by_cases hx : x < 0 ∨ ¬ x < 8
  · exact Pair_no1 (w_gotX0 (cN_gotX (d := 9) hx (by omega))) (fun t => mC_gotX hx) (by decide) hR
  · obtain ⟨i, hi, rfl⟩ := nb_of hx
    obtain ⟨e1, e2⟩ := hR.1.2.2.2.2.2.2.1 i hi
    by_cases h : y < 0 ∨ ¬ y < I (6 + 12 * i) 4
    · exact Pair_no1 (w_gotX2 (cN_gotY (d := 9) hi h (by omega))) (fun t => mC_gotY hi (by rw [e1]; exact h)) (by decide) hR
    · obtain ⟨_, _, n, hn, e3⟩ := hR.2.2.1 i hi
      have h1 : ¬ y < 0 := fun e => h (Or.inl e)
      have h2 : y < I (6 + 12 * i) 4 := Classical.byContradiction fun e => h (Or.inr e)
      rw [Int32.lt_iff_toInt_lt, t0] at h1
      have h3 : y.toInt < n := by rw [e3, Int32.lt_iff_toInt_lt, nI_toInt (by omega)] at h2; exact h2
      have ec : y.toNatClampNeg = y.toInt.toNat := rfl
      obtain ⟨k, hk, rfl⟩ : ∃ k, k < 32 ∧ y = nI k := ⟨y.toNatClampNeg, by omega, by
        apply Int32.toInt_inj.mp
        rw [nI_toInt (by omega), ec]; omega⟩
      refine Pair_q (w_got (cN_got (d := 9) hi hk h2)) (fun G => mC_got hi hk (by rw [e1]; exact h2)) ?_ hR
      rw [e2 k hk]
end
