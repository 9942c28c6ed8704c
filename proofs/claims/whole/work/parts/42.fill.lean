/-! runs of the small machine: what a boat tells -/
section
variable {L t d : Nat} {I : jHp} {G : Nat → Nat → Int64}
/-- one row more is told: the n-th, of goal g, out of entry q -/
def fAdd (c q g n : Nat) (I : jHp) : jHp := jm_up (jm_up (jm_up (jm_up I (103 + 4 * c) n (nI g)) (104 + 4 * c) n (I q 3)) (105 + 4 * c) n (I q 4)) (102 + 4 * c) 4 (nI (n + 1))
def nFill (c i : Nat) (full : Int32) : Nat → Nat → Nat → jHp → jHp
  | 0, _, _, I => I
  | r + 1, g, n, I => if I (10 + 12 * i + g) 8 = 0 ∧ (full = 0 ∨ I (10 + 12 * i + g) 3 = -1) then nFill c i full r (g + 1) n (jm_up I (10 + 12 * i + g) 8 0) else nFill c i full r (g + 1) (n + 1) (jm_up (fAdd c (10 + 12 * i + g) g n I) (10 + 12 * i + g) 8 0)
theorem la_ents2 {i g : Nat} (h : i < 8) (hg : g < 8) : jm_iw (jS L I G t) (7 + 12 * i) ((jS L I G t).2.1 (7 + 12 * i)).1 (nI g) ∧ 13 ≤ ((jS L I G t).2.1 (7 + 12 * i)).1 ∧ ((jS L I G t).2.1 (7 + 12 * i)).1 < 17 := la_ents h hg
theorem lre2 {i g : Nat} (hi : i < 8) (hg : g < 8) : jR (7 + 12 * i) (nI g).toNatClampNeg = 10 + 12 * i + g := by
  rw [nc8 (by omega)]; exact lr_ents hi hg
theorem ne5 {c k : Nat} (hc : c < 16) (hk : k < 8) {s : Nat} (hs : s < 3) : jm_iw (jS L I G t) (jR (102 + 4 * c) s) 10 (nI k) := by
  rw [lr_cast hc hs, show 103 + s + 4 * c = 102 + (s + 1) + 4 * c by omega]
  exact lw (lk_carr hc (by omega)) (by omega) (by omega) (vp_in_nI hk (by decide))
theorem tC_fill1 {c i g n : Nat} {b full : Int32} {w : Bool} {out : Option Value ⊕ Nat} {σ : jm_S} (hc : c < 16) (hi : i < 8) (hg : g < 8) (hn : n < 8) (en : I (102 + 4 * c) 4 = nI n)
    (h : ∀ w, jm_F (d, 70, 99, [some (.ref (102 + 4 * c)), some (.int b), some (.ref (7 + 12 * i)), some (.int full), some (.int (nI g)), some (.ref (10 + 12 * i + g))], [.int 0, .ref (10 + 12 * i + g)], w, jS L (fAdd c (10 + 12 * i + g) g n I) G t) out σ) :
    jm_F (d, 70, 47, [some (.ref (102 + 4 * c)), some (.int b), some (.ref (7 + 12 * i)), some (.int full), some (.int (nI g)), some (.ref (10 + 12 * i + g))], [], w, jS L I G t) out σ := by
  repeat (first | refine jF_step rfl trivial ?_ | refine jF_step rfl rfl ?_ | refine jF_step rfl (lo_cast hc) ?_)
  simp only [jS, en]
  repeat (first | refine jF_step rfl trivial ?_ | refine jF_step rfl rfl ?_ | refine jF_step rfl (ne5 hc hn (s := 0) (by omega)) ?_)
  simp only [jm_sI, lr_cast hc (show 0 < 3 by omega), nc8 (show n < 1000 by omega)]
  repeat (first | refine jF_step rfl trivial ?_ | refine jF_step rfl rfl ?_ | refine jF_step rfl (lo_cast hc) ?_ | refine jF_step rfl (lo_ent hi hg) ?_)
  simp only [up_k (show 102 + 4 * c ≠ 103 + 0 + 4 * c by omega), en]
  repeat (first | refine jF_step rfl trivial ?_ | refine jF_step rfl rfl ?_ | refine jF_step rfl (lo_cast hc) ?_ | refine jF_step rfl (lo_ent hi hg) ?_ | refine jF_step rfl (ne5 hc hn (s := 1) (by omega)) ?_)
  simp only [jm_sI, lr_cast hc (show 1 < 3 by omega), nc8 (show n < 1000 by omega), up_k (show 102 + 4 * c ≠ 103 + 1 + 4 * c by omega), up_k (show 102 + 4 * c ≠ 103 + 0 + 4 * c by omega), en]
  repeat (first | refine jF_step rfl trivial ?_ | refine jF_step rfl rfl ?_ | refine jF_step rfl (lo_cast hc) ?_ | refine jF_step rfl (lo_ent hi hg) ?_ | refine jF_step rfl (ne5 hc hn (s := 2) (by omega)) ?_)
  simp only [jm_sI, lr_cast hc (show 2 < 3 by omega), nc8 (show n < 1000 by omega), up_k (show 102 + 4 * c ≠ 103 + 1 + 4 * c by omega), up_k (show 102 + 4 * c ≠ 103 + 0 + 4 * c by omega), up_k (show 102 + 4 * c ≠ 103 + 2 + 4 * c by omega), up_k (show 10 + 12 * i + g ≠ 103 + 0 + 4 * c by omega), up_k (show 10 + 12 * i + g ≠ 103 + 1 + 4 * c by omega), en]
  repeat (first | refine jF_step rfl trivial ?_ | refine jF_step rfl rfl ?_ | refine jF_step rfl (lo_cast hc) ?_)
  simp only [jm_sI, up_k (show 102 + 4 * c ≠ 103 + 1 + 4 * c by omega), up_k (show 102 + 4 * c ≠ 103 + 0 + 4 * c by omega), up_k (show 102 + 4 * c ≠ 103 + 2 + 4 * c by omega), en, nI_1]
  have h := h true
  unfold fAdd at h
  simp only [show 103 + 0 + 4 * c = 103 + 4 * c by omega, show 103 + 1 + 4 * c = 104 + 4 * c by omega, show 103 + 2 + 4 * c = 105 + 4 * c by omega]
  exact h
theorem tC_fill0 {c i : Nat} {b full : Int32} (hc : c < 16) (hi : i < 8) : ∀ r g n (I : jHp) (w : Bool) (x : Option Value), g + r = 8 → n ≤ g → I (102 + 4 * c) 4 = nI n → jm_F (d, 70, 13, [some (.ref (102 + 4 * c)), some (.int b), some (.ref (7 + 12 * i)), some (.int full), some (.int (nI g)), x], [], w, jS L I G t) (.inl none) (jS L (nFill c i full r g n I) G t) := by
  intro r
  induction r with
  | zero =>
    intro g n I w x hg hn en
    have : g = 8 := by omega
    subst this
    repeat (first | refine jF_step rfl trivial ?_ | refine jF_step rfl rfl ?_)
    exact jF_ret rfl trivial
  | succ r ih =>
    intro g n I w x hg hn en
    have hg8 : g < 8 := by omega
    have e1 : jm_up I (10 + 12 * i + g) 8 0 (102 + 4 * c) 4 = nI n := by rw [up_i (by omega), en]
    have e2 : jm_up (fAdd c (10 + 12 * i + g) g n I) (10 + 12 * i + g) 8 0 (102 + 4 * c) 4 = nI (n + 1) := by rw [up_i (by omega)]; exact up_s
    have k1 := fun w x => ih (g + 1) n (jm_up I (10 + 12 * i + g) 8 0) w x (by omega) (by omega) e1
    have k2 := fun w x => ih (g + 1) (n + 1) (jm_up (fAdd c (10 + 12 * i + g) g n I) (10 + 12 * i + g) 8 0) w x (by omega) (by omega) e2
    simp only [← nI_1 (a := g)] at k1 k2
    rw [nFill]
    repeat (first | refine jF_step rfl trivial ?_ | refine jF_step rfl rfl ?_)
    rw [if_neg (n8 hg8)]
    repeat (first | refine jF_step rfl trivial ?_ | refine jF_step rfl rfl ?_ | refine jF_step rfl (la_ents2 hi hg8) ?_)
    simp only [jS, lre2 hi hg8]
    repeat (first | refine jF_step rfl trivial ?_ | refine jF_step rfl rfl ?_ | refine jF_step rfl (lo_ent hi hg8) ?_)
    by_cases h1 : I (10 + 12 * i + g) 8 = 0
    · rw [if_pos h1]
      repeat (first | refine jF_step rfl trivial ?_ | refine jF_step rfl rfl ?_)
      by_cases h2 : full = 0
      · rw [if_pos h2, if_pos ⟨h1, Or.inl h2⟩]
        repeat (first | exact k1 _ _ | refine jF_step rfl trivial ?_ | refine jF_step rfl rfl ?_ | refine jF_step rfl ⟨lo_ent hi hg8, Or.inl rfl⟩ ?_ | refine jF_step rfl ⟨⟨lo_ent hi hg8, Or.inl rfl⟩, Or.inl rfl⟩ ?_ | refine jF_step rfl ⟨⟨lo_ent hi hg8, Or.inl rfl⟩, Or.inr rfl⟩ ?_)
      · rw [if_neg h2]
        repeat (first | refine jF_step rfl trivial ?_ | refine jF_step rfl rfl ?_ | refine jF_step rfl (lo_ent hi hg8) ?_)
        by_cases h3 : I (10 + 12 * i + g) 3 = -1
        · rw [if_pos h3, if_pos ⟨h1, Or.inr h3⟩]
          repeat (first | exact k1 _ _ | refine jF_step rfl trivial ?_ | refine jF_step rfl rfl ?_ | refine jF_step rfl ⟨lo_ent hi hg8, Or.inl rfl⟩ ?_ | refine jF_step rfl ⟨⟨lo_ent hi hg8, Or.inl rfl⟩, Or.inl rfl⟩ ?_ | refine jF_step rfl ⟨⟨lo_ent hi hg8, Or.inl rfl⟩, Or.inr rfl⟩ ?_)
        · rw [if_neg h3, if_neg (fun z => z.2.elim h2 h3)]
          refine tC_fill1 hc hi hg8 (by omega) en (fun w => ?_)
          repeat (first | exact k2 _ _ | refine jF_step rfl trivial ?_ | refine jF_step rfl rfl ?_ | refine jF_step rfl ⟨lo_ent hi hg8, Or.inl rfl⟩ ?_ | refine jF_step rfl ⟨⟨lo_ent hi hg8, Or.inl rfl⟩, Or.inl rfl⟩ ?_ | refine jF_step rfl ⟨⟨lo_ent hi hg8, Or.inl rfl⟩, Or.inr rfl⟩ ?_)
    · rw [if_neg h1, if_neg (fun z => h1 z.1)]
      refine tC_fill1 hc hi hg8 (by omega) en (fun w => ?_)
      repeat (first | exact k2 _ _ | refine jF_step rfl trivial ?_ | refine jF_step rfl rfl ?_ | refine jF_step rfl ⟨lo_ent hi hg8, Or.inl rfl⟩ ?_ | refine jF_step rfl ⟨⟨lo_ent hi hg8, Or.inl rfl⟩, Or.inl rfl⟩ ?_ | refine jF_step rfl ⟨⟨lo_ent hi hg8, Or.inl rfl⟩, Or.inr rfl⟩ ?_)
theorem tC_fill {c i : Nat} {full : Int32} (hc : c < 16) (hi : i < 8) : jm_F (d, 70, 0, jm_en 70 [.ref (102 + 4 * c), .int (nI i), .ref (7 + 12 * i), .int full], [], false, jS L I G t) (.inl none) (jS L (nFill c i full 8 0 0 (jm_up (jm_up I (102 + 4 * c) 3 (nI i)) (102 + 4 * c) 4 0)) G t) := by
  have h := fun w x => tC_fill0 (L := L) (t := t) (d := d) (G := G) (b := nI i) (full := full) hc hi 8 0 0 (jm_up (jm_up I (102 + 4 * c) 3 (nI i)) (102 + 4 * c) 4 0) w x rfl (Nat.le_refl _) up_s
  repeat (first | exact h _ _ | refine jF_step rfl trivial ?_ | refine jF_step rfl rfl ?_ | refine jF_step rfl (lo_cast hc) ?_)
/-- a boat casts: the number of the cast is k -/
def nCast (i k : Nat) (full : Int32) (I : jHp) : jHp := nFill (k % 16) i full 8 0 0 (jm_up (jm_up (jm_up (if full = 0 then I else eRenew (10 + 12 * i + i) I) 2 3 (nI (k + 1))) (102 + 4 * (k % 16)) 3 (nI i)) (102 + 4 * (k % 16)) 4 0)
theorem cN_cast1 {i k : Nat} {full : Int32} {w : Bool} {x : Option Value} (hi : i < 8) (hk : k < 2 ^ 30) (ek : I 2 3 = nI k) : jm_F (d + 2, 4, 27, [some (.ref 2), some (.int (nI i)), some (.int full), x], [], w, jS L I G t) (.inl (some (.int (nI k)))) (jS L (nFill (k % 16) i full 8 0 0 (jm_up (jm_up (jm_up I 2 3 (nI (k + 1))) (102 + 4 * (k % 16)) 3 (nI i)) (102 + 4 * (k % 16)) 4 0)) G t) := by
  have hm : k % 16 < 16 := Nat.mod_lt _ (by decide)
  repeat (first | refine jF_step rfl trivial ?_ | refine jF_step rfl rfl ?_ | refine jF_step rfl lo_net ?_ | refine jF_step rfl ⟨lo_net, Or.inl rfl⟩ ?_ | refine jF_step rfl ⟨lo_net, Or.inr rfl⟩ ?_)
  simp only [jS, jm_sI, ek, nI_1]
  refine jF_callE rfl ⟨Nat.le_of_ble_eq_true rfl, lo_net⟩ (tN_kept hk) ?_
  repeat (first | refine jF_step rfl trivial ?_ | refine jF_step rfl rfl ?_ | refine jF_step rfl lo_net ?_ | refine jF_step rfl ⟨lo_net, Or.inl rfl⟩ ?_ | refine jF_step rfl ⟨lo_net, Or.inr rfl⟩ ?_ | refine jF_step rfl (la_boats hi) ?_)
  simp only [jS, jm_aft, jm_en, lrb hi]
  repeat (first | refine jF_step rfl trivial ?_ | refine jF_step rfl rfl ?_ | refine jF_step rfl (lo_boat hi) ?_)
  simp only [lr_boat hi (show 1 ≤ 1 ∧ 1 < 4 by omega), show 6 + 1 + 12 * i = 7 + 12 * i by omega]
  refine jF_call rfl ⟨Nat.le_of_ble_eq_true rfl, lo_cast hm⟩ (tC_fill hm hi) (fun w => ?_)
  repeat (first | refine jF_step rfl trivial ?_ | refine jF_step rfl rfl ?_)
  exact jF_ret rfl trivial
theorem cN_cast {i k : Nat} {full : Int32} (hi : i < 8) (hk : k < 2 ^ 30) (ek : I 2 3 = nI k) (ho : ¬ I (6 + 12 * i) 6 = 0) : jm_F (d + 2, 4, 0, jm_en 4 [.ref 2, .int (nI i), .int full], [], false, jS L I G t) (.inl (some (.int (nI k)))) (jS L (nCast i k full I) G t) := by
  unfold nCast
  repeat (first | refine jF_step rfl trivial ?_ | refine jF_step rfl rfl ?_)
  refine jF_callE rfl ⟨Nat.le_of_ble_eq_true rfl, Nat.le_of_ble_eq_true rfl⟩ (tN_boat hi) ?_
  repeat (first | refine jF_step rfl trivial ?_ | refine jF_step rfl rfl ?_)
  refine jF_callE rfl ⟨Nat.le_of_ble_eq_true rfl, lo_net⟩ (tN_on hi ho) ?_
  repeat (first | refine jF_step rfl trivial ?_ | refine jF_step rfl rfl ?_)
  by_cases h : full = 0
  · rw [if_pos h, if_pos h]
    exact cN_cast1 hi hk ek
  · rw [if_neg h, if_neg h]
    repeat (first | refine jF_step rfl trivial ?_ | refine jF_step rfl rfl ?_ | refine jF_step rfl lo_net ?_ | refine jF_step rfl ⟨lo_net, Or.inl rfl⟩ ?_ | refine jF_step rfl ⟨lo_net, Or.inr rfl⟩ ?_ | refine jF_step rfl (la_boats hi) ?_)
    simp only [jS, jm_aft, jm_en, lrb hi]
    repeat (first | refine jF_step rfl trivial ?_ | refine jF_step rfl rfl ?_ | refine jF_step rfl (lo_boat hi) ?_ | refine jF_step rfl (la_ents' hi hi) ?_)
    simp only [lre hi hi]
    refine jF_callE rfl ⟨Nat.le_of_ble_eq_true rfl, lo_ent hi hi⟩ (tE_renew (lo_ent hi hi)) ?_
    refine cN_cast1 hi hk ?_
    show eRenew (10 + 12 * i + i) I 2 3 = nI k
    unfold eRenew eShow
    rw [up_k (by omega), up_k (by omega), up_k (by omega), up_k (by omega), up_k (by omega), ek]
theorem cN_castX {x y : Int32} (hx : x < 0 ∨ ¬ x < 8) (hd : 6 ≤ d) : jm_F (d + 1, 4, 0, jm_en 4 [.ref 2, .int x, .int y], [], false, jS L I G t) (.inr 0) (jS L I G (t + 1)) := by
  repeat (first | refine jF_step rfl trivial ?_ | refine jF_step rfl rfl ?_)
  exact jF_thr rfl ⟨Nat.le_of_ble_eq_true rfl, Nat.le_of_ble_eq_true rfl⟩ (tN_boatX hx hd).F rfl rfl rfl
theorem cN_castY {i : Nat} {y : Int32} (hi : i < 8) (ho : I (6 + 12 * i) 6 = 0) (hd : 6 ≤ d) : jm_F (d + 1, 4, 0, jm_en 4 [.ref 2, .int (nI i), .int y], [], false, jS L I G t) (.inr 1) (jS L I G (t + 1)) := by
  repeat (first | refine jF_step rfl trivial ?_ | refine jF_step rfl rfl ?_)
  refine jF_callE rfl ⟨Nat.le_of_ble_eq_true rfl, Nat.le_of_ble_eq_true rfl⟩ (tN_boat hi) ?_
  repeat (first | refine jF_step rfl trivial ?_ | refine jF_step rfl rfl ?_)
  exact jF_thr rfl ⟨Nat.le_of_ble_eq_true rfl, lo_net⟩ (tN_onX hi ho hd).F rfl rfl rfl
end
