/-! runs of the small machine: circle and best -/
def nCircF (I : jHp) (g s : Nat) : Nat → Nat → Nat → Int32
  | 0, _, _ => 0
  | r + 1, k, a => if I (10 + 12 * a + g) 2 = -1 then 0 else if I (10 + 12 * a + g) 2 = nI g then 0 else if I (10 + 12 * a + g) 2 = nI s then nI k else nCircF I g s r (k + 1) (I (10 + 12 * a + g) 2).toNatClampNeg
def nCircle (I : jHp) (g : Nat) : Nat → Nat → Int32
  | 0, _ => 0
  | r + 1, i => if i = g then nCircle I g r (i + 1) else if nCircF I g i 8 1 i ≤ 0 then nCircle I g r (i + 1) else nCircF I g i 8 1 i
def nFur (I : jHp) (x : Int32) : Nat → Nat → Int32 → Int32
  | 0, _, f => f
  | r + 1, i, f => nFur I x r (i + 1) (if I (6 + 12 * i) 6 = 0 then f else if I (6 + 12 * i) 5 &&& x = 0 then f else f ||| 1 <<< (nI i &&& 31))
def nBestF (I : jHp) (b : Nat) : Nat → Nat → Int32 → Int32
  | 0, _, _ => -1
  | r + 1, k, x => if x &&& 1 <<< (nI b &&& 31) = 0 then nBestF I b r (k + 1) (nFur I x 8 0 x) else nI k
def nBest (I : jHp) (a b : Nat) : Int32 := if I (6 + 12 * a) 6 = 0 then -1 else if I (6 + 12 * b) 6 = 0 then -1 else nBestF I b 8 0 (1 <<< (nI a &&& 31))
section
variable {L t d : Nat} {I : jHp} {G : Nat → Nat → Int64}
theorem tN_from0 {g s : Nat} (hg : g < 8) (hN : ∀ i, i < 8 → I (10 + 12 * i + g) 2 = -1 ∨ ∃ n, n < 8 ∧ I (10 + 12 * i + g) 2 = nI n) : ∀ r k a, k + r = 9 → a < 8 → jm_E (d, 30, 5, [some (.ref 2), some (.int (nI s)), some (.int (nI g)), some (.int (nI a)), some (.int (nI k))], [], false, jS L I G t) (.inl (some (.int (nCircF I g s r k a))), jS L I G t, false) := by
  intro r
  induction r with
  | zero =>
    intro k a hk ha
    have : k = 9 := by omega
    subst this
    repeat (first | refine jE_step rfl trivial ?_ | refine jE_step rfl rfl ?_)
    exact jE_ret rfl trivial
  | succ r ih =>
    intro k a hk ha
    rw [nCircF]
    repeat (first | refine jE_step rfl trivial ?_ | refine jE_step rfl rfl ?_)
    rw [if_neg (show ¬ (8 : Int32) < nI k from fun z => absurd (nI_le (b := 8) (a := k) (by omega) (by decide)) (Int32.not_le.mpr z))]
    repeat (first | refine jE_step rfl trivial ?_ | refine jE_step rfl rfl ?_ | refine jE_step rfl lo_net ?_ | refine jE_step rfl ⟨lo_net, Or.inl rfl⟩ ?_ | refine jE_step rfl ⟨lo_net, Or.inr rfl⟩ ?_ | refine jE_step rfl (la_boats ha) ?_)
    simp only [jS, lrb ha]
    repeat (first | refine jE_step rfl trivial ?_ | refine jE_step rfl rfl ?_ | refine jE_step rfl (lo_boat ha) ?_ | refine jE_step rfl (la_ents' ha hg) ?_)
    simp only [jS, lre ha hg]
    repeat (first | refine jE_step rfl trivial ?_ | refine jE_step rfl rfl ?_ | refine jE_step rfl (lo_ent ha hg) ?_)
    rcases hN a ha with h | ⟨n, hn, h⟩
    · simp only [h]
      repeat (first | refine jE_step rfl trivial ?_ | refine jE_step rfl rfl ?_)
      exact jE_ret rfl trivial
    · have k1 := ih (k + 1) n (by omega) hn
      simp only [← nI_1 (a := k)] at k1
      simp only [h, nc8 (show n < 1000 by omega)]
      rw [if_neg (nIm1 (show n < 1000 by omega)), if_neg (nIm1 (show n < 1000 by omega))]
      repeat (first | refine jE_step rfl trivial ?_ | refine jE_step rfl rfl ?_)
      by_cases h1 : nI n = nI g
      · rw [if_pos h1, if_pos h1]
        repeat (first | refine jE_step rfl trivial ?_ | refine jE_step rfl rfl ?_)
        exact jE_ret rfl trivial
      · rw [if_neg h1, if_neg h1]
        repeat (first | refine jE_step rfl trivial ?_ | refine jE_step rfl rfl ?_)
        by_cases h2 : nI n = nI s
        · rw [if_pos h2, if_pos h2]
          repeat (first | refine jE_step rfl trivial ?_ | refine jE_step rfl rfl ?_)
          exact jE_ret rfl trivial
        · rw [if_neg h2, if_neg h2]
          repeat (first | exact k1 | refine jE_step rfl trivial ?_ | refine jE_step rfl rfl ?_)
theorem tN_from {g s : Nat} (hg : g < 8) (hs : s < 8) (hN : ∀ i, i < 8 → I (10 + 12 * i + g) 2 = -1 ∨ ∃ n, n < 8 ∧ I (10 + 12 * i + g) 2 = nI n) : jm_E (d, 30, 0, jm_en 30 [.ref 2, .int (nI s), .int (nI g)], [], false, jS L I G t) (.inl (some (.int (nCircF I g s 8 1 s))), jS L I G t, false) := by
  have k1 := tN_from0 (L := L) (t := t) (d := d) (G := G) (s := s) hg hN 8 1 s rfl hs
  repeat (first | exact k1 | refine jE_step rfl trivial ?_ | refine jE_step rfl rfl ?_)
theorem cN_circ0 {g : Nat} (hg : g < 8) (hN : ∀ i, i < 8 → I (10 + 12 * i + g) 2 = -1 ∨ ∃ n, n < 8 ∧ I (10 + 12 * i + g) 2 = nI n) : ∀ r i (x : Option Value), i + r = 8 → jm_E (d + 1, 15, 6, [some (.ref 2), some (.int (nI g)), some (.int (nI i)), x], [], false, jS L I G t) (.inl (some (.int (nCircle I g r i))), jS L I G t, false) := by
  intro r
  induction r with
  | zero =>
    intro i x hi
    have : i = 8 := by omega
    subst this
    repeat (first | refine jE_step rfl trivial ?_ | refine jE_step rfl rfl ?_)
    exact jE_ret rfl trivial
  | succ r ih =>
    intro i x hi
    have hi8 : i < 8 := by omega
    have k1 := fun x => ih (i + 1) x (by omega)
    simp only [← nI_1 (a := i)] at k1
    rw [nCircle]
    repeat (first | refine jE_step rfl trivial ?_ | refine jE_step rfl rfl ?_)
    rw [if_neg (n8 hi8)]
    repeat (first | refine jE_step rfl trivial ?_ | refine jE_step rfl rfl ?_)
    by_cases h : i = g
    · rw [if_pos (congrArg nI h), if_pos h]
      repeat (first | exact k1 _ | refine jE_step rfl trivial ?_ | refine jE_step rfl rfl ?_)
    · rw [if_neg (fun z => h ((nI_eq (by omega) (by omega)).mp z)), if_neg h]
      repeat (first | refine jE_step rfl trivial ?_ | refine jE_step rfl rfl ?_)
      refine jE_call rfl ⟨Nat.le_of_ble_eq_true rfl, lo_net⟩ (tN_from hg hi8 hN) ?_
      generalize nCircF I g i 8 1 i = z
      repeat (first | refine jE_step rfl trivial ?_ | refine jE_step rfl rfl ?_)
      by_cases h1 : z ≤ 0
      · rw [if_pos h1, if_pos h1]
        repeat (first | exact k1 _ | refine jE_step rfl trivial ?_ | refine jE_step rfl rfl ?_)
      · rw [if_neg h1, if_neg h1]
        repeat (first | refine jE_step rfl trivial ?_ | refine jE_step rfl rfl ?_)
        exact jE_ret rfl trivial
theorem cN_circ {g : Nat} (hg : g < 8) (hN : ∀ i, i < 8 → I (10 + 12 * i + g) 2 = -1 ∨ ∃ n, n < 8 ∧ I (10 + 12 * i + g) 2 = nI n) : jm_F (d + 1, 15, 0, jm_en 15 [.ref 2, .int (nI g)], [], false, jS L I G t) (.inl (some (.int (nCircle I g 8 0)))) (jS L I G t) := by
  have k1 := (cN_circ0 (L := L) (t := t) (d := d) (G := G) hg hN 8 0 none rfl).F
  generalize nCircle I g 8 0 = res at k1 ⊢
  repeat (first | refine jF_step rfl trivial ?_ | refine jF_step rfl rfl ?_)
  refine jF_callE rfl ⟨Nat.le_of_ble_eq_true rfl, Nat.le_of_ble_eq_true rfl⟩ (tN_boat hg) ?_
  repeat (first | exact k1 | refine jF_step rfl trivial ?_ | refine jF_step rfl rfl ?_)
theorem cN_circX {x : Int32} (hx : x < 0 ∨ ¬ x < 8) (hd : 6 ≤ d) : jm_F (d + 1, 15, 0, jm_en 15 [.ref 2, .int x], [], false, jS L I G t) (.inr 0) (jS L I G (t + 1)) := by
  repeat (first | refine jF_step rfl trivial ?_ | refine jF_step rfl rfl ?_)
  exact jF_thr rfl ⟨Nat.le_of_ble_eq_true rfl, Nat.le_of_ble_eq_true rfl⟩ (tN_boatX hx hd).F rfl rfl rfl
theorem tN_fur0 {x : Int32} : ∀ r i (f : Int32), i + r = 8 → jm_E (d, 31, 4, [some (.ref 2), some (.int x), some (.int f), some (.int (nI i))], [], false, jS L I G t) (.inl (some (.int (nFur I x r i f))), jS L I G t, false) := by
  intro r
  induction r with
  | zero =>
    intro i f hi
    have : i = 8 := by omega
    subst this
    repeat (first | refine jE_step rfl trivial ?_ | refine jE_step rfl rfl ?_)
    exact jE_ret rfl trivial
  | succ r ih =>
    intro i f hi
    have hi8 : i < 8 := by omega
    have k1 := fun f => ih (i + 1) f (by omega)
    simp only [← nI_1 (a := i)] at k1
    rw [nFur]
    repeat (first | refine jE_step rfl trivial ?_ | refine jE_step rfl rfl ?_)
    rw [if_neg (n8 hi8)]
    repeat (first | refine jE_step rfl trivial ?_ | refine jE_step rfl rfl ?_ | refine jE_step rfl lo_net ?_ | refine jE_step rfl ⟨lo_net, Or.inl rfl⟩ ?_ | refine jE_step rfl ⟨lo_net, Or.inr rfl⟩ ?_ | refine jE_step rfl (la_boats hi8) ?_)
    simp only [jS, lrb hi8]
    repeat (first | refine jE_step rfl trivial ?_ | refine jE_step rfl rfl ?_ | refine jE_step rfl (lo_boat hi8) ?_)
    by_cases h : I (6 + 12 * i) 6 = 0
    · rw [if_pos h, if_pos h]
      repeat (first | exact k1 _ | refine jE_step rfl trivial ?_ | refine jE_step rfl rfl ?_)
    · rw [if_neg h, if_neg h]
      repeat (first | refine jE_step rfl trivial ?_ | refine jE_step rfl rfl ?_ | refine jE_step rfl lo_net ?_ | refine jE_step rfl ⟨lo_net, Or.inl rfl⟩ ?_ | refine jE_step rfl ⟨lo_net, Or.inr rfl⟩ ?_ | refine jE_step rfl (la_boats hi8) ?_)
      simp only [jS, lrb hi8]
      repeat (first | refine jE_step rfl trivial ?_ | refine jE_step rfl rfl ?_ | refine jE_step rfl (lo_boat hi8) ?_)
      by_cases h1 : I (6 + 12 * i) 5 &&& x = 0
      · rw [if_pos h1, if_pos h1]
        repeat (first | exact k1 _ | refine jE_step rfl trivial ?_ | refine jE_step rfl rfl ?_)
      · rw [if_neg h1, if_neg h1]
        repeat (first | exact k1 _ | refine jE_step rfl trivial ?_ | refine jE_step rfl rfl ?_)
theorem tN_fur {x : Int32} : jm_E (d, 31, 0, jm_en 31 [.ref 2, .int x], [], false, jS L I G t) (.inl (some (.int (nFur I x 8 0 x))), jS L I G t, false) := by
  have k1 := tN_fur0 (L := L) (t := t) (d := d) (I := I) (G := G) (x := x) 8 0 x rfl
  repeat (first | exact k1 | refine jE_step rfl trivial ?_ | refine jE_step rfl rfl ?_)
theorem cN_best0 {a b : Nat} : ∀ r k (x : Int32), k + r = 8 → jm_E (d + 1, 16, 41, [some (.ref 2), some (.int (nI a)), some (.int (nI b)), some (.int x), some (.int (nI k))], [], false, jS L I G t) (.inl (some (.int (nBestF I b r k x))), jS L I G t, false) := by
  intro r
  induction r with
  | zero =>
    intro i x hi
    have : i = 8 := by omega
    subst this
    repeat (first | refine jE_step rfl trivial ?_ | refine jE_step rfl rfl ?_)
    exact jE_ret rfl trivial
  | succ r ih =>
    intro k x hk
    have hk8 : k < 8 := by omega
    have k1 := fun x => ih (k + 1) x (by omega)
    simp only [← nI_1 (a := k)] at k1
    rw [nBestF]
    repeat (first | refine jE_step rfl trivial ?_ | refine jE_step rfl rfl ?_)
    rw [if_neg (n8 hk8)]
    repeat (first | refine jE_step rfl trivial ?_ | refine jE_step rfl rfl ?_)
    by_cases h : x &&& 1 <<< (nI b &&& 31) = 0
    · rw [if_pos h, if_pos h]
      repeat (first | refine jE_step rfl trivial ?_ | refine jE_step rfl rfl ?_)
      refine jE_call rfl ⟨Nat.le_of_ble_eq_true rfl, lo_net⟩ tN_fur ?_
      generalize nFur I x 8 0 x = y
      repeat (first | exact k1 _ | refine jE_step rfl trivial ?_ | refine jE_step rfl rfl ?_)
    · rw [if_neg h, if_neg h]
      repeat (first | refine jE_step rfl trivial ?_ | refine jE_step rfl rfl ?_)
      exact jE_ret rfl trivial
theorem cN_best {a b : Nat} (ha : a < 8) (hb : b < 8) : jm_F (d + 1, 16, 0, jm_en 16 [.ref 2, .int (nI a), .int (nI b)], [], false, jS L I G t) (.inl (some (.int (nBest I a b)))) (jS L I G t) := by
  have k1 := (cN_best0 (L := L) (t := t) (d := d) (I := I) (G := G) (a := a) (b := b) 8 0 (1 <<< (nI a &&& 31)) rfl).F
  unfold nBest
  generalize nBestF I b 8 0 (1 <<< (nI a &&& 31)) = res at k1 ⊢
  repeat (first | refine jF_step rfl trivial ?_ | refine jF_step rfl rfl ?_)
  refine jF_callE rfl ⟨Nat.le_of_ble_eq_true rfl, Nat.le_of_ble_eq_true rfl⟩ (tN_boat ha) ?_
  repeat (first | refine jF_step rfl trivial ?_ | refine jF_step rfl rfl ?_)
  refine jF_callE rfl ⟨Nat.le_of_ble_eq_true rfl, Nat.le_of_ble_eq_true rfl⟩ (tN_boat hb) ?_
  repeat (first | refine jF_step rfl trivial ?_ | refine jF_step rfl rfl ?_ | refine jF_step rfl lo_net ?_ | refine jF_step rfl ⟨lo_net, Or.inl rfl⟩ ?_ | refine jF_step rfl ⟨lo_net, Or.inr rfl⟩ ?_ | refine jF_step rfl (la_boats ha) ?_)
  simp only [jS, jm_aft, jm_en, lrb ha]
  repeat (first | refine jF_step rfl trivial ?_ | refine jF_step rfl rfl ?_ | refine jF_step rfl (lo_boat ha) ?_)
  by_cases h : I (6 + 12 * a) 6 = 0
  · rw [if_pos h, if_pos h]
    repeat (first | refine jF_step rfl trivial ?_ | refine jF_step rfl rfl ?_)
    exact jF_ret rfl trivial
  · rw [if_neg h, if_neg h]
    repeat (first | refine jF_step rfl trivial ?_ | refine jF_step rfl rfl ?_ | refine jF_step rfl lo_net ?_ | refine jF_step rfl ⟨lo_net, Or.inl rfl⟩ ?_ | refine jF_step rfl ⟨lo_net, Or.inr rfl⟩ ?_ | refine jF_step rfl (la_boats hb) ?_)
    simp only [jS, jm_aft, jm_en, lrb hb]
    repeat (first | refine jF_step rfl trivial ?_ | refine jF_step rfl rfl ?_ | refine jF_step rfl (lo_boat hb) ?_)
    by_cases h1 : I (6 + 12 * b) 6 = 0
    · rw [if_pos h1, if_pos h1]
      repeat (first | refine jF_step rfl trivial ?_ | refine jF_step rfl rfl ?_)
      exact jF_ret rfl trivial
    · rw [if_neg h1, if_neg h1]
      repeat (first | exact k1 | refine jF_step rfl trivial ?_ | refine jF_step rfl rfl ?_)
theorem cN_bestX {x y : Int32} (h : (x < 0 ∨ ¬ x < 8) ∨ (y < 0 ∨ ¬ y < 8)) (hd : 6 ≤ d) : jm_F (d + 1, 16, 0, jm_en 16 [.ref 2, .int x, .int y], [], false, jS L I G t) (.inr 0) (jS L I G (t + 1)) := by
  repeat (first | refine jF_step rfl trivial ?_ | refine jF_step rfl rfl ?_)
  by_cases hx : x < 0 ∨ ¬ x < 8
  · exact jF_thr rfl ⟨Nat.le_of_ble_eq_true rfl, Nat.le_of_ble_eq_true rfl⟩ (tN_boatX hx hd).F rfl rfl rfl
  · obtain ⟨i, hi, rfl⟩ := nb_of hx
    refine jF_callE rfl ⟨Nat.le_of_ble_eq_true rfl, Nat.le_of_ble_eq_true rfl⟩ (tN_boat hi) ?_
    repeat (first | refine jF_step rfl trivial ?_ | refine jF_step rfl rfl ?_)
    exact jF_thr rfl ⟨Nat.le_of_ble_eq_true rfl, Nat.le_of_ble_eq_true rfl⟩ (tN_boatX (h.elim (fun z => absurd z hx) id) hd).F rfl rfl rfl
end
