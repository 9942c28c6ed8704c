def jt_flP (q : Nat × Nat × Nat × Nat × Nat) : Prop := (q.2.2.2.2 = 0 ∧ Cond.fieldLink (jt_cn q.1) q.2.1 (jt_F q.2.2.1 q.2.2.2.1).1 (jt_F q.2.2.1 q.2.2.2.1).2.1 (jt_F q.2.2.1 q.2.2.2.1).2.2.1 ∈ jt_tb) ∨ (q.2.2.2.2 = 1 ∧ Cond.fieldLinkNest (jt_cn q.1) q.2.1 (jt_F q.2.2.1 q.2.2.2.1).1 (jt_F q.2.2.1 q.2.2.2.1).2.1 (jt_F q.2.2.1 q.2.2.2.1).2.2.1 "DriftNet" ∈ jt_tb)
def jt_fl_0 : List (Nat × Nat × Nat × Nat × Nat) := [(0, 11, 0, 0, 0), (0, 17, 0, 1, 0), (0, 23, 0, 2, 0), (0, 27, 0, 3, 0), (0, 31, 0, 4, 0), (0, 34, 0, 5, 0), (0, 63, 1, 1, 0), (0, 106, 2, 0, 0), (0, 110, 2, 1, 0), (0, 113, 2, 2, 0), (0, 116, 2, 3, 0), (0, 130, 1, 6, 0), (0, 140, 4, 2, 0), (0, 143, 4, 1, 0), (0, 146, 4, 0, 0), (0, 149, 4, 4, 0)]
theorem jt_fl_0_ok : ∀ q ∈ jt_fl_0, jt_flP q := List.forall_mem_cons.mpr ⟨Or.inl ⟨rfl, dk_179⟩, List.forall_mem_cons.mpr ⟨Or.inl ⟨rfl, dk_180⟩, List.forall_mem_cons.mpr ⟨Or.inl ⟨rfl, dk_181⟩, List.forall_mem_cons.mpr ⟨Or.inl ⟨rfl, dk_182⟩, List.forall_mem_cons.mpr ⟨Or.inl ⟨rfl, dk_183⟩, List.forall_mem_cons.mpr ⟨Or.inl ⟨rfl, dk_184⟩, List.forall_mem_cons.mpr ⟨Or.inl ⟨rfl, dk_93⟩, List.forall_mem_cons.mpr ⟨Or.inl ⟨rfl, dk_125⟩, List.forall_mem_cons.mpr ⟨Or.inl ⟨rfl, dk_128⟩, List.forall_mem_cons.mpr ⟨Or.inl ⟨rfl, dk_131⟩, List.forall_mem_cons.mpr ⟨Or.inl ⟨rfl, dk_134⟩, List.forall_mem_cons.mpr ⟨Or.inl ⟨rfl, dk_102⟩, List.forall_mem_cons.mpr ⟨Or.inl ⟨rfl, dk_48⟩, List.forall_mem_cons.mpr ⟨Or.inl ⟨rfl, dk_45⟩, List.forall_mem_cons.mpr ⟨Or.inl ⟨rfl, dk_42⟩, List.forall_mem_cons.mpr ⟨Or.inl ⟨rfl, dk_54⟩, fun _ h => absurd h List.not_mem_nil⟩⟩⟩⟩⟩⟩⟩⟩⟩⟩⟩⟩⟩⟩⟩⟩
def jt_fl_1 : List (Nat × Nat × Nat × Nat × Nat) := [(0, 152, 4, 3, 0), (0, 155, 4, 6, 0), (0, 158, 4, 7, 0), (0, 189, 3, 2, 0), (0, 196, 3, 3, 0), (0, 199, 1, 0, 0), (0, 206, 3, 0, 0), (0, 209, 3, 4, 0), (0, 215, 1, 4, 0), (0, 220, 1, 3, 0), (0, 245, 3, 1, 0), (0, 254, 1, 5, 0), (5, 7, 5, 2, 0), (5, 13, 5, 3, 0), (5, 16, 5, 4, 0), (5, 20, 5, 5, 0)]
theorem jt_fl_1_ok : ∀ q ∈ jt_fl_1, jt_flP q := List.forall_mem_cons.mpr ⟨Or.inl ⟨rfl, dk_51⟩, List.forall_mem_cons.mpr ⟨Or.inl ⟨rfl, dk_57⟩, List.forall_mem_cons.mpr ⟨Or.inl ⟨rfl, dk_59⟩, List.forall_mem_cons.mpr ⟨Or.inl ⟨rfl, dk_157⟩, List.forall_mem_cons.mpr ⟨Or.inl ⟨rfl, dk_159⟩, List.forall_mem_cons.mpr ⟨Or.inl ⟨rfl, dk_91⟩, List.forall_mem_cons.mpr ⟨Or.inl ⟨rfl, dk_153⟩, List.forall_mem_cons.mpr ⟨Or.inl ⟨rfl, dk_161⟩, List.forall_mem_cons.mpr ⟨Or.inl ⟨rfl, dk_98⟩, List.forall_mem_cons.mpr ⟨Or.inl ⟨rfl, dk_96⟩, List.forall_mem_cons.mpr ⟨Or.inl ⟨rfl, dk_155⟩, List.forall_mem_cons.mpr ⟨Or.inl ⟨rfl, dk_100⟩, List.forall_mem_cons.mpr ⟨Or.inl ⟨rfl, dk_576⟩, List.forall_mem_cons.mpr ⟨Or.inl ⟨rfl, dk_577⟩, List.forall_mem_cons.mpr ⟨Or.inl ⟨rfl, dk_578⟩, List.forall_mem_cons.mpr ⟨Or.inl ⟨rfl, dk_579⟩, fun _ h => absurd h List.not_mem_nil⟩⟩⟩⟩⟩⟩⟩⟩⟩⟩⟩⟩⟩⟩⟩⟩
def jt_fl_2 : List (Nat × Nat × Nat × Nat × Nat) := [(5, 23, 5, 6, 0), (5, 26, 5, 7, 0), (5, 29, 5, 8, 0), (5, 32, 5, 9, 0), (5, 35, 5, 10, 0), (5, 38, 5, 11, 0), (5, 41, 5, 12, 0), (5, 44, 5, 13, 0), (5, 47, 5, 15, 0), (5, 50, 5, 16, 0), (5, 53, 5, 17, 0), (5, 56, 5, 18, 0), (5, 59, 5, 19, 0), (5, 62, 5, 21, 0), (5, 65, 5, 22, 0), (5, 68, 5, 23, 0)]
theorem jt_fl_2_ok : ∀ q ∈ jt_fl_2, jt_flP q := List.forall_mem_cons.mpr ⟨Or.inl ⟨rfl, dk_580⟩, List.forall_mem_cons.mpr ⟨Or.inl ⟨rfl, dk_581⟩, List.forall_mem_cons.mpr ⟨Or.inl ⟨rfl, dk_582⟩, List.forall_mem_cons.mpr ⟨Or.inl ⟨rfl, dk_583⟩, List.forall_mem_cons.mpr ⟨Or.inl ⟨rfl, dk_584⟩, List.forall_mem_cons.mpr ⟨Or.inl ⟨rfl, dk_585⟩, List.forall_mem_cons.mpr ⟨Or.inl ⟨rfl, dk_586⟩, List.forall_mem_cons.mpr ⟨Or.inl ⟨rfl, dk_587⟩, List.forall_mem_cons.mpr ⟨Or.inl ⟨rfl, dk_589⟩, List.forall_mem_cons.mpr ⟨Or.inl ⟨rfl, dk_590⟩, List.forall_mem_cons.mpr ⟨Or.inl ⟨rfl, dk_591⟩, List.forall_mem_cons.mpr ⟨Or.inl ⟨rfl, dk_592⟩, List.forall_mem_cons.mpr ⟨Or.inl ⟨rfl, dk_593⟩, List.forall_mem_cons.mpr ⟨Or.inl ⟨rfl, dk_595⟩, List.forall_mem_cons.mpr ⟨Or.inl ⟨rfl, dk_596⟩, List.forall_mem_cons.mpr ⟨Or.inl ⟨rfl, dk_597⟩, fun _ h => absurd h List.not_mem_nil⟩⟩⟩⟩⟩⟩⟩⟩⟩⟩⟩⟩⟩⟩⟩⟩
def jt_fl_3 : List (Nat × Nat × Nat × Nat × Nat) := [(5, 71, 5, 24, 0), (5, 74, 5, 25, 0), (5, 77, 5, 26, 0), (5, 80, 5, 27, 0), (5, 83, 5, 28, 0), (5, 86, 5, 29, 0), (5, 89, 5, 0, 0), (5, 101, 5, 14, 0), (5, 115, 5, 1, 0), (5, 129, 5, 20, 0), (1, 11, 1, 1, 0), (1, 17, 1, 2, 0), (1, 21, 1, 3, 0), (1, 24, 1, 4, 0), (1, 28, 1, 5, 0), (1, 31, 1, 6, 0)]
theorem jt_fl_3_ok : ∀ q ∈ jt_fl_3, jt_flP q := List.forall_mem_cons.mpr ⟨Or.inl ⟨rfl, dk_598⟩, List.forall_mem_cons.mpr ⟨Or.inl ⟨rfl, dk_599⟩, List.forall_mem_cons.mpr ⟨Or.inl ⟨rfl, dk_600⟩, List.forall_mem_cons.mpr ⟨Or.inl ⟨rfl, dk_601⟩, List.forall_mem_cons.mpr ⟨Or.inl ⟨rfl, dk_602⟩, List.forall_mem_cons.mpr ⟨Or.inl ⟨rfl, dk_603⟩, List.forall_mem_cons.mpr ⟨Or.inl ⟨rfl, dk_574⟩, List.forall_mem_cons.mpr ⟨Or.inl ⟨rfl, dk_588⟩, List.forall_mem_cons.mpr ⟨Or.inl ⟨rfl, dk_575⟩, List.forall_mem_cons.mpr ⟨Or.inl ⟨rfl, dk_594⟩, List.forall_mem_cons.mpr ⟨Or.inl ⟨rfl, dk_92⟩, List.forall_mem_cons.mpr ⟨Or.inl ⟨rfl, dk_94⟩, List.forall_mem_cons.mpr ⟨Or.inl ⟨rfl, dk_95⟩, List.forall_mem_cons.mpr ⟨Or.inl ⟨rfl, dk_97⟩, List.forall_mem_cons.mpr ⟨Or.inl ⟨rfl, dk_99⟩, List.forall_mem_cons.mpr ⟨Or.inl ⟨rfl, dk_101⟩, fun _ h => absurd h List.not_mem_nil⟩⟩⟩⟩⟩⟩⟩⟩⟩⟩⟩⟩⟩⟩⟩⟩
def jt_fl_4 : List (Nat × Nat × Nat × Nat × Nat) := [(1, 35, 1, 0, 0), (1, 43, 2, 3, 0), (1, 52, 2, 0, 0), (1, 55, 2, 1, 0), (1, 58, 2, 2, 0), (1, 76, 4, 2, 0), (2, 9, 2, 0, 0), (2, 15, 2, 1, 0), (2, 18, 2, 2, 0), (2, 21, 2, 3, 0), (2, 25, 2, 4, 0), (2, 28, 4, 8, 0), (2, 34, 4, 3, 0), (2, 37, 4, 4, 0), (4, 9, 4, 0, 0), (4, 15, 4, 1, 0)]
theorem jt_fl_4_ok : ∀ q ∈ jt_fl_4, jt_flP q := List.forall_mem_cons.mpr ⟨Or.inl ⟨rfl, dk_90⟩, List.forall_mem_cons.mpr ⟨Or.inl ⟨rfl, dk_133⟩, List.forall_mem_cons.mpr ⟨Or.inl ⟨rfl, dk_124⟩, List.forall_mem_cons.mpr ⟨Or.inl ⟨rfl, dk_127⟩, List.forall_mem_cons.mpr ⟨Or.inl ⟨rfl, dk_130⟩, List.forall_mem_cons.mpr ⟨Or.inl ⟨rfl, dk_47⟩, List.forall_mem_cons.mpr ⟨Or.inl ⟨rfl, dk_123⟩, List.forall_mem_cons.mpr ⟨Or.inl ⟨rfl, dk_126⟩, List.forall_mem_cons.mpr ⟨Or.inl ⟨rfl, dk_129⟩, List.forall_mem_cons.mpr ⟨Or.inl ⟨rfl, dk_132⟩, List.forall_mem_cons.mpr ⟨Or.inl ⟨rfl, dk_135⟩, List.forall_mem_cons.mpr ⟨Or.inl ⟨rfl, dk_61⟩, List.forall_mem_cons.mpr ⟨Or.inl ⟨rfl, dk_50⟩, List.forall_mem_cons.mpr ⟨Or.inl ⟨rfl, dk_53⟩, List.forall_mem_cons.mpr ⟨Or.inl ⟨rfl, dk_40⟩, List.forall_mem_cons.mpr ⟨Or.inl ⟨rfl, dk_43⟩, fun _ h => absurd h List.not_mem_nil⟩⟩⟩⟩⟩⟩⟩⟩⟩⟩⟩⟩⟩⟩⟩⟩
def jt_fl_5 : List (Nat × Nat × Nat × Nat × Nat) := [(4, 18, 4, 2, 0), (4, 21, 4, 3, 0), (4, 24, 4, 4, 0), (4, 27, 4, 5, 0), (4, 30, 4, 6, 0), (4, 33, 4, 7, 0), (4, 37, 4, 8, 0), (3, 9, 3, 0, 0), (3, 15, 3, 1, 0), (3, 19, 3, 2, 0), (3, 22, 3, 3, 0), (3, 25, 3, 4, 0), (3, 28, 3, 5, 0), (3, 31, 3, 6, 0), (3, 34, 4, 1, 0), (3, 39, 4, 0, 0)]
theorem jt_fl_5_ok : ∀ q ∈ jt_fl_5, jt_flP q := List.forall_mem_cons.mpr ⟨Or.inl ⟨rfl, dk_46⟩, List.forall_mem_cons.mpr ⟨Or.inl ⟨rfl, dk_49⟩, List.forall_mem_cons.mpr ⟨Or.inl ⟨rfl, dk_52⟩, List.forall_mem_cons.mpr ⟨Or.inl ⟨rfl, dk_55⟩, List.forall_mem_cons.mpr ⟨Or.inl ⟨rfl, dk_56⟩, List.forall_mem_cons.mpr ⟨Or.inl ⟨rfl, dk_58⟩, List.forall_mem_cons.mpr ⟨Or.inl ⟨rfl, dk_60⟩, List.forall_mem_cons.mpr ⟨Or.inl ⟨rfl, dk_152⟩, List.forall_mem_cons.mpr ⟨Or.inl ⟨rfl, dk_154⟩, List.forall_mem_cons.mpr ⟨Or.inl ⟨rfl, dk_156⟩, List.forall_mem_cons.mpr ⟨Or.inl ⟨rfl, dk_158⟩, List.forall_mem_cons.mpr ⟨Or.inl ⟨rfl, dk_160⟩, List.forall_mem_cons.mpr ⟨Or.inl ⟨rfl, dk_162⟩, List.forall_mem_cons.mpr ⟨Or.inl ⟨rfl, dk_163⟩, List.forall_mem_cons.mpr ⟨Or.inl ⟨rfl, dk_44⟩, List.forall_mem_cons.mpr ⟨Or.inl ⟨rfl, dk_41⟩, fun _ h => absurd h List.not_mem_nil⟩⟩⟩⟩⟩⟩⟩⟩⟩⟩⟩⟩⟩⟩⟩⟩
def jt_fl : List (Nat × Nat × Nat × Nat × Nat) := jt_fl_0 ++ jt_fl_1 ++ jt_fl_2 ++ jt_fl_3 ++ jt_fl_4 ++ jt_fl_5
theorem jt_fl_ok : ∀ q ∈ jt_fl, jt_flP q := List.forall_mem_append.mpr ⟨List.forall_mem_append.mpr ⟨List.forall_mem_append.mpr ⟨List.forall_mem_append.mpr ⟨List.forall_mem_append.mpr ⟨jt_fl_0_ok, jt_fl_1_ok⟩, jt_fl_2_ok⟩, jt_fl_3_ok⟩, jt_fl_4_ok⟩, jt_fl_5_ok⟩
def jt_fk (oc idx a b : Nat) (tl : List Nat) : Bool := decide (a < 6) && decide (b < jt_N a) && tl == jt_tt a b && (decide ((oc, idx, a, b, 0) ∈ jt_fl) || decide ((oc, idx, a, b, 1) ∈ jt_fl))
theorem jt_f0 {oc idx a b : Nat} (h : (oc, idx, a, b, 0) ∈ jt_fl) : Cond.fieldLink (jt_cn oc) idx (jt_F a b).1 (jt_F a b).2.1 (jt_F a b).2.2.1 ∈ jt_tb := by
  rcases jt_fl_ok _ h with h | h
  · exact h.2
  · exact absurd (show (0 : Nat) = 1 from h.1) (by decide)
theorem jt_f1 {oc idx a b : Nat} (h : (oc, idx, a, b, 1) ∈ jt_fl) : Cond.fieldLinkNest (jt_cn oc) idx (jt_F a b).1 (jt_F a b).2.1 (jt_F a b).2.2.1 "DriftNet" ∈ jt_tb := by
  rcases jt_fl_ok _ h with h | h
  · exact absurd (show (1 : Nat) = 0 from h.1) (by decide)
  · exact h.2
theorem jt_fa {oc idx a b : Nat} {tl : List Nat} (h : jt_fk oc idx a b tl = true) : a < 6 ∧ b < jt_N a ∧ tl = jt_tt a b ∧ (Cond.fieldLink (jt_cn oc) idx (jt_F a b).1 (jt_F a b).2.1 (jt_F a b).2.2.1 ∈ jt_tb ∨ Cond.fieldLinkNest (jt_cn oc) idx (jt_F a b).1 (jt_F a b).2.1 (jt_F a b).2.2.1 "DriftNet" ∈ jt_tb) := by
  simp only [jt_fk, Bool.and_eq_true, Bool.or_eq_true, decide_eq_true_eq, beq_iff_eq] at h
  obtain ⟨⟨⟨h1, h2⟩, h3⟩, h4⟩ := h
  exact ⟨h1, h2, h3, h4.elim (fun z => Or.inl (jt_f0 z)) (fun z => Or.inr (jt_f1 z))⟩
def jt_nwP (q : Nat × Nat × Nat × Nat) : Prop := q.2.2.1 < 6 ∧ q.2.2.2 = jt_N q.2.2.1 ∧ Cond.classLink (jt_cn q.1) q.2.1 (jt_R q.2.2.1) ∈ jt_tb ∧ Cond.instantiable (jt_R q.2.2.1) (jt_N q.2.2.1) ∈ jt_tb ∧ Cond.initialized (jt_R q.2.2.1) ∈ jt_tb
def jt_nw_0 : List (Nat × Nat × Nat × Nat) := [(0, 9, 1, 7), (0, 15, 2, 5), (0, 21, 3, 7), (1, 9, 4, 9), (6, 8, 0, 6), (6, 70, 5, 30)]
theorem jt_nw_0_ok : ∀ q ∈ jt_nw_0, jt_nwP q := List.forall_mem_cons.mpr ⟨⟨by decide, rfl, dk_22, dk_28, dk_2⟩, List.forall_mem_cons.mpr ⟨⟨by decide, rfl, dk_24, dk_118, dk_4⟩, List.forall_mem_cons.mpr ⟨⟨by decide, rfl, dk_26, dk_147, dk_5⟩, List.forall_mem_cons.mpr ⟨⟨by decide, rfl, dk_33, dk_35, dk_3⟩, List.forall_mem_cons.mpr ⟨⟨by decide, rfl, dk_14, dk_15, dk_1⟩, List.forall_mem_cons.mpr ⟨⟨by decide, rfl, dk_568, dk_569, dk_6⟩, fun _ h => absurd h List.not_mem_nil⟩⟩⟩⟩⟩⟩
def jt_nw : List (Nat × Nat × Nat × Nat) := jt_nw_0
theorem jt_nw_ok : ∀ q ∈ jt_nw, jt_nwP q := jt_nw_0_ok
def jt_nk (oc idx a b : Nat) : Bool := decide ((oc, idx, a, b) ∈ jt_nw)
theorem jt_na {oc idx a b : Nat} (h : jt_nk oc idx a b = true) : a < 6 ∧ b = jt_N a ∧ Cond.classLink (jt_cn oc) idx (jt_R a) ∈ jt_tb ∧ Cond.instantiable (jt_R a) (jt_N a) ∈ jt_tb ∧ Cond.initialized (jt_R a) ∈ jt_tb := jt_nw_ok _ (of_decide_eq_true h)
def jt_anP (q : Nat × Nat × Nat) : Prop := 13 ≤ q.2.2 ∧ q.2.2 < 17 ∧ Cond.classLink (jt_cn q.1) q.2.1 (jt_R (q.2.2 - 12)) ∈ jt_tb ∧ Cond.arrayOver (.object (jt_R (q.2.2 - 12))) ∈ jt_tb
def jt_an_0 : List (Nat × Nat × Nat) := [(0, 9, 13), (0, 15, 14), (0, 21, 15), (1, 9, 16)]
theorem jt_an_0_ok : ∀ q ∈ jt_an_0, jt_anP q := List.forall_mem_cons.mpr ⟨⟨by decide, by decide, dk_22, dk_23⟩, List.forall_mem_cons.mpr ⟨⟨by decide, by decide, dk_24, dk_25⟩, List.forall_mem_cons.mpr ⟨⟨by decide, by decide, dk_26, dk_27⟩, List.forall_mem_cons.mpr ⟨⟨by decide, by decide, dk_33, dk_34⟩, fun _ h => absurd h List.not_mem_nil⟩⟩⟩⟩
def jt_an : List (Nat × Nat × Nat) := jt_an_0
theorem jt_an_ok : ∀ q ∈ jt_an, jt_anP q := jt_an_0_ok
def jt_ak (oc idx a : Nat) : Bool := decide ((oc, idx, a) ∈ jt_an)
theorem jt_aa {oc idx a : Nat} (h : jt_ak oc idx a = true) : 13 ≤ a ∧ a < 17 ∧ Cond.classLink (jt_cn oc) idx (jt_R (a - 12)) ∈ jt_tb ∧ Cond.arrayOver (.object (jt_R (a - 12))) ∈ jt_tb := jt_an_ok _ (of_decide_eq_true h)
theorem jt_cA {D : va_G} {dA : Nat → ClassId} {s : State} {cA : ClassId} {ty : FieldType} {k : Nat} (hk : (jt_ty dA)[k - 10]? = some (dA k, ty)) (h1 : va_K D jt_cl (jt_ty dA) s) (h2 : va_K D jt_cl (jt_ty dA ++ [(cA, ty)]) s) : cA = dA k := by
  have g1 := (h1.2 _ _ hk).2
  have g2 := (h2.2 7 (cA, ty) rfl).2
  cases ty with
  | object C =>
    obtain ⟨_, _, -, -, -, f1⟩ := g1
    obtain ⟨_, _, -, -, -, f2⟩ := g2
    exact Option.some.inj (f2.symm.trans f1)
  | _ => exact Option.some.inj ((show s.vm.findClass _ = some cA from g2).symm.trans (show s.vm.findClass _ = some (dA k) from g1))
theorem jt_w10 : Cond.arrayClass .int ∈ jt_tb := dk_81
theorem jt_w11 : Cond.arrayClass .boolean ∈ jt_tb := dk_665
theorem jt_w12 : Cond.arrayClass .long ∈ jt_tb := dk_773
def jt_rk (a : Nat) : ArrayType → Bool
  | .int => a == 10
  | .boolean => a == 11
  | .long => a == 12
  | _ => false
def jt_obP (q : Nat × Nat) : Prop := Cond.methodLink (jt_cn q.1) q.2 Lib.objectInit ∈ jt_tb
def jt_ob_0 : List (Nat × Nat) := [(0, 1), (5, 1), (1, 3), (2, 3), (4, 3), (3, 3)]
theorem jt_ob_0_ok : ∀ q ∈ jt_ob_0, jt_obP q := List.forall_mem_cons.mpr ⟨dk_19, List.forall_mem_cons.mpr ⟨dk_573, List.forall_mem_cons.mpr ⟨dk_32, List.forall_mem_cons.mpr ⟨dk_122, List.forall_mem_cons.mpr ⟨dk_39, List.forall_mem_cons.mpr ⟨dk_151, fun _ h => absurd h List.not_mem_nil⟩⟩⟩⟩⟩⟩
def jt_ob : List (Nat × Nat) := jt_ob_0
theorem jt_ob_ok : ∀ q ∈ jt_ob, jt_obP q := jt_ob_0_ok
def jt_ok (oc idx : Nat) : Bool := decide ((oc, idx) ∈ jt_ob)
theorem jt_oi : Cond.instanceMethod Lib.objectInit ∈ jt_tb := dk_20
theorem jt_oc0 : Cond.code Lib.objectInit ⟨#[0xb1]⟩ 1 none ∈ jt_tb := dk_21
