theorem jm_all_cut {α : Type} {l : List α} {f : α → Bool} {n m : Nat} (h1 : ((l.drop n).take m).all f = true) (h2 : (l.drop (n + m)).all f = true) : (l.drop n).all f = true := by
  rw [← List.take_append_drop m (l.drop n), List.all_append, h1, Bool.true_and, List.drop_drop]
  exact h2
theorem jg_101_e : (jc_101.drop 800).all (jm_gd 101) = true := by decide +kernel
theorem jg_101_u760 : (jc_101.drop 760).all (jm_gd 101) = true := jm_all_cut jg_101_760 jg_101_e
theorem jg_101_u720 : (jc_101.drop 720).all (jm_gd 101) = true := jm_all_cut jg_101_720 jg_101_u760
theorem jg_101_u680 : (jc_101.drop 680).all (jm_gd 101) = true := jm_all_cut jg_101_680 jg_101_u720
theorem jg_101_u640 : (jc_101.drop 640).all (jm_gd 101) = true := jm_all_cut jg_101_640 jg_101_u680
theorem jg_101_u600 : (jc_101.drop 600).all (jm_gd 101) = true := jm_all_cut jg_101_600 jg_101_u640
theorem jg_101_u560 : (jc_101.drop 560).all (jm_gd 101) = true := jm_all_cut jg_101_560 jg_101_u600
theorem jg_101_u520 : (jc_101.drop 520).all (jm_gd 101) = true := jm_all_cut jg_101_520 jg_101_u560
theorem jg_101_u480 : (jc_101.drop 480).all (jm_gd 101) = true := jm_all_cut jg_101_480 jg_101_u520
theorem jg_101_u440 : (jc_101.drop 440).all (jm_gd 101) = true := jm_all_cut jg_101_440 jg_101_u480
theorem jg_101_u400 : (jc_101.drop 400).all (jm_gd 101) = true := jm_all_cut jg_101_400 jg_101_u440
theorem jg_101_u360 : (jc_101.drop 360).all (jm_gd 101) = true := jm_all_cut jg_101_360 jg_101_u400
theorem jg_101_u320 : (jc_101.drop 320).all (jm_gd 101) = true := jm_all_cut jg_101_320 jg_101_u360
theorem jg_101_u280 : (jc_101.drop 280).all (jm_gd 101) = true := jm_all_cut jg_101_280 jg_101_u320
theorem jg_101_u240 : (jc_101.drop 240).all (jm_gd 101) = true := jm_all_cut jg_101_240 jg_101_u280
theorem jg_101_u200 : (jc_101.drop 200).all (jm_gd 101) = true := jm_all_cut jg_101_200 jg_101_u240
theorem jg_101_u160 : (jc_101.drop 160).all (jm_gd 101) = true := jm_all_cut jg_101_160 jg_101_u200
theorem jg_101_u120 : (jc_101.drop 120).all (jm_gd 101) = true := jm_all_cut jg_101_120 jg_101_u160
theorem jg_101_u80 : (jc_101.drop 80).all (jm_gd 101) = true := jm_all_cut jg_101_80 jg_101_u120
theorem jg_101_u40 : (jc_101.drop 40).all (jm_gd 101) = true := jm_all_cut jg_101_40 jg_101_u80
theorem jg_101_u0 : (jc_101.drop 0).all (jm_gd 101) = true := jm_all_cut jg_101_0 jg_101_u40
theorem jg_101 : jc_101.all (jm_gd 101) = true := jg_101_u0
theorem jg_all (mi : Nat) : (jt_code mi).all (jm_gd mi) = true := by
  match mi with
  | 0 => exact jg_0
  | 1 => exact jg_1
  | 2 => exact jg_2
  | 3 => exact jg_3
  | 4 => exact jg_4
  | 5 => exact jg_5
  | 6 => exact jg_6
  | 7 => exact jg_7
  | 8 => exact jg_8
  | 9 => exact jg_9
  | 10 => exact jg_10
  | 11 => exact jg_11
  | 12 => exact jg_12
  | 13 => exact jg_13
  | 14 => exact jg_14
  | 15 => exact jg_15
  | 16 => exact jg_16
  | 17 => exact jg_17
  | 18 => exact jg_18
  | 19 => exact jg_19
  | 20 => exact jg_20
  | 21 => exact jg_21
  | 22 => exact jg_22
  | 23 => exact jg_23
  | 24 => exact jg_24
  | 25 => exact jg_25
  | 26 => exact jg_26
  | 27 => exact jg_27
  | 28 => exact jg_28
  | 29 => exact jg_29
  | 30 => exact jg_30
  | 31 => exact jg_31
  | 32 => exact jg_32
  | 33 => exact jg_33
  | 34 => exact jg_34
  | 35 => exact jg_35
  | 36 => exact jg_36
  | 37 => exact jg_37
  | 38 => exact jg_38
  | 39 => exact jg_39
  | 40 => exact jg_40
  | 41 => exact jg_41
  | 42 => exact jg_42
  | 43 => exact jg_43
  | 44 => exact jg_44
  | 45 => exact jg_45
  | 46 => exact jg_46
  | 47 => exact jg_47
  | 48 => exact jg_48
  | 49 => exact jg_49
  | 50 => exact jg_50
  | 51 => exact jg_51
  | 52 => exact jg_52
  | 53 => exact jg_53
  | 54 => exact jg_54
  | 55 => exact jg_55
  | 56 => exact jg_56
  | 57 => exact jg_57
  | 58 => exact jg_58
  | 59 => exact jg_59
  | 60 => exact jg_60
  | 61 => exact jg_61
  | 62 => exact jg_62
  | 63 => exact jg_63
  | 64 => exact jg_64
  | 65 => exact jg_65
  | 66 => exact jg_66
  | 67 => exact jg_67
  | 68 => exact jg_68
  | 69 => exact jg_69
  | 70 => exact jg_70
  | 71 => exact jg_71
  | 72 => exact jg_72
  | 73 => exact jg_73
  | 74 => exact jg_74
  | 75 => exact jg_75
  | 76 => exact jg_76
  | 77 => exact jg_77
  | 78 => exact jg_78
  | 79 => exact jg_79
  | 80 => exact jg_80
  | 81 => exact jg_81
  | 82 => exact jg_82
  | 83 => exact jg_83
  | 84 => exact jg_84
  | 85 => exact jg_85
  | 86 => exact jg_86
  | 87 => exact jg_87
  | 88 => exact jg_88
  | 89 => exact jg_89
  | 90 => exact jg_90
  | 91 => exact jg_91
  | 92 => exact jg_92
  | 93 => exact jg_93
  | 94 => exact jg_94
  | 95 => exact jg_95
  | 96 => exact jg_96
  | 97 => exact jg_97
  | 98 => exact jg_98
  | 99 => exact jg_99
  | 100 => exact jg_100
  | 101 => exact jg_101
  | 102 => exact jg_102
  | 103 => exact jg_103
  | n + 104 =>
    unfold jt_code
    rw [List.getD_eq_getElem?_getD, List.getElem?_eq_none (by simp [jt_codes])]
    rfl
theorem jm_lk {β : Type} : ∀ {l : List (Nat × β)} {k : Nat} {v : β}, l.lookup k = some v → (k, v) ∈ l
  | [], k, v, h => by cases h
  | (a, b) :: t, k, v, h => by
    unfold List.lookup at h
    split at h
    · rename_i hk
      have : k = a := by simpa using hk
      subst this
      cases h
      exact List.mem_cons_self
    · exact List.mem_cons_of_mem _ (jm_lk h)
theorem jt_good {mi pc : Nat} {ins : Instr} {nx a b : Nat} {cv : Int32} {tl : List Nat} (h : jm_at mi pc = some (ins, nx, a, b, cv, tl)) : decode (jt_by mi) pc = .ok (ins, nx - pc) ∧ jm_gi mi pc nx a b cv tl ins = true := by
  have hm := List.all_eq_true.mp (jg_all mi) _ (jm_lk h)
  simp only [jm_gd, Bool.and_eq_true, decide_eq_true_eq] at hm
  exact hm
